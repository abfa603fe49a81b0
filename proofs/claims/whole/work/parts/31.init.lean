theorem kS_1200 : (Int16.ofInt (1200)).toInt32 = (1200 : Int32) := by decide +kernel
theorem kB_44 : (Int8.ofInt (44)).toInt32 = (44 : Int32) := by decide +kernel
theorem kB_108 : (Int8.ofInt (108)).toInt32 = (108 : Int32) := by decide +kernel
theorem kB_101 : (Int8.ofInt (101)).toInt32 = (101 : Int32) := by decide +kernel
theorem kB_110 : (Int8.ofInt (110)).toInt32 = (110 : Int32) := by decide +kernel
theorem kB_115 : (Int8.ofInt (115)).toInt32 = (115 : Int32) := by decide +kernel
theorem kB_53 : (Int8.ofInt (53)).toInt32 = (53 : Int32) := by decide +kernel
theorem kB_114 : (Int8.ofInt (114)).toInt32 = (114 : Int32) := by decide +kernel
theorem kB_111 : (Int8.ofInt (111)).toInt32 = (111 : Int32) := by decide +kernel
theorem kB_104 : (Int8.ofInt (104)).toInt32 = (104 : Int32) := by decide +kernel
theorem kB_21 : (Int8.ofInt (21)).toInt32 = (21 : Int32) := by decide +kernel
theorem kB_22 : (Int8.ofInt (22)).toInt32 = (22 : Int32) := by decide +kernel
theorem kB_23 : (Int8.ofInt (23)).toInt32 = (23 : Int32) := by decide +kernel
theorem kB_25 : (Int8.ofInt (25)).toInt32 = (25 : Int32) := by decide +kernel
theorem kB_54 : (Int8.ofInt (54)).toInt32 = (54 : Int32) := by decide +kernel
theorem kB_26 : (Int8.ofInt (26)).toInt32 = (26 : Int32) := by decide +kernel
theorem kB_27 : (Int8.ofInt (27)).toInt32 = (27 : Int32) := by decide +kernel
theorem kB_28 : (Int8.ofInt (28)).toInt32 = (28 : Int32) := by decide +kernel
theorem kB_29 : (Int8.ofInt (29)).toInt32 = (29 : Int32) := by decide +kernel
theorem kB_30 : (Int8.ofInt (30)).toInt32 = (30 : Int32) := by decide +kernel
theorem kB_109 : (Int8.ofInt (109)).toInt32 = (109 : Int32) := by decide +kernel
theorem kB_31 : (Int8.ofInt (31)).toInt32 = (31 : Int32) := by decide +kernel
theorem kB_105 : (Int8.ofInt (105)).toInt32 = (105 : Int32) := by decide +kernel
theorem kB_33 : (Int8.ofInt (33)).toInt32 = (33 : Int32) := by decide +kernel
theorem kB_34 : (Int8.ofInt (34)).toInt32 = (34 : Int32) := by decide +kernel
theorem kB_35 : (Int8.ofInt (35)).toInt32 = (35 : Int32) := by decide +kernel
theorem kB_36 : (Int8.ofInt (36)).toInt32 = (36 : Int32) := by decide +kernel
theorem kB_98 : (Int8.ofInt (98)).toInt32 = (98 : Int32) := by decide +kernel
theorem kB_37 : (Int8.ofInt (37)).toInt32 = (37 : Int32) := by decide +kernel
theorem kB_38 : (Int8.ofInt (38)).toInt32 = (38 : Int32) := by decide +kernel
theorem kB_39 : (Int8.ofInt (39)).toInt32 = (39 : Int32) := by decide +kernel
theorem kB_96 : (Int8.ofInt (96)).toInt32 = (96 : Int32) := by decide +kernel
theorem kB_46 : (Int8.ofInt (46)).toInt32 = (46 : Int32) := by decide +kernel
theorem kB_47 : (Int8.ofInt (47)).toInt32 = (47 : Int32) := by decide +kernel
theorem kB_49 : (Int8.ofInt (49)).toInt32 = (49 : Int32) := by decide +kernel
theorem kB_50 : (Int8.ofInt (50)).toInt32 = (50 : Int32) := by decide +kernel
theorem kB_121 : (Int8.ofInt (121)).toInt32 = (121 : Int32) := by decide +kernel
theorem kB_51 : (Int8.ofInt (51)).toInt32 = (51 : Int32) := by decide +kernel
theorem kB_52 : (Int8.ofInt (52)).toInt32 = (52 : Int32) := by decide +kernel
theorem kB_55 : (Int8.ofInt (55)).toInt32 = (55 : Int32) := by decide +kernel
theorem kB_56 : (Int8.ofInt (56)).toInt32 = (56 : Int32) := by decide +kernel
theorem kB_58 : (Int8.ofInt (58)).toInt32 = (58 : Int32) := by decide +kernel
theorem kB_107 : (Int8.ofInt (107)).toInt32 = (107 : Int32) := by decide +kernel
theorem kB_62 : (Int8.ofInt (62)).toInt32 = (62 : Int32) := by decide +kernel
theorem kB_64 : (Int8.ofInt (64)).toInt32 = (64 : Int32) := by decide +kernel
theorem kB_65 : (Int8.ofInt (65)).toInt32 = (65 : Int32) := by decide +kernel
theorem kB_66 : (Int8.ofInt (66)).toInt32 = (66 : Int32) := by decide +kernel
theorem kB_67 : (Int8.ofInt (67)).toInt32 = (67 : Int32) := by decide +kernel
theorem kB_68 : (Int8.ofInt (68)).toInt32 = (68 : Int32) := by decide +kernel
theorem kB_69 : (Int8.ofInt (69)).toInt32 = (69 : Int32) := by decide +kernel
theorem kB_70 : (Int8.ofInt (70)).toInt32 = (70 : Int32) := by decide +kernel
theorem kB_71 : (Int8.ofInt (71)).toInt32 = (71 : Int32) := by decide +kernel
theorem kB_72 : (Int8.ofInt (72)).toInt32 = (72 : Int32) := by decide +kernel
theorem kB_73 : (Int8.ofInt (73)).toInt32 = (73 : Int32) := by decide +kernel
theorem kB_74 : (Int8.ofInt (74)).toInt32 = (74 : Int32) := by decide +kernel
theorem kB_75 : (Int8.ofInt (75)).toInt32 = (75 : Int32) := by decide +kernel
theorem kB_76 : (Int8.ofInt (76)).toInt32 = (76 : Int32) := by decide +kernel
theorem kB_77 : (Int8.ofInt (77)).toInt32 = (77 : Int32) := by decide +kernel
theorem kB_78 : (Int8.ofInt (78)).toInt32 = (78 : Int32) := by decide +kernel
theorem kB_79 : (Int8.ofInt (79)).toInt32 = (79 : Int32) := by decide +kernel
theorem kB_80 : (Int8.ofInt (80)).toInt32 = (80 : Int32) := by decide +kernel
theorem kB_81 : (Int8.ofInt (81)).toInt32 = (81 : Int32) := by decide +kernel
theorem kB_82 : (Int8.ofInt (82)).toInt32 = (82 : Int32) := by decide +kernel
theorem kB_83 : (Int8.ofInt (83)).toInt32 = (83 : Int32) := by decide +kernel
theorem kB_84 : (Int8.ofInt (84)).toInt32 = (84 : Int32) := by decide +kernel
theorem kB_85 : (Int8.ofInt (85)).toInt32 = (85 : Int32) := by decide +kernel
theorem kB_86 : (Int8.ofInt (86)).toInt32 = (86 : Int32) := by decide +kernel
theorem kB_87 : (Int8.ofInt (87)).toInt32 = (87 : Int32) := by decide +kernel
theorem kB_88 : (Int8.ofInt (88)).toInt32 = (88 : Int32) := by decide +kernel
theorem kB_89 : (Int8.ofInt (89)).toInt32 = (89 : Int32) := by decide +kernel
theorem kB_90 : (Int8.ofInt (90)).toInt32 = (90 : Int32) := by decide +kernel
theorem kB_116 : (Int8.ofInt (116)).toInt32 = (116 : Int32) := by decide +kernel
theorem kB_91 : (Int8.ofInt (91)).toInt32 = (91 : Int32) := by decide +kernel
theorem kB_92 : (Int8.ofInt (92)).toInt32 = (92 : Int32) := by decide +kernel
theorem kB_93 : (Int8.ofInt (93)).toInt32 = (93 : Int32) := by decide +kernel
theorem kB_94 : (Int8.ofInt (94)).toInt32 = (94 : Int32) := by decide +kernel
theorem kB_95 : (Int8.ofInt (95)).toInt32 = (95 : Int32) := by decide +kernel
theorem ww_913 : Cond.methodLink RX11 1 Lib.objectInit ∈ e_big := bw (i := 913) (by decide +kernel) rfl
theorem fl_X11_43 : e_FL RX11 43 11 17 := ⟨⟨by decide, by decide⟩, bw (i := 978) (by decide +kernel) rfl⟩
theorem ww_914 : Cond.methodLink RX11 71 yX11_text ∈ e_big := bw (i := 914) (by decide +kernel) rfl
theorem ww_915 : Cond.instanceMethod yX11_text ∈ e_big := bw (i := 915) (by decide +kernel) rfl
theorem ww_916 : Cond.selects RX11 yX11_text yX11_text ∈ e_big := bw (i := 916) (by decide +kernel) rfl
theorem ww_917 : Cond.code yX11_text cX11_text 3 (some .int) ∈ e_big := bw (i := 917) (by decide +kernel) rfl
theorem cw_X11_71 : ∀ w ∈ wsV RX11 71 RX11 yX11_text [Cond.code yX11_text cX11_text 3 (some .int)], w ∈ e_big := e_all5 ww_914 ww_915 ww_916 ww_89 ww_917
/-! LeanedOutModel.<init> -/
abbrev M_X11_init : e_M := (yX11_init, cX11_init, 2, none)
theorem mk_X11_init : e_Mok M_X11_init 0 := ⟨by decide +kernel, by decide +kernel, by decide +kernel⟩
theorem dX11_init_0 : decode cX11_init 0 = .ok (.aload_n 0, 1) := by decide +kernel
theorem dX11_init_1 : decode cX11_init 1 = .ok (.invokespecial 1, 3) := by decide +kernel
theorem dX11_init_4 : decode cX11_init 4 = .ok (.aload_n 0, 1) := by decide +kernel
theorem dX11_init_5 : decode cX11_init 5 = .ok (.bipush 6, 2) := by decide +kernel
theorem dX11_init_7 : decode cX11_init 7 = .ok (.newarray .int, 2) := by decide +kernel
theorem dX11_init_9 : decode cX11_init 9 = .ok (.putfield 7, 3) := by decide +kernel
theorem dX11_init_12 : decode cX11_init 12 = .ok (.aload_n 0, 1) := by decide +kernel
theorem dX11_init_13 : decode cX11_init 13 = .ok (.bipush 6, 2) := by decide +kernel
theorem dX11_init_15 : decode cX11_init 15 = .ok (.newarray .int, 2) := by decide +kernel
theorem dX11_init_17 : decode cX11_init 17 = .ok (.putfield 13, 3) := by decide +kernel
theorem dX11_init_20 : decode cX11_init 20 = .ok (.aload_n 0, 1) := by decide +kernel
theorem dX11_init_21 : decode cX11_init 21 = .ok (.bipush 24, 2) := by decide +kernel
theorem dX11_init_23 : decode cX11_init 23 = .ok (.newarray .int, 2) := by decide +kernel
theorem dX11_init_25 : decode cX11_init 25 = .ok (.putfield 16, 3) := by decide +kernel
theorem dX11_init_28 : decode cX11_init 28 = .ok (.aload_n 0, 1) := by decide +kernel
theorem dX11_init_29 : decode cX11_init 29 = .ok (.sipush 160, 3) := by decide +kernel
theorem dX11_init_32 : decode cX11_init 32 = .ok (.newarray .int, 2) := by decide +kernel
theorem dX11_init_34 : decode cX11_init 34 = .ok (.putfield 19, 3) := by decide +kernel
theorem dX11_init_37 : decode cX11_init 37 = .ok (.aload_n 0, 1) := by decide +kernel
theorem dX11_init_38 : decode cX11_init 38 = .ok (.sipush 1200, 3) := by decide +kernel
theorem dX11_init_41 : decode cX11_init 41 = .ok (.newarray .int, 2) := by decide +kernel
theorem dX11_init_43 : decode cX11_init 43 = .ok (.putfield 22, 3) := by decide +kernel
theorem dX11_init_46 : decode cX11_init 46 = .ok (.aload_n 0, 1) := by decide +kernel
theorem dX11_init_47 : decode cX11_init 47 = .ok (.bipush 24, 2) := by decide +kernel
theorem dX11_init_49 : decode cX11_init 49 = .ok (.newarray .int, 2) := by decide +kernel
theorem dX11_init_51 : decode cX11_init 51 = .ok (.putfield 25, 3) := by decide +kernel
theorem dX11_init_54 : decode cX11_init 54 = .ok (.aload_n 0, 1) := by decide +kernel
theorem dX11_init_55 : decode cX11_init 55 = .ok (.bipush 24, 2) := by decide +kernel
theorem dX11_init_57 : decode cX11_init 57 = .ok (.newarray .int, 2) := by decide +kernel
theorem dX11_init_59 : decode cX11_init 59 = .ok (.putfield 28, 3) := by decide +kernel
theorem dX11_init_62 : decode cX11_init 62 = .ok (.aload_n 0, 1) := by decide +kernel
theorem dX11_init_63 : decode cX11_init 63 = .ok (.iconst 3, 1) := by decide +kernel
theorem dX11_init_64 : decode cX11_init 64 = .ok (.newarray .int, 2) := by decide +kernel
theorem dX11_init_66 : decode cX11_init 66 = .ok (.putfield 31, 3) := by decide +kernel
theorem dX11_init_69 : decode cX11_init 69 = .ok (.aload_n 0, 1) := by decide +kernel
theorem dX11_init_70 : decode cX11_init 70 = .ok (.iconst 4, 1) := by decide +kernel
theorem dX11_init_71 : decode cX11_init 71 = .ok (.newarray .int, 2) := by decide +kernel
theorem dX11_init_73 : decode cX11_init 73 = .ok (.dup, 1) := by decide +kernel
theorem dX11_init_74 : decode cX11_init 74 = .ok (.iconst 0, 1) := by decide +kernel
theorem dX11_init_75 : decode cX11_init 75 = .ok (.iconst (-1), 1) := by decide +kernel
theorem dX11_init_76 : decode cX11_init 76 = .ok (.iastore, 1) := by decide +kernel
theorem dX11_init_77 : decode cX11_init 77 = .ok (.dup, 1) := by decide +kernel
theorem dX11_init_78 : decode cX11_init 78 = .ok (.iconst 1, 1) := by decide +kernel
theorem dX11_init_79 : decode cX11_init 79 = .ok (.iconst (-1), 1) := by decide +kernel
theorem dX11_init_80 : decode cX11_init 80 = .ok (.iastore, 1) := by decide +kernel
theorem dX11_init_81 : decode cX11_init 81 = .ok (.dup, 1) := by decide +kernel
theorem dX11_init_82 : decode cX11_init 82 = .ok (.iconst 2, 1) := by decide +kernel
theorem dX11_init_83 : decode cX11_init 83 = .ok (.iconst (-1), 1) := by decide +kernel
theorem dX11_init_84 : decode cX11_init 84 = .ok (.iastore, 1) := by decide +kernel
theorem dX11_init_85 : decode cX11_init 85 = .ok (.dup, 1) := by decide +kernel
theorem dX11_init_86 : decode cX11_init 86 = .ok (.iconst 3, 1) := by decide +kernel
theorem dX11_init_87 : decode cX11_init 87 = .ok (.iconst (-1), 1) := by decide +kernel
theorem dX11_init_88 : decode cX11_init 88 = .ok (.iastore, 1) := by decide +kernel
theorem dX11_init_89 : decode cX11_init 89 = .ok (.putfield 34, 3) := by decide +kernel
theorem dX11_init_92 : decode cX11_init 92 = .ok (.aload_n 0, 1) := by decide +kernel
theorem dX11_init_93 : decode cX11_init 93 = .ok (.iconst 4, 1) := by decide +kernel
theorem dX11_init_94 : decode cX11_init 94 = .ok (.newarray .int, 2) := by decide +kernel
theorem dX11_init_96 : decode cX11_init 96 = .ok (.putfield 37, 3) := by decide +kernel
theorem dX11_init_99 : decode cX11_init 99 = .ok (.aload_n 0, 1) := by decide +kernel
theorem dX11_init_100 : decode cX11_init 100 = .ok (.sipush 160, 3) := by decide +kernel
theorem dX11_init_103 : decode cX11_init 103 = .ok (.newarray .int, 2) := by decide +kernel
theorem dX11_init_105 : decode cX11_init 105 = .ok (.putfield 40, 3) := by decide +kernel
theorem dX11_init_108 : decode cX11_init 108 = .ok (.aload_n 0, 1) := by decide +kernel
theorem dX11_init_109 : decode cX11_init 109 = .ok (.bipush 44, 2) := by decide +kernel
theorem dX11_init_111 : decode cX11_init 111 = .ok (.newarray .int, 2) := by decide +kernel
theorem dX11_init_113 : decode cX11_init 113 = .ok (.dup, 1) := by decide +kernel
theorem dX11_init_114 : decode cX11_init 114 = .ok (.iconst 0, 1) := by decide +kernel
theorem dX11_init_115 : decode cX11_init 115 = .ok (.bipush 108, 2) := by decide +kernel
theorem dX11_init_117 : decode cX11_init 117 = .ok (.iastore, 1) := by decide +kernel
theorem dX11_init_118 : decode cX11_init 118 = .ok (.dup, 1) := by decide +kernel
theorem dX11_init_119 : decode cX11_init 119 = .ok (.iconst 1, 1) := by decide +kernel
theorem dX11_init_120 : decode cX11_init 120 = .ok (.bipush 101, 2) := by decide +kernel
theorem dX11_init_122 : decode cX11_init 122 = .ok (.iastore, 1) := by decide +kernel
theorem dX11_init_123 : decode cX11_init 123 = .ok (.dup, 1) := by decide +kernel
theorem dX11_init_124 : decode cX11_init 124 = .ok (.iconst 2, 1) := by decide +kernel
theorem dX11_init_125 : decode cX11_init 125 = .ok (.bipush 97, 2) := by decide +kernel
theorem dX11_init_127 : decode cX11_init 127 = .ok (.iastore, 1) := by decide +kernel
theorem dX11_init_128 : decode cX11_init 128 = .ok (.dup, 1) := by decide +kernel
theorem dX11_init_129 : decode cX11_init 129 = .ok (.iconst 3, 1) := by decide +kernel
theorem dX11_init_130 : decode cX11_init 130 = .ok (.bipush 110, 2) := by decide +kernel
theorem dX11_init_132 : decode cX11_init 132 = .ok (.iastore, 1) := by decide +kernel
theorem dX11_init_133 : decode cX11_init 133 = .ok (.dup, 1) := by decide +kernel
theorem dX11_init_134 : decode cX11_init 134 = .ok (.iconst 4, 1) := by decide +kernel
theorem dX11_init_135 : decode cX11_init 135 = .ok (.bipush 115, 2) := by decide +kernel
theorem dX11_init_137 : decode cX11_init 137 = .ok (.iastore, 1) := by decide +kernel
theorem dX11_init_138 : decode cX11_init 138 = .ok (.dup, 1) := by decide +kernel
theorem dX11_init_139 : decode cX11_init 139 = .ok (.iconst 5, 1) := by decide +kernel
theorem dX11_init_140 : decode cX11_init 140 = .ok (.bipush 32, 2) := by decide +kernel
theorem dX11_init_142 : decode cX11_init 142 = .ok (.iastore, 1) := by decide +kernel
theorem dX11_init_143 : decode cX11_init 143 = .ok (.dup, 1) := by decide +kernel
theorem dX11_init_144 : decode cX11_init 144 = .ok (.bipush 6, 2) := by decide +kernel
theorem dX11_init_146 : decode cX11_init 146 = .ok (.bipush 53, 2) := by decide +kernel
theorem dX11_init_148 : decode cX11_init 148 = .ok (.iastore, 1) := by decide +kernel
theorem dX11_init_149 : decode cX11_init 149 = .ok (.dup, 1) := by decide +kernel
theorem dX11_init_150 : decode cX11_init 150 = .ok (.bipush 7, 2) := by decide +kernel
theorem dX11_init_152 : decode cX11_init 152 = .ok (.bipush 32, 2) := by decide +kernel
theorem dX11_init_154 : decode cX11_init 154 = .ok (.iastore, 1) := by decide +kernel
theorem dX11_init_155 : decode cX11_init 155 = .ok (.dup, 1) := by decide +kernel
theorem dX11_init_156 : decode cX11_init 156 = .ok (.bipush 8, 2) := by decide +kernel
theorem dX11_init_158 : decode cX11_init 158 = .ok (.bipush 45, 2) := by decide +kernel
theorem dX11_init_160 : decode cX11_init 160 = .ok (.iastore, 1) := by decide +kernel
theorem dX11_init_161 : decode cX11_init 161 = .ok (.dup, 1) := by decide +kernel
theorem dX11_init_162 : decode cX11_init 162 = .ok (.bipush 9, 2) := by decide +kernel
theorem dX11_init_164 : decode cX11_init 164 = .ok (.bipush 32, 2) := by decide +kernel
theorem dX11_init_166 : decode cX11_init 166 = .ok (.iastore, 1) := by decide +kernel
theorem dX11_init_167 : decode cX11_init 167 = .ok (.dup, 1) := by decide +kernel
theorem dX11_init_168 : decode cX11_init 168 = .ok (.bipush 10, 2) := by decide +kernel
theorem dX11_init_170 : decode cX11_init 170 = .ok (.bipush 97, 2) := by decide +kernel
theorem dX11_init_172 : decode cX11_init 172 = .ok (.iastore, 1) := by decide +kernel
theorem dX11_init_173 : decode cX11_init 173 = .ok (.dup, 1) := by decide +kernel
theorem dX11_init_174 : decode cX11_init 174 = .ok (.bipush 11, 2) := by decide +kernel
theorem dX11_init_176 : decode cX11_init 176 = .ok (.bipush 99, 2) := by decide +kernel
theorem dX11_init_178 : decode cX11_init 178 = .ok (.iastore, 1) := by decide +kernel
theorem dX11_init_179 : decode cX11_init 179 = .ok (.dup, 1) := by decide +kernel
theorem dX11_init_180 : decode cX11_init 180 = .ok (.bipush 12, 2) := by decide +kernel
theorem dX11_init_182 : decode cX11_init 182 = .ok (.bipush 114, 2) := by decide +kernel
theorem dX11_init_184 : decode cX11_init 184 = .ok (.iastore, 1) := by decide +kernel
theorem dX11_init_185 : decode cX11_init 185 = .ok (.dup, 1) := by decide +kernel
theorem dX11_init_186 : decode cX11_init 186 = .ok (.bipush 13, 2) := by decide +kernel
theorem dX11_init_188 : decode cX11_init 188 = .ok (.bipush 111, 2) := by decide +kernel
theorem dX11_init_190 : decode cX11_init 190 = .ok (.iastore, 1) := by decide +kernel
theorem dX11_init_191 : decode cX11_init 191 = .ok (.dup, 1) := by decide +kernel
theorem dX11_init_192 : decode cX11_init 192 = .ok (.bipush 14, 2) := by decide +kernel
theorem dX11_init_194 : decode cX11_init 194 = .ok (.bipush 115, 2) := by decide +kernel
theorem dX11_init_196 : decode cX11_init 196 = .ok (.iastore, 1) := by decide +kernel
theorem dX11_init_197 : decode cX11_init 197 = .ok (.dup, 1) := by decide +kernel
theorem dX11_init_198 : decode cX11_init 198 = .ok (.bipush 15, 2) := by decide +kernel
theorem dX11_init_200 : decode cX11_init 200 = .ok (.bipush 115, 2) := by decide +kernel
theorem dX11_init_202 : decode cX11_init 202 = .ok (.iastore, 1) := by decide +kernel
theorem dX11_init_203 : decode cX11_init 203 = .ok (.dup, 1) := by decide +kernel
theorem dX11_init_204 : decode cX11_init 204 = .ok (.bipush 16, 2) := by decide +kernel
theorem dX11_init_206 : decode cX11_init 206 = .ok (.bipush 32, 2) := by decide +kernel
theorem dX11_init_208 : decode cX11_init 208 = .ok (.iastore, 1) := by decide +kernel
theorem dX11_init_209 : decode cX11_init 209 = .ok (.dup, 1) := by decide +kernel
theorem dX11_init_210 : decode cX11_init 210 = .ok (.bipush 17, 2) := by decide +kernel
theorem dX11_init_212 : decode cX11_init 212 = .ok (.bipush 59, 2) := by decide +kernel
theorem dX11_init_214 : decode cX11_init 214 = .ok (.iastore, 1) := by decide +kernel
theorem dX11_init_215 : decode cX11_init 215 = .ok (.dup, 1) := by decide +kernel
theorem dX11_init_216 : decode cX11_init 216 = .ok (.bipush 18, 2) := by decide +kernel
theorem dX11_init_218 : decode cX11_init 218 = .ok (.bipush 32, 2) := by decide +kernel
theorem dX11_init_220 : decode cX11_init 220 = .ok (.iastore, 1) := by decide +kernel
theorem dX11_init_221 : decode cX11_init 221 = .ok (.dup, 1) := by decide +kernel
theorem dX11_init_222 : decode cX11_init 222 = .ok (.bipush 19, 2) := by decide +kernel
theorem dX11_init_224 : decode cX11_init 224 = .ok (.bipush 104, 2) := by decide +kernel
theorem dX11_init_226 : decode cX11_init 226 = .ok (.iastore, 1) := by decide +kernel
theorem dX11_init_227 : decode cX11_init 227 = .ok (.dup, 1) := by decide +kernel
theorem dX11_init_228 : decode cX11_init 228 = .ok (.bipush 20, 2) := by decide +kernel
theorem dX11_init_230 : decode cX11_init 230 = .ok (.bipush 111, 2) := by decide +kernel
theorem dX11_init_232 : decode cX11_init 232 = .ok (.iastore, 1) := by decide +kernel
theorem dX11_init_233 : decode cX11_init 233 = .ok (.dup, 1) := by decide +kernel
theorem dX11_init_234 : decode cX11_init 234 = .ok (.bipush 21, 2) := by decide +kernel
theorem dX11_init_236 : decode cX11_init 236 = .ok (.bipush 108, 2) := by decide +kernel
theorem dX11_init_238 : decode cX11_init 238 = .ok (.iastore, 1) := by decide +kernel
theorem dX11_init_239 : decode cX11_init 239 = .ok (.dup, 1) := by decide +kernel
theorem dX11_init_240 : decode cX11_init 240 = .ok (.bipush 22, 2) := by decide +kernel
theorem dX11_init_242 : decode cX11_init 242 = .ok (.bipush 100, 2) := by decide +kernel
theorem dX11_init_244 : decode cX11_init 244 = .ok (.iastore, 1) := by decide +kernel
theorem dX11_init_245 : decode cX11_init 245 = .ok (.dup, 1) := by decide +kernel
theorem dX11_init_246 : decode cX11_init 246 = .ok (.bipush 23, 2) := by decide +kernel
theorem dX11_init_248 : decode cX11_init 248 = .ok (.bipush 115, 2) := by decide +kernel
theorem dX11_init_250 : decode cX11_init 250 = .ok (.iastore, 1) := by decide +kernel
theorem dX11_init_251 : decode cX11_init 251 = .ok (.dup, 1) := by decide +kernel
theorem dX11_init_252 : decode cX11_init 252 = .ok (.bipush 24, 2) := by decide +kernel
theorem dX11_init_254 : decode cX11_init 254 = .ok (.bipush 32, 2) := by decide +kernel
theorem dX11_init_256 : decode cX11_init 256 = .ok (.iastore, 1) := by decide +kernel
theorem dX11_init_257 : decode cX11_init 257 = .ok (.dup, 1) := by decide +kernel
theorem dX11_init_258 : decode cX11_init 258 = .ok (.bipush 25, 2) := by decide +kernel
theorem dX11_init_260 : decode cX11_init 260 = .ok (.bipush 54, 2) := by decide +kernel
theorem dX11_init_262 : decode cX11_init 262 = .ok (.iastore, 1) := by decide +kernel
theorem dX11_init_263 : decode cX11_init 263 = .ok (.dup, 1) := by decide +kernel
theorem dX11_init_264 : decode cX11_init 264 = .ok (.bipush 26, 2) := by decide +kernel
theorem dX11_init_266 : decode cX11_init 266 = .ok (.bipush 48, 2) := by decide +kernel
theorem dX11_init_268 : decode cX11_init 268 = .ok (.iastore, 1) := by decide +kernel
theorem dX11_init_269 : decode cX11_init 269 = .ok (.dup, 1) := by decide +kernel
theorem dX11_init_270 : decode cX11_init 270 = .ok (.bipush 27, 2) := by decide +kernel
theorem dX11_init_272 : decode cX11_init 272 = .ok (.bipush 32, 2) := by decide +kernel
theorem dX11_init_274 : decode cX11_init 274 = .ok (.iastore, 1) := by decide +kernel
theorem dX11_init_275 : decode cX11_init 275 = .ok (.dup, 1) := by decide +kernel
theorem dX11_init_276 : decode cX11_init 276 = .ok (.bipush 28, 2) := by decide +kernel
theorem dX11_init_278 : decode cX11_init 278 = .ok (.bipush 59, 2) := by decide +kernel
theorem dX11_init_280 : decode cX11_init 280 = .ok (.iastore, 1) := by decide +kernel
theorem dX11_init_281 : decode cX11_init 281 = .ok (.dup, 1) := by decide +kernel
theorem dX11_init_282 : decode cX11_init 282 = .ok (.bipush 29, 2) := by decide +kernel
theorem dX11_init_284 : decode cX11_init 284 = .ok (.bipush 32, 2) := by decide +kernel
theorem dX11_init_286 : decode cX11_init 286 = .ok (.iastore, 1) := by decide +kernel
theorem dX11_init_287 : decode cX11_init 287 = .ok (.dup, 1) := by decide +kernel
theorem dX11_init_288 : decode cX11_init 288 = .ok (.bipush 30, 2) := by decide +kernel
theorem dX11_init_290 : decode cX11_init 290 = .ok (.bipush 109, 2) := by decide +kernel
theorem dX11_init_292 : decode cX11_init 292 = .ok (.iastore, 1) := by decide +kernel
theorem dX11_init_293 : decode cX11_init 293 = .ok (.dup, 1) := by decide +kernel
theorem dX11_init_294 : decode cX11_init 294 = .ok (.bipush 31, 2) := by decide +kernel
theorem dX11_init_296 : decode cX11_init 296 = .ok (.bipush 105, 2) := by decide +kernel
theorem dX11_init_298 : decode cX11_init 298 = .ok (.iastore, 1) := by decide +kernel
theorem dX11_init_299 : decode cX11_init 299 = .ok (.dup, 1) := by decide +kernel
theorem dX11_init_300 : decode cX11_init 300 = .ok (.bipush 32, 2) := by decide +kernel
theorem dX11_init_302 : decode cX11_init 302 = .ok (.bipush 110, 2) := by decide +kernel
theorem dX11_init_304 : decode cX11_init 304 = .ok (.iastore, 1) := by decide +kernel
theorem dX11_init_305 : decode cX11_init 305 = .ok (.dup, 1) := by decide +kernel
theorem dX11_init_306 : decode cX11_init 306 = .ok (.bipush 33, 2) := by decide +kernel
theorem dX11_init_308 : decode cX11_init 308 = .ok (.bipush 100, 2) := by decide +kernel
theorem dX11_init_310 : decode cX11_init 310 = .ok (.iastore, 1) := by decide +kernel
theorem dX11_init_311 : decode cX11_init 311 = .ok (.dup, 1) := by decide +kernel
theorem dX11_init_312 : decode cX11_init 312 = .ok (.bipush 34, 2) := by decide +kernel
theorem dX11_init_314 : decode cX11_init 314 = .ok (.bipush 115, 2) := by decide +kernel
theorem dX11_init_316 : decode cX11_init 316 = .ok (.iastore, 1) := by decide +kernel
theorem dX11_init_317 : decode cX11_init 317 = .ok (.dup, 1) := by decide +kernel
theorem dX11_init_318 : decode cX11_init 318 = .ok (.bipush 35, 2) := by decide +kernel
theorem dX11_init_320 : decode cX11_init 320 = .ok (.bipush 32, 2) := by decide +kernel
theorem dX11_init_322 : decode cX11_init 322 = .ok (.iastore, 1) := by decide +kernel
theorem dX11_init_323 : decode cX11_init 323 = .ok (.dup, 1) := by decide +kernel
theorem dX11_init_324 : decode cX11_init 324 = .ok (.bipush 36, 2) := by decide +kernel
theorem dX11_init_326 : decode cX11_init 326 = .ok (.bipush 98, 2) := by decide +kernel
theorem dX11_init_328 : decode cX11_init 328 = .ok (.iastore, 1) := by decide +kernel
theorem dX11_init_329 : decode cX11_init 329 = .ok (.dup, 1) := by decide +kernel
theorem dX11_init_330 : decode cX11_init 330 = .ok (.bipush 37, 2) := by decide +kernel
theorem dX11_init_332 : decode cX11_init 332 = .ok (.bipush 101, 2) := by decide +kernel
theorem dX11_init_334 : decode cX11_init 334 = .ok (.iastore, 1) := by decide +kernel
theorem dX11_init_335 : decode cX11_init 335 = .ok (.dup, 1) := by decide +kernel
theorem dX11_init_336 : decode cX11_init 336 = .ok (.bipush 38, 2) := by decide +kernel
theorem dX11_init_338 : decode cX11_init 338 = .ok (.bipush 115, 2) := by decide +kernel
theorem dX11_init_340 : decode cX11_init 340 = .ok (.iastore, 1) := by decide +kernel
theorem dX11_init_341 : decode cX11_init 341 = .ok (.dup, 1) := by decide +kernel
theorem dX11_init_342 : decode cX11_init 342 = .ok (.bipush 39, 2) := by decide +kernel
theorem dX11_init_344 : decode cX11_init 344 = .ok (.bipush 105, 2) := by decide +kernel
theorem dX11_init_346 : decode cX11_init 346 = .ok (.iastore, 1) := by decide +kernel
theorem dX11_init_347 : decode cX11_init 347 = .ok (.dup, 1) := by decide +kernel
theorem dX11_init_348 : decode cX11_init 348 = .ok (.bipush 40, 2) := by decide +kernel
theorem dX11_init_350 : decode cX11_init 350 = .ok (.bipush 100, 2) := by decide +kernel
theorem dX11_init_352 : decode cX11_init 352 = .ok (.iastore, 1) := by decide +kernel
theorem dX11_init_353 : decode cX11_init 353 = .ok (.dup, 1) := by decide +kernel
theorem dX11_init_354 : decode cX11_init 354 = .ok (.bipush 41, 2) := by decide +kernel
theorem dX11_init_356 : decode cX11_init 356 = .ok (.bipush 101, 2) := by decide +kernel
theorem dX11_init_358 : decode cX11_init 358 = .ok (.iastore, 1) := by decide +kernel
theorem dX11_init_359 : decode cX11_init 359 = .ok (.dup, 1) := by decide +kernel
theorem dX11_init_360 : decode cX11_init 360 = .ok (.bipush 42, 2) := by decide +kernel
theorem dX11_init_362 : decode cX11_init 362 = .ok (.bipush 32, 2) := by decide +kernel
theorem dX11_init_364 : decode cX11_init 364 = .ok (.iastore, 1) := by decide +kernel
theorem dX11_init_365 : decode cX11_init 365 = .ok (.dup, 1) := by decide +kernel
theorem dX11_init_366 : decode cX11_init 366 = .ok (.bipush 43, 2) := by decide +kernel
theorem dX11_init_368 : decode cX11_init 368 = .ok (.bipush 59, 2) := by decide +kernel
theorem dX11_init_370 : decode cX11_init 370 = .ok (.iastore, 1) := by decide +kernel
theorem dX11_init_371 : decode cX11_init 371 = .ok (.putfield 43, 3) := by decide +kernel
theorem dX11_init_374 : decode cX11_init 374 = .ok (.aload_n 0, 1) := by decide +kernel
theorem dX11_init_375 : decode cX11_init 375 = .ok (.bipush 96, 2) := by decide +kernel
theorem dX11_init_377 : decode cX11_init 377 = .ok (.newarray .int, 2) := by decide +kernel
theorem dX11_init_379 : decode cX11_init 379 = .ok (.dup, 1) := by decide +kernel
theorem dX11_init_380 : decode cX11_init 380 = .ok (.iconst 0, 1) := by decide +kernel
theorem dX11_init_381 : decode cX11_init 381 = .ok (.bipush 108, 2) := by decide +kernel
theorem dX11_init_383 : decode cX11_init 383 = .ok (.iastore, 1) := by decide +kernel
theorem dX11_init_384 : decode cX11_init 384 = .ok (.dup, 1) := by decide +kernel
theorem dX11_init_385 : decode cX11_init 385 = .ok (.iconst 1, 1) := by decide +kernel
theorem dX11_init_386 : decode cX11_init 386 = .ok (.bipush 101, 2) := by decide +kernel
theorem dX11_init_388 : decode cX11_init 388 = .ok (.iastore, 1) := by decide +kernel
theorem dX11_init_389 : decode cX11_init 389 = .ok (.dup, 1) := by decide +kernel
theorem dX11_init_390 : decode cX11_init 390 = .ok (.iconst 2, 1) := by decide +kernel
theorem dX11_init_391 : decode cX11_init 391 = .ok (.bipush 97, 2) := by decide +kernel
theorem dX11_init_393 : decode cX11_init 393 = .ok (.iastore, 1) := by decide +kernel
theorem dX11_init_394 : decode cX11_init 394 = .ok (.dup, 1) := by decide +kernel
theorem dX11_init_395 : decode cX11_init 395 = .ok (.iconst 3, 1) := by decide +kernel
theorem dX11_init_396 : decode cX11_init 396 = .ok (.bipush 110, 2) := by decide +kernel
theorem dX11_init_398 : decode cX11_init 398 = .ok (.iastore, 1) := by decide +kernel
theorem dX11_init_399 : decode cX11_init 399 = .ok (.dup, 1) := by decide +kernel
theorem dX11_init_400 : decode cX11_init 400 = .ok (.iconst 4, 1) := by decide +kernel
theorem dX11_init_401 : decode cX11_init 401 = .ok (.bipush 115, 2) := by decide +kernel
theorem dX11_init_403 : decode cX11_init 403 = .ok (.iastore, 1) := by decide +kernel
theorem dX11_init_404 : decode cX11_init 404 = .ok (.dup, 1) := by decide +kernel
theorem dX11_init_405 : decode cX11_init 405 = .ok (.iconst 5, 1) := by decide +kernel
theorem dX11_init_406 : decode cX11_init 406 = .ok (.bipush 32, 2) := by decide +kernel
theorem dX11_init_408 : decode cX11_init 408 = .ok (.iastore, 1) := by decide +kernel
theorem dX11_init_409 : decode cX11_init 409 = .ok (.dup, 1) := by decide +kernel
theorem dX11_init_410 : decode cX11_init 410 = .ok (.bipush 6, 2) := by decide +kernel
theorem dX11_init_412 : decode cX11_init 412 = .ok (.bipush 32, 2) := by decide +kernel
theorem dX11_init_414 : decode cX11_init 414 = .ok (.iastore, 1) := by decide +kernel
theorem dX11_init_415 : decode cX11_init 415 = .ok (.dup, 1) := by decide +kernel
theorem dX11_init_416 : decode cX11_init 416 = .ok (.bipush 7, 2) := by decide +kernel
theorem dX11_init_418 : decode cX11_init 418 = .ok (.bipush 32, 2) := by decide +kernel
theorem dX11_init_420 : decode cX11_init 420 = .ok (.iastore, 1) := by decide +kernel
theorem dX11_init_421 : decode cX11_init 421 = .ok (.dup, 1) := by decide +kernel
theorem dX11_init_422 : decode cX11_init 422 = .ok (.bipush 8, 2) := by decide +kernel
theorem dX11_init_424 : decode cX11_init 424 = .ok (.bipush 104, 2) := by decide +kernel
theorem dX11_init_426 : decode cX11_init 426 = .ok (.iastore, 1) := by decide +kernel
theorem dX11_init_427 : decode cX11_init 427 = .ok (.dup, 1) := by decide +kernel
theorem dX11_init_428 : decode cX11_init 428 = .ok (.bipush 9, 2) := by decide +kernel
theorem dX11_init_430 : decode cX11_init 430 = .ok (.bipush 111, 2) := by decide +kernel
theorem dX11_init_432 : decode cX11_init 432 = .ok (.iastore, 1) := by decide +kernel
theorem dX11_init_433 : decode cX11_init 433 = .ok (.dup, 1) := by decide +kernel
theorem dX11_init_434 : decode cX11_init 434 = .ok (.bipush 10, 2) := by decide +kernel
theorem dX11_init_436 : decode cX11_init 436 = .ok (.bipush 108, 2) := by decide +kernel
theorem dX11_init_438 : decode cX11_init 438 = .ok (.iastore, 1) := by decide +kernel
theorem dX11_init_439 : decode cX11_init 439 = .ok (.dup, 1) := by decide +kernel
theorem dX11_init_440 : decode cX11_init 440 = .ok (.bipush 11, 2) := by decide +kernel
theorem dX11_init_442 : decode cX11_init 442 = .ok (.bipush 100, 2) := by decide +kernel
theorem dX11_init_444 : decode cX11_init 444 = .ok (.iastore, 1) := by decide +kernel
theorem dX11_init_445 : decode cX11_init 445 = .ok (.dup, 1) := by decide +kernel
theorem dX11_init_446 : decode cX11_init 446 = .ok (.bipush 12, 2) := by decide +kernel
theorem dX11_init_448 : decode cX11_init 448 = .ok (.bipush 115, 2) := by decide +kernel
theorem dX11_init_450 : decode cX11_init 450 = .ok (.iastore, 1) := by decide +kernel
theorem dX11_init_451 : decode cX11_init 451 = .ok (.dup, 1) := by decide +kernel
theorem dX11_init_452 : decode cX11_init 452 = .ok (.bipush 13, 2) := by decide +kernel
theorem dX11_init_454 : decode cX11_init 454 = .ok (.bipush 32, 2) := by decide +kernel
theorem dX11_init_456 : decode cX11_init 456 = .ok (.iastore, 1) := by decide +kernel
theorem dX11_init_457 : decode cX11_init 457 = .ok (.dup, 1) := by decide +kernel
theorem dX11_init_458 : decode cX11_init 458 = .ok (.bipush 14, 2) := by decide +kernel
theorem dX11_init_460 : decode cX11_init 460 = .ok (.bipush 32, 2) := by decide +kernel
theorem dX11_init_462 : decode cX11_init 462 = .ok (.iastore, 1) := by decide +kernel
theorem dX11_init_463 : decode cX11_init 463 = .ok (.dup, 1) := by decide +kernel
theorem dX11_init_464 : decode cX11_init 464 = .ok (.bipush 15, 2) := by decide +kernel
theorem dX11_init_466 : decode cX11_init 466 = .ok (.bipush 32, 2) := by decide +kernel
theorem dX11_init_468 : decode cX11_init 468 = .ok (.iastore, 1) := by decide +kernel
theorem dX11_init_469 : decode cX11_init 469 = .ok (.dup, 1) := by decide +kernel
theorem dX11_init_470 : decode cX11_init 470 = .ok (.bipush 16, 2) := by decide +kernel
theorem dX11_init_472 : decode cX11_init 472 = .ok (.bipush 109, 2) := by decide +kernel
theorem dX11_init_474 : decode cX11_init 474 = .ok (.iastore, 1) := by decide +kernel
theorem dX11_init_475 : decode cX11_init 475 = .ok (.dup, 1) := by decide +kernel
theorem dX11_init_476 : decode cX11_init 476 = .ok (.bipush 17, 2) := by decide +kernel
theorem dX11_init_478 : decode cX11_init 478 = .ok (.bipush 105, 2) := by decide +kernel
theorem dX11_init_480 : decode cX11_init 480 = .ok (.iastore, 1) := by decide +kernel
theorem dX11_init_481 : decode cX11_init 481 = .ok (.dup, 1) := by decide +kernel
theorem dX11_init_482 : decode cX11_init 482 = .ok (.bipush 18, 2) := by decide +kernel
theorem dX11_init_484 : decode cX11_init 484 = .ok (.bipush 110, 2) := by decide +kernel
theorem dX11_init_486 : decode cX11_init 486 = .ok (.iastore, 1) := by decide +kernel
theorem dX11_init_487 : decode cX11_init 487 = .ok (.dup, 1) := by decide +kernel
theorem dX11_init_488 : decode cX11_init 488 = .ok (.bipush 19, 2) := by decide +kernel
theorem dX11_init_490 : decode cX11_init 490 = .ok (.bipush 100, 2) := by decide +kernel
theorem dX11_init_492 : decode cX11_init 492 = .ok (.iastore, 1) := by decide +kernel
theorem dX11_init_493 : decode cX11_init 493 = .ok (.dup, 1) := by decide +kernel
theorem dX11_init_494 : decode cX11_init 494 = .ok (.bipush 20, 2) := by decide +kernel
theorem dX11_init_496 : decode cX11_init 496 = .ok (.bipush 115, 2) := by decide +kernel
theorem dX11_init_498 : decode cX11_init 498 = .ok (.iastore, 1) := by decide +kernel
theorem dX11_init_499 : decode cX11_init 499 = .ok (.dup, 1) := by decide +kernel
theorem dX11_init_500 : decode cX11_init 500 = .ok (.bipush 21, 2) := by decide +kernel
theorem dX11_init_502 : decode cX11_init 502 = .ok (.bipush 32, 2) := by decide +kernel
theorem dX11_init_504 : decode cX11_init 504 = .ok (.iastore, 1) := by decide +kernel
theorem dX11_init_505 : decode cX11_init 505 = .ok (.dup, 1) := by decide +kernel
theorem dX11_init_506 : decode cX11_init 506 = .ok (.bipush 22, 2) := by decide +kernel
theorem dX11_init_508 : decode cX11_init 508 = .ok (.bipush 32, 2) := by decide +kernel
theorem dX11_init_510 : decode cX11_init 510 = .ok (.iastore, 1) := by decide +kernel
theorem dX11_init_511 : decode cX11_init 511 = .ok (.dup, 1) := by decide +kernel
theorem dX11_init_512 : decode cX11_init 512 = .ok (.bipush 23, 2) := by decide +kernel
theorem dX11_init_514 : decode cX11_init 514 = .ok (.bipush 32, 2) := by decide +kernel
theorem dX11_init_516 : decode cX11_init 516 = .ok (.iastore, 1) := by decide +kernel
theorem dX11_init_517 : decode cX11_init 517 = .ok (.dup, 1) := by decide +kernel
theorem dX11_init_518 : decode cX11_init 518 = .ok (.bipush 24, 2) := by decide +kernel
theorem dX11_init_520 : decode cX11_init 520 = .ok (.bipush 108, 2) := by decide +kernel
theorem dX11_init_522 : decode cX11_init 522 = .ok (.iastore, 1) := by decide +kernel
theorem dX11_init_523 : decode cX11_init 523 = .ok (.dup, 1) := by decide +kernel
theorem dX11_init_524 : decode cX11_init 524 = .ok (.bipush 25, 2) := by decide +kernel
theorem dX11_init_526 : decode cX11_init 526 = .ok (.bipush 101, 2) := by decide +kernel
theorem dX11_init_528 : decode cX11_init 528 = .ok (.iastore, 1) := by decide +kernel
theorem dX11_init_529 : decode cX11_init 529 = .ok (.dup, 1) := by decide +kernel
theorem dX11_init_530 : decode cX11_init 530 = .ok (.bipush 26, 2) := by decide +kernel
theorem dX11_init_532 : decode cX11_init 532 = .ok (.bipush 97, 2) := by decide +kernel
theorem dX11_init_534 : decode cX11_init 534 = .ok (.iastore, 1) := by decide +kernel
theorem dX11_init_535 : decode cX11_init 535 = .ok (.dup, 1) := by decide +kernel
theorem dX11_init_536 : decode cX11_init 536 = .ok (.bipush 27, 2) := by decide +kernel
theorem dX11_init_538 : decode cX11_init 538 = .ok (.bipush 110, 2) := by decide +kernel
theorem dX11_init_540 : decode cX11_init 540 = .ok (.iastore, 1) := by decide +kernel
theorem dX11_init_541 : decode cX11_init 541 = .ok (.dup, 1) := by decide +kernel
theorem dX11_init_542 : decode cX11_init 542 = .ok (.bipush 28, 2) := by decide +kernel
theorem dX11_init_544 : decode cX11_init 544 = .ok (.bipush 32, 2) := by decide +kernel
theorem dX11_init_546 : decode cX11_init 546 = .ok (.iastore, 1) := by decide +kernel
theorem dX11_init_547 : decode cX11_init 547 = .ok (.dup, 1) := by decide +kernel
theorem dX11_init_548 : decode cX11_init 548 = .ok (.bipush 29, 2) := by decide +kernel
theorem dX11_init_550 : decode cX11_init 550 = .ok (.bipush 32, 2) := by decide +kernel
theorem dX11_init_552 : decode cX11_init 552 = .ok (.iastore, 1) := by decide +kernel
theorem dX11_init_553 : decode cX11_init 553 = .ok (.dup, 1) := by decide +kernel
theorem dX11_init_554 : decode cX11_init 554 = .ok (.bipush 30, 2) := by decide +kernel
theorem dX11_init_556 : decode cX11_init 556 = .ok (.bipush 32, 2) := by decide +kernel
theorem dX11_init_558 : decode cX11_init 558 = .ok (.iastore, 1) := by decide +kernel
theorem dX11_init_559 : decode cX11_init 559 = .ok (.dup, 1) := by decide +kernel
theorem dX11_init_560 : decode cX11_init 560 = .ok (.bipush 31, 2) := by decide +kernel
theorem dX11_init_562 : decode cX11_init 562 = .ok (.bipush 32, 2) := by decide +kernel
theorem dX11_init_564 : decode cX11_init 564 = .ok (.iastore, 1) := by decide +kernel
theorem dX11_init_565 : decode cX11_init 565 = .ok (.dup, 1) := by decide +kernel
theorem dX11_init_566 : decode cX11_init 566 = .ok (.bipush 32, 2) := by decide +kernel
theorem dX11_init_568 : decode cX11_init 568 = .ok (.bipush 97, 2) := by decide +kernel
theorem dX11_init_570 : decode cX11_init 570 = .ok (.iastore, 1) := by decide +kernel
theorem dX11_init_571 : decode cX11_init 571 = .ok (.dup, 1) := by decide +kernel
theorem dX11_init_572 : decode cX11_init 572 = .ok (.bipush 33, 2) := by decide +kernel
theorem dX11_init_574 : decode cX11_init 574 = .ok (.bipush 99, 2) := by decide +kernel
theorem dX11_init_576 : decode cX11_init 576 = .ok (.iastore, 1) := by decide +kernel
theorem dX11_init_577 : decode cX11_init 577 = .ok (.dup, 1) := by decide +kernel
theorem dX11_init_578 : decode cX11_init 578 = .ok (.bipush 34, 2) := by decide +kernel
theorem dX11_init_580 : decode cX11_init 580 = .ok (.bipush 114, 2) := by decide +kernel
theorem dX11_init_582 : decode cX11_init 582 = .ok (.iastore, 1) := by decide +kernel
theorem dX11_init_583 : decode cX11_init 583 = .ok (.dup, 1) := by decide +kernel
theorem dX11_init_584 : decode cX11_init 584 = .ok (.bipush 35, 2) := by decide +kernel
theorem dX11_init_586 : decode cX11_init 586 = .ok (.bipush 111, 2) := by decide +kernel
theorem dX11_init_588 : decode cX11_init 588 = .ok (.iastore, 1) := by decide +kernel
theorem dX11_init_589 : decode cX11_init 589 = .ok (.dup, 1) := by decide +kernel
theorem dX11_init_590 : decode cX11_init 590 = .ok (.bipush 36, 2) := by decide +kernel
theorem dX11_init_592 : decode cX11_init 592 = .ok (.bipush 115, 2) := by decide +kernel
theorem dX11_init_594 : decode cX11_init 594 = .ok (.iastore, 1) := by decide +kernel
theorem dX11_init_595 : decode cX11_init 595 = .ok (.dup, 1) := by decide +kernel
theorem dX11_init_596 : decode cX11_init 596 = .ok (.bipush 37, 2) := by decide +kernel
theorem dX11_init_598 : decode cX11_init 598 = .ok (.bipush 115, 2) := by decide +kernel
theorem dX11_init_600 : decode cX11_init 600 = .ok (.iastore, 1) := by decide +kernel
theorem dX11_init_601 : decode cX11_init 601 = .ok (.dup, 1) := by decide +kernel
theorem dX11_init_602 : decode cX11_init 602 = .ok (.bipush 38, 2) := by decide +kernel
theorem dX11_init_604 : decode cX11_init 604 = .ok (.bipush 32, 2) := by decide +kernel
theorem dX11_init_606 : decode cX11_init 606 = .ok (.iastore, 1) := by decide +kernel
theorem dX11_init_607 : decode cX11_init 607 = .ok (.dup, 1) := by decide +kernel
theorem dX11_init_608 : decode cX11_init 608 = .ok (.bipush 39, 2) := by decide +kernel
theorem dX11_init_610 : decode cX11_init 610 = .ok (.bipush 32, 2) := by decide +kernel
theorem dX11_init_612 : decode cX11_init 612 = .ok (.iastore, 1) := by decide +kernel
theorem dX11_init_613 : decode cX11_init 613 = .ok (.dup, 1) := by decide +kernel
theorem dX11_init_614 : decode cX11_init 614 = .ok (.bipush 40, 2) := by decide +kernel
theorem dX11_init_616 : decode cX11_init 616 = .ok (.bipush 98, 2) := by decide +kernel
theorem dX11_init_618 : decode cX11_init 618 = .ok (.iastore, 1) := by decide +kernel
theorem dX11_init_619 : decode cX11_init 619 = .ok (.dup, 1) := by decide +kernel
theorem dX11_init_620 : decode cX11_init 620 = .ok (.bipush 41, 2) := by decide +kernel
theorem dX11_init_622 : decode cX11_init 622 = .ok (.bipush 101, 2) := by decide +kernel
theorem dX11_init_624 : decode cX11_init 624 = .ok (.iastore, 1) := by decide +kernel
theorem dX11_init_625 : decode cX11_init 625 = .ok (.dup, 1) := by decide +kernel
theorem dX11_init_626 : decode cX11_init 626 = .ok (.bipush 42, 2) := by decide +kernel
theorem dX11_init_628 : decode cX11_init 628 = .ok (.bipush 115, 2) := by decide +kernel
theorem dX11_init_630 : decode cX11_init 630 = .ok (.iastore, 1) := by decide +kernel
theorem dX11_init_631 : decode cX11_init 631 = .ok (.dup, 1) := by decide +kernel
theorem dX11_init_632 : decode cX11_init 632 = .ok (.bipush 43, 2) := by decide +kernel
theorem dX11_init_634 : decode cX11_init 634 = .ok (.bipush 105, 2) := by decide +kernel
theorem dX11_init_636 : decode cX11_init 636 = .ok (.iastore, 1) := by decide +kernel
theorem dX11_init_637 : decode cX11_init 637 = .ok (.dup, 1) := by decide +kernel
theorem dX11_init_638 : decode cX11_init 638 = .ok (.bipush 44, 2) := by decide +kernel
theorem dX11_init_640 : decode cX11_init 640 = .ok (.bipush 100, 2) := by decide +kernel
theorem dX11_init_642 : decode cX11_init 642 = .ok (.iastore, 1) := by decide +kernel
theorem dX11_init_643 : decode cX11_init 643 = .ok (.dup, 1) := by decide +kernel
theorem dX11_init_644 : decode cX11_init 644 = .ok (.bipush 45, 2) := by decide +kernel
theorem dX11_init_646 : decode cX11_init 646 = .ok (.bipush 101, 2) := by decide +kernel
theorem dX11_init_648 : decode cX11_init 648 = .ok (.iastore, 1) := by decide +kernel
theorem dX11_init_649 : decode cX11_init 649 = .ok (.dup, 1) := by decide +kernel
theorem dX11_init_650 : decode cX11_init 650 = .ok (.bipush 46, 2) := by decide +kernel
theorem dX11_init_652 : decode cX11_init 652 = .ok (.bipush 32, 2) := by decide +kernel
theorem dX11_init_654 : decode cX11_init 654 = .ok (.iastore, 1) := by decide +kernel
theorem dX11_init_655 : decode cX11_init 655 = .ok (.dup, 1) := by decide +kernel
theorem dX11_init_656 : decode cX11_init 656 = .ok (.bipush 47, 2) := by decide +kernel
theorem dX11_init_658 : decode cX11_init 658 = .ok (.bipush 32, 2) := by decide +kernel
theorem dX11_init_660 : decode cX11_init 660 = .ok (.iastore, 1) := by decide +kernel
theorem dX11_init_661 : decode cX11_init 661 = .ok (.dup, 1) := by decide +kernel
theorem dX11_init_662 : decode cX11_init 662 = .ok (.bipush 48, 2) := by decide +kernel
theorem dX11_init_664 : decode cX11_init 664 = .ok (.bipush 100, 2) := by decide +kernel
theorem dX11_init_666 : decode cX11_init 666 = .ok (.iastore, 1) := by decide +kernel
theorem dX11_init_667 : decode cX11_init 667 = .ok (.dup, 1) := by decide +kernel
theorem dX11_init_668 : decode cX11_init 668 = .ok (.bipush 49, 2) := by decide +kernel
theorem dX11_init_670 : decode cX11_init 670 = .ok (.bipush 97, 2) := by decide +kernel
theorem dX11_init_672 : decode cX11_init 672 = .ok (.iastore, 1) := by decide +kernel
theorem dX11_init_673 : decode cX11_init 673 = .ok (.dup, 1) := by decide +kernel
theorem dX11_init_674 : decode cX11_init 674 = .ok (.bipush 50, 2) := by decide +kernel
theorem dX11_init_676 : decode cX11_init 676 = .ok (.bipush 121, 2) := by decide +kernel
theorem dX11_init_678 : decode cX11_init 678 = .ok (.iastore, 1) := by decide +kernel
theorem dX11_init_679 : decode cX11_init 679 = .ok (.dup, 1) := by decide +kernel
theorem dX11_init_680 : decode cX11_init 680 = .ok (.bipush 51, 2) := by decide +kernel
theorem dX11_init_682 : decode cX11_init 682 = .ok (.bipush 32, 2) := by decide +kernel
theorem dX11_init_684 : decode cX11_init 684 = .ok (.iastore, 1) := by decide +kernel
theorem dX11_init_685 : decode cX11_init 685 = .ok (.dup, 1) := by decide +kernel
theorem dX11_init_686 : decode cX11_init 686 = .ok (.bipush 52, 2) := by decide +kernel
theorem dX11_init_688 : decode cX11_init 688 = .ok (.bipush 32, 2) := by decide +kernel
theorem dX11_init_690 : decode cX11_init 690 = .ok (.iastore, 1) := by decide +kernel
theorem dX11_init_691 : decode cX11_init 691 = .ok (.dup, 1) := by decide +kernel
theorem dX11_init_692 : decode cX11_init 692 = .ok (.bipush 53, 2) := by decide +kernel
theorem dX11_init_694 : decode cX11_init 694 = .ok (.bipush 32, 2) := by decide +kernel
theorem dX11_init_696 : decode cX11_init 696 = .ok (.iastore, 1) := by decide +kernel
theorem dX11_init_697 : decode cX11_init 697 = .ok (.dup, 1) := by decide +kernel
theorem dX11_init_698 : decode cX11_init 698 = .ok (.bipush 54, 2) := by decide +kernel
theorem dX11_init_700 : decode cX11_init 700 = .ok (.bipush 32, 2) := by decide +kernel
theorem dX11_init_702 : decode cX11_init 702 = .ok (.iastore, 1) := by decide +kernel
theorem dX11_init_703 : decode cX11_init 703 = .ok (.dup, 1) := by decide +kernel
theorem dX11_init_704 : decode cX11_init 704 = .ok (.bipush 55, 2) := by decide +kernel
theorem dX11_init_706 : decode cX11_init 706 = .ok (.bipush 32, 2) := by decide +kernel
theorem dX11_init_708 : decode cX11_init 708 = .ok (.iastore, 1) := by decide +kernel
theorem dX11_init_709 : decode cX11_init 709 = .ok (.dup, 1) := by decide +kernel
theorem dX11_init_710 : decode cX11_init 710 = .ok (.bipush 56, 2) := by decide +kernel
theorem dX11_init_712 : decode cX11_init 712 = .ok (.bipush 108, 2) := by decide +kernel
theorem dX11_init_714 : decode cX11_init 714 = .ok (.iastore, 1) := by decide +kernel
theorem dX11_init_715 : decode cX11_init 715 = .ok (.dup, 1) := by decide +kernel
theorem dX11_init_716 : decode cX11_init 716 = .ok (.bipush 57, 2) := by decide +kernel
theorem dX11_init_718 : decode cX11_init 718 = .ok (.bipush 111, 2) := by decide +kernel
theorem dX11_init_720 : decode cX11_init 720 = .ok (.iastore, 1) := by decide +kernel
theorem dX11_init_721 : decode cX11_init 721 = .ok (.dup, 1) := by decide +kernel
theorem dX11_init_722 : decode cX11_init 722 = .ok (.bipush 58, 2) := by decide +kernel
theorem dX11_init_724 : decode cX11_init 724 = .ok (.bipush 111, 2) := by decide +kernel
theorem dX11_init_726 : decode cX11_init 726 = .ok (.iastore, 1) := by decide +kernel
theorem dX11_init_727 : decode cX11_init 727 = .ok (.dup, 1) := by decide +kernel
theorem dX11_init_728 : decode cX11_init 728 = .ok (.bipush 59, 2) := by decide +kernel
theorem dX11_init_730 : decode cX11_init 730 = .ok (.bipush 107, 2) := by decide +kernel
theorem dX11_init_732 : decode cX11_init 732 = .ok (.iastore, 1) := by decide +kernel
theorem dX11_init_733 : decode cX11_init 733 = .ok (.dup, 1) := by decide +kernel
theorem dX11_init_734 : decode cX11_init 734 = .ok (.bipush 60, 2) := by decide +kernel
theorem dX11_init_736 : decode cX11_init 736 = .ok (.bipush 101, 2) := by decide +kernel
theorem dX11_init_738 : decode cX11_init 738 = .ok (.iastore, 1) := by decide +kernel
theorem dX11_init_739 : decode cX11_init 739 = .ok (.dup, 1) := by decide +kernel
theorem dX11_init_740 : decode cX11_init 740 = .ok (.bipush 61, 2) := by decide +kernel
theorem dX11_init_742 : decode cX11_init 742 = .ok (.bipush 114, 2) := by decide +kernel
theorem dX11_init_744 : decode cX11_init 744 = .ok (.iastore, 1) := by decide +kernel
theorem dX11_init_745 : decode cX11_init 745 = .ok (.dup, 1) := by decide +kernel
theorem dX11_init_746 : decode cX11_init 746 = .ok (.bipush 62, 2) := by decide +kernel
theorem dX11_init_748 : decode cX11_init 748 = .ok (.bipush 115, 2) := by decide +kernel
theorem dX11_init_750 : decode cX11_init 750 = .ok (.iastore, 1) := by decide +kernel
theorem dX11_init_751 : decode cX11_init 751 = .ok (.dup, 1) := by decide +kernel
theorem dX11_init_752 : decode cX11_init 752 = .ok (.bipush 63, 2) := by decide +kernel
theorem dX11_init_754 : decode cX11_init 754 = .ok (.bipush 32, 2) := by decide +kernel
theorem dX11_init_756 : decode cX11_init 756 = .ok (.iastore, 1) := by decide +kernel
theorem dX11_init_757 : decode cX11_init 757 = .ok (.dup, 1) := by decide +kernel
theorem dX11_init_758 : decode cX11_init 758 = .ok (.bipush 64, 2) := by decide +kernel
theorem dX11_init_760 : decode cX11_init 760 = .ok (.bipush 109, 2) := by decide +kernel
theorem dX11_init_762 : decode cX11_init 762 = .ok (.iastore, 1) := by decide +kernel
theorem dX11_init_763 : decode cX11_init 763 = .ok (.dup, 1) := by decide +kernel
theorem dX11_init_764 : decode cX11_init 764 = .ok (.bipush 65, 2) := by decide +kernel
theorem dX11_init_766 : decode cX11_init 766 = .ok (.bipush 111, 2) := by decide +kernel
theorem dX11_init_768 : decode cX11_init 768 = .ok (.iastore, 1) := by decide +kernel
theorem dX11_init_769 : decode cX11_init 769 = .ok (.dup, 1) := by decide +kernel
theorem dX11_init_770 : decode cX11_init 770 = .ok (.bipush 66, 2) := by decide +kernel
theorem dX11_init_772 : decode cX11_init 772 = .ok (.bipush 114, 2) := by decide +kernel
theorem dX11_init_774 : decode cX11_init 774 = .ok (.iastore, 1) := by decide +kernel
theorem dX11_init_775 : decode cX11_init 775 = .ok (.dup, 1) := by decide +kernel
theorem dX11_init_776 : decode cX11_init 776 = .ok (.bipush 67, 2) := by decide +kernel
theorem dX11_init_778 : decode cX11_init 778 = .ok (.bipush 101, 2) := by decide +kernel
theorem dX11_init_780 : decode cX11_init 780 = .ok (.iastore, 1) := by decide +kernel
theorem dX11_init_781 : decode cX11_init 781 = .ok (.dup, 1) := by decide +kernel
theorem dX11_init_782 : decode cX11_init 782 = .ok (.bipush 68, 2) := by decide +kernel
theorem dX11_init_784 : decode cX11_init 784 = .ok (.bipush 32, 2) := by decide +kernel
theorem dX11_init_786 : decode cX11_init 786 = .ok (.iastore, 1) := by decide +kernel
theorem dX11_init_787 : decode cX11_init 787 = .ok (.dup, 1) := by decide +kernel
theorem dX11_init_788 : decode cX11_init 788 = .ok (.bipush 69, 2) := by decide +kernel
theorem dX11_init_790 : decode cX11_init 790 = .ok (.bipush 32, 2) := by decide +kernel
theorem dX11_init_792 : decode cX11_init 792 = .ok (.iastore, 1) := by decide +kernel
theorem dX11_init_793 : decode cX11_init 793 = .ok (.dup, 1) := by decide +kernel
theorem dX11_init_794 : decode cX11_init 794 = .ok (.bipush 70, 2) := by decide +kernel
theorem dX11_init_796 : decode cX11_init 796 = .ok (.bipush 32, 2) := by decide +kernel
theorem dX11_init_798 : decode cX11_init 798 = .ok (.iastore, 1) := by decide +kernel
theorem dX11_init_799 : decode cX11_init 799 = .ok (.dup, 1) := by decide +kernel
theorem dX11_init_800 : decode cX11_init 800 = .ok (.bipush 71, 2) := by decide +kernel
theorem dX11_init_802 : decode cX11_init 802 = .ok (.bipush 32, 2) := by decide +kernel
theorem dX11_init_804 : decode cX11_init 804 = .ok (.iastore, 1) := by decide +kernel
theorem dX11_init_805 : decode cX11_init 805 = .ok (.dup, 1) := by decide +kernel
theorem dX11_init_806 : decode cX11_init 806 = .ok (.bipush 72, 2) := by decide +kernel
theorem dX11_init_808 : decode cX11_init 808 = .ok (.bipush 111, 2) := by decide +kernel
theorem dX11_init_810 : decode cX11_init 810 = .ok (.iastore, 1) := by decide +kernel
theorem dX11_init_811 : decode cX11_init 811 = .ok (.dup, 1) := by decide +kernel
theorem dX11_init_812 : decode cX11_init 812 = .ok (.bipush 73, 2) := by decide +kernel
theorem dX11_init_814 : decode cX11_init 814 = .ok (.bipush 114, 2) := by decide +kernel
theorem dX11_init_816 : decode cX11_init 816 = .ok (.iastore, 1) := by decide +kernel
theorem dX11_init_817 : decode cX11_init 817 = .ok (.dup, 1) := by decide +kernel
theorem dX11_init_818 : decode cX11_init 818 = .ok (.bipush 74, 2) := by decide +kernel
theorem dX11_init_820 : decode cX11_init 820 = .ok (.bipush 32, 2) := by decide +kernel
theorem dX11_init_822 : decode cX11_init 822 = .ok (.iastore, 1) := by decide +kernel
theorem dX11_init_823 : decode cX11_init 823 = .ok (.dup, 1) := by decide +kernel
theorem dX11_init_824 : decode cX11_init 824 = .ok (.bipush 75, 2) := by decide +kernel
theorem dX11_init_826 : decode cX11_init 826 = .ok (.bipush 32, 2) := by decide +kernel
theorem dX11_init_828 : decode cX11_init 828 = .ok (.iastore, 1) := by decide +kernel
theorem dX11_init_829 : decode cX11_init 829 = .ok (.dup, 1) := by decide +kernel
theorem dX11_init_830 : decode cX11_init 830 = .ok (.bipush 76, 2) := by decide +kernel
theorem dX11_init_832 : decode cX11_init 832 = .ok (.bipush 32, 2) := by decide +kernel
theorem dX11_init_834 : decode cX11_init 834 = .ok (.iastore, 1) := by decide +kernel
theorem dX11_init_835 : decode cX11_init 835 = .ok (.dup, 1) := by decide +kernel
theorem dX11_init_836 : decode cX11_init 836 = .ok (.bipush 77, 2) := by decide +kernel
theorem dX11_init_838 : decode cX11_init 838 = .ok (.bipush 32, 2) := by decide +kernel
theorem dX11_init_840 : decode cX11_init 840 = .ok (.iastore, 1) := by decide +kernel
theorem dX11_init_841 : decode cX11_init 841 = .ok (.dup, 1) := by decide +kernel
theorem dX11_init_842 : decode cX11_init 842 = .ok (.bipush 78, 2) := by decide +kernel
theorem dX11_init_844 : decode cX11_init 844 = .ok (.bipush 32, 2) := by decide +kernel
theorem dX11_init_846 : decode cX11_init 846 = .ok (.iastore, 1) := by decide +kernel
theorem dX11_init_847 : decode cX11_init 847 = .ok (.dup, 1) := by decide +kernel
theorem dX11_init_848 : decode cX11_init 848 = .ok (.bipush 79, 2) := by decide +kernel
theorem dX11_init_850 : decode cX11_init 850 = .ok (.bipush 32, 2) := by decide +kernel
theorem dX11_init_852 : decode cX11_init 852 = .ok (.iastore, 1) := by decide +kernel
theorem dX11_init_853 : decode cX11_init 853 = .ok (.dup, 1) := by decide +kernel
theorem dX11_init_854 : decode cX11_init 854 = .ok (.bipush 80, 2) := by decide +kernel
theorem dX11_init_856 : decode cX11_init 856 = .ok (.bipush 97, 2) := by decide +kernel
theorem dX11_init_858 : decode cX11_init 858 = .ok (.iastore, 1) := by decide +kernel
theorem dX11_init_859 : decode cX11_init 859 = .ok (.dup, 1) := by decide +kernel
theorem dX11_init_860 : decode cX11_init 860 = .ok (.bipush 81, 2) := by decide +kernel
theorem dX11_init_862 : decode cX11_init 862 = .ok (.bipush 110, 2) := by decide +kernel
theorem dX11_init_864 : decode cX11_init 864 = .ok (.iastore, 1) := by decide +kernel
theorem dX11_init_865 : decode cX11_init 865 = .ok (.dup, 1) := by decide +kernel
theorem dX11_init_866 : decode cX11_init 866 = .ok (.bipush 82, 2) := by decide +kernel
theorem dX11_init_868 : decode cX11_init 868 = .ok (.bipush 100, 2) := by decide +kernel
theorem dX11_init_870 : decode cX11_init 870 = .ok (.iastore, 1) := by decide +kernel
theorem dX11_init_871 : decode cX11_init 871 = .ok (.dup, 1) := by decide +kernel
theorem dX11_init_872 : decode cX11_init 872 = .ok (.bipush 83, 2) := by decide +kernel
theorem dX11_init_874 : decode cX11_init 874 = .ok (.bipush 32, 2) := by decide +kernel
theorem dX11_init_876 : decode cX11_init 876 = .ok (.iastore, 1) := by decide +kernel
theorem dX11_init_877 : decode cX11_init 877 = .ok (.dup, 1) := by decide +kernel
theorem dX11_init_878 : decode cX11_init 878 = .ok (.bipush 84, 2) := by decide +kernel
theorem dX11_init_880 : decode cX11_init 880 = .ok (.bipush 32, 2) := by decide +kernel
theorem dX11_init_882 : decode cX11_init 882 = .ok (.iastore, 1) := by decide +kernel
theorem dX11_init_883 : decode cX11_init 883 = .ok (.dup, 1) := by decide +kernel
theorem dX11_init_884 : decode cX11_init 884 = .ok (.bipush 85, 2) := by decide +kernel
theorem dX11_init_886 : decode cX11_init 886 = .ok (.bipush 32, 2) := by decide +kernel
theorem dX11_init_888 : decode cX11_init 888 = .ok (.iastore, 1) := by decide +kernel
theorem dX11_init_889 : decode cX11_init 889 = .ok (.dup, 1) := by decide +kernel
theorem dX11_init_890 : decode cX11_init 890 = .ok (.bipush 86, 2) := by decide +kernel
theorem dX11_init_892 : decode cX11_init 892 = .ok (.bipush 32, 2) := by decide +kernel
theorem dX11_init_894 : decode cX11_init 894 = .ok (.iastore, 1) := by decide +kernel
theorem dX11_init_895 : decode cX11_init 895 = .ok (.dup, 1) := by decide +kernel
theorem dX11_init_896 : decode cX11_init 896 = .ok (.bipush 87, 2) := by decide +kernel
theorem dX11_init_898 : decode cX11_init 898 = .ok (.bipush 32, 2) := by decide +kernel
theorem dX11_init_900 : decode cX11_init 900 = .ok (.iastore, 1) := by decide +kernel
theorem dX11_init_901 : decode cX11_init 901 = .ok (.dup, 1) := by decide +kernel
theorem dX11_init_902 : decode cX11_init 902 = .ok (.bipush 88, 2) := by decide +kernel
theorem dX11_init_904 : decode cX11_init 904 = .ok (.bipush 110, 2) := by decide +kernel
theorem dX11_init_906 : decode cX11_init 906 = .ok (.iastore, 1) := by decide +kernel
theorem dX11_init_907 : decode cX11_init 907 = .ok (.dup, 1) := by decide +kernel
theorem dX11_init_908 : decode cX11_init 908 = .ok (.bipush 89, 2) := by decide +kernel
theorem dX11_init_910 : decode cX11_init 910 = .ok (.bipush 111, 2) := by decide +kernel
theorem dX11_init_912 : decode cX11_init 912 = .ok (.iastore, 1) := by decide +kernel
theorem dX11_init_913 : decode cX11_init 913 = .ok (.dup, 1) := by decide +kernel
theorem dX11_init_914 : decode cX11_init 914 = .ok (.bipush 90, 2) := by decide +kernel
theorem dX11_init_916 : decode cX11_init 916 = .ok (.bipush 116, 2) := by decide +kernel
theorem dX11_init_918 : decode cX11_init 918 = .ok (.iastore, 1) := by decide +kernel
theorem dX11_init_919 : decode cX11_init 919 = .ok (.dup, 1) := by decide +kernel
theorem dX11_init_920 : decode cX11_init 920 = .ok (.bipush 91, 2) := by decide +kernel
theorem dX11_init_922 : decode cX11_init 922 = .ok (.bipush 32, 2) := by decide +kernel
theorem dX11_init_924 : decode cX11_init 924 = .ok (.iastore, 1) := by decide +kernel
theorem dX11_init_925 : decode cX11_init 925 = .ok (.dup, 1) := by decide +kernel
theorem dX11_init_926 : decode cX11_init 926 = .ok (.bipush 92, 2) := by decide +kernel
theorem dX11_init_928 : decode cX11_init 928 = .ok (.bipush 32, 2) := by decide +kernel
theorem dX11_init_930 : decode cX11_init 930 = .ok (.iastore, 1) := by decide +kernel
theorem dX11_init_931 : decode cX11_init 931 = .ok (.dup, 1) := by decide +kernel
theorem dX11_init_932 : decode cX11_init 932 = .ok (.bipush 93, 2) := by decide +kernel
theorem dX11_init_934 : decode cX11_init 934 = .ok (.bipush 32, 2) := by decide +kernel
theorem dX11_init_936 : decode cX11_init 936 = .ok (.iastore, 1) := by decide +kernel
theorem dX11_init_937 : decode cX11_init 937 = .ok (.dup, 1) := by decide +kernel
theorem dX11_init_938 : decode cX11_init 938 = .ok (.bipush 94, 2) := by decide +kernel
theorem dX11_init_940 : decode cX11_init 940 = .ok (.bipush 32, 2) := by decide +kernel
theorem dX11_init_942 : decode cX11_init 942 = .ok (.iastore, 1) := by decide +kernel
theorem dX11_init_943 : decode cX11_init 943 = .ok (.dup, 1) := by decide +kernel
theorem dX11_init_944 : decode cX11_init 944 = .ok (.bipush 95, 2) := by decide +kernel
theorem dX11_init_946 : decode cX11_init 946 = .ok (.bipush 32, 2) := by decide +kernel
theorem dX11_init_948 : decode cX11_init 948 = .ok (.iastore, 1) := by decide +kernel
theorem dX11_init_949 : decode cX11_init 949 = .ok (.putfield 46, 3) := by decide +kernel
theorem dX11_init_952 : decode cX11_init 952 = .ok (.aload_n 0, 1) := by decide +kernel
theorem dX11_init_953 : decode cX11_init 953 = .ok (.sipush 200, 3) := by decide +kernel
theorem dX11_init_956 : decode cX11_init 956 = .ok (.newarray .int, 2) := by decide +kernel
theorem dX11_init_958 : decode cX11_init 958 = .ok (.putfield 49, 3) := by decide +kernel
theorem dX11_init_961 : decode cX11_init 961 = .ok (.aload_n 0, 1) := by decide +kernel
theorem dX11_init_962 : decode cX11_init 962 = .ok (.sipush 200, 3) := by decide +kernel
theorem dX11_init_965 : decode cX11_init 965 = .ok (.newarray .int, 2) := by decide +kernel
theorem dX11_init_967 : decode cX11_init 967 = .ok (.putfield 52, 3) := by decide +kernel
theorem dX11_init_970 : decode cX11_init 970 = .ok (.aload_n 0, 1) := by decide +kernel
theorem dX11_init_971 : decode cX11_init 971 = .ok (.bipush 6, 2) := by decide +kernel
theorem dX11_init_973 : decode cX11_init 973 = .ok (.newarray .int, 2) := by decide +kernel
theorem dX11_init_975 : decode cX11_init 975 = .ok (.putfield 55, 3) := by decide +kernel
theorem dX11_init_978 : decode cX11_init 978 = .ok (.aload_n 0, 1) := by decide +kernel
theorem dX11_init_979 : decode cX11_init 979 = .ok (.bipush 25, 2) := by decide +kernel
theorem dX11_init_981 : decode cX11_init 981 = .ok (.newarray .int, 2) := by decide +kernel
theorem dX11_init_983 : decode cX11_init 983 = .ok (.putfield 58, 3) := by decide +kernel
theorem dX11_init_986 : decode cX11_init 986 = .ok (.aload_n 0, 1) := by decide +kernel
theorem dX11_init_987 : decode cX11_init 987 = .ok (.bipush 6, 2) := by decide +kernel
theorem dX11_init_989 : decode cX11_init 989 = .ok (.newarray .int, 2) := by decide +kernel
theorem dX11_init_991 : decode cX11_init 991 = .ok (.putfield 61, 3) := by decide +kernel
theorem dX11_init_994 : decode cX11_init 994 = .ok (.aload_n 0, 1) := by decide +kernel
theorem dX11_init_995 : decode cX11_init 995 = .ok (.bipush 6, 2) := by decide +kernel
theorem dX11_init_997 : decode cX11_init 997 = .ok (.newarray .int, 2) := by decide +kernel
theorem dX11_init_999 : decode cX11_init 999 = .ok (.putfield 64, 3) := by decide +kernel
theorem dX11_init_1002 : decode cX11_init 1002 = .ok (.iconst 0, 1) := by decide +kernel
theorem dX11_init_1003 : decode cX11_init 1003 = .ok (.istore_n 1, 1) := by decide +kernel
theorem dX11_init_1004 : decode cX11_init 1004 = .ok (.iload_n 1, 1) := by decide +kernel
theorem dX11_init_1005 : decode cX11_init 1005 = .ok (.bipush 44, 2) := by decide +kernel
theorem dX11_init_1007 : decode cX11_init 1007 = .ok (.if_icmp .ge 21, 3) := by decide +kernel
theorem dX11_init_1010 : decode cX11_init 1010 = .ok (.aload_n 0, 1) := by decide +kernel
theorem dX11_init_1011 : decode cX11_init 1011 = .ok (.getfield 19, 3) := by decide +kernel
theorem dX11_init_1014 : decode cX11_init 1014 = .ok (.iload_n 1, 1) := by decide +kernel
theorem dX11_init_1015 : decode cX11_init 1015 = .ok (.aload_n 0, 1) := by decide +kernel
theorem dX11_init_1016 : decode cX11_init 1016 = .ok (.getfield 43, 3) := by decide +kernel
theorem dX11_init_1019 : decode cX11_init 1019 = .ok (.iload_n 1, 1) := by decide +kernel
theorem dX11_init_1020 : decode cX11_init 1020 = .ok (.iaload, 1) := by decide +kernel
theorem dX11_init_1021 : decode cX11_init 1021 = .ok (.iastore, 1) := by decide +kernel
theorem dX11_init_1022 : decode cX11_init 1022 = .ok (.iinc 1 1, 3) := by decide +kernel
theorem dX11_init_1025 : decode cX11_init 1025 = .ok (.goto (-21), 3) := by decide +kernel
theorem dX11_init_1028 : decode cX11_init 1028 = .ok (.aload_n 0, 1) := by decide +kernel
theorem dX11_init_1029 : decode cX11_init 1029 = .ok (.bipush 44, 2) := by decide +kernel
theorem dX11_init_1031 : decode cX11_init 1031 = .ok (.putfield 67, 3) := by decide +kernel
theorem dX11_init_1034 : decode cX11_init 1034 = .ok (.aload_n 0, 1) := by decide +kernel
theorem dX11_init_1035 : decode cX11_init 1035 = .ok (.invokevirtual 71, 3) := by decide +kernel
theorem dX11_init_1038 : decode cX11_init 1038 = .ok (.pop, 1) := by decide +kernel
theorem dX11_init_1039 : decode cX11_init 1039 = .ok (.return_, 1) := by decide +kernel
def hm_0 : List e_cl := []
def hm_1 : List e_cl := [((21, 35), [], [])]
def hm_2 : List e_cl := [((21, 35), [], []), ((0, 6), [], [])]
def hm_3 : List e_cl := [((21, 35), [], [(1, 77)]), ((0, 6), [], [])]
def hm_4 : List e_cl := [((21, 35), [], [(1, 77)]), ((0, 6), [], []), ((0, 6), [], [])]
def hm_5 : List e_cl := [((21, 35), [], [(2, 78), (1, 77)]), ((0, 6), [], []), ((0, 6), [], [])]
def hm_6 : List e_cl := [((21, 35), [], [(2, 78), (1, 77)]), ((0, 6), [], []), ((0, 6), [], []), ((0, 24), [], [])]
def hm_7 : List e_cl := [((21, 35), [], [(3, 79), (2, 78), (1, 77)]), ((0, 6), [], []), ((0, 6), [], []), ((0, 24), [], [])]
def hm_8 : List e_cl := [((21, 35), [], [(3, 79), (2, 78), (1, 77)]), ((0, 6), [], []), ((0, 6), [], []), ((0, 24), [], []), ((0, 160), [], [])]
def hm_9 : List e_cl := [((21, 35), [], [(5, 80), (3, 79), (2, 78), (1, 77)]), ((0, 6), [], []), ((0, 6), [], []), ((0, 24), [], []), ((0, 160), [], [])]
def hm_10 : List e_cl := [((21, 35), [], [(5, 80), (3, 79), (2, 78), (1, 77)]), ((0, 6), [], []), ((0, 6), [], []), ((0, 24), [], []), ((0, 160), [], []), ((0, 1200), [], [])]
def hm_11 : List e_cl := [((21, 35), [], [(7, 81), (5, 80), (3, 79), (2, 78), (1, 77)]), ((0, 6), [], []), ((0, 6), [], []), ((0, 24), [], []), ((0, 160), [], []), ((0, 1200), [], [])]
def hm_12 : List e_cl := [((21, 35), [], [(7, 81), (5, 80), (3, 79), (2, 78), (1, 77)]), ((0, 6), [], []), ((0, 6), [], []), ((0, 24), [], []), ((0, 160), [], []), ((0, 1200), [], []), ((0, 24), [], [])]
def hm_13 : List e_cl := [((21, 35), [], [(8, 82), (7, 81), (5, 80), (3, 79), (2, 78), (1, 77)]), ((0, 6), [], []), ((0, 6), [], []), ((0, 24), [], []), ((0, 160), [], []), ((0, 1200), [], []), ((0, 24), [], [])]
def hm_14 : List e_cl := [((21, 35), [], [(8, 82), (7, 81), (5, 80), (3, 79), (2, 78), (1, 77)]), ((0, 6), [], []), ((0, 6), [], []), ((0, 24), [], []), ((0, 160), [], []), ((0, 1200), [], []), ((0, 24), [], []), ((0, 24), [], [])]
def hm_15 : List e_cl := [((21, 35), [], [(12, 83), (8, 82), (7, 81), (5, 80), (3, 79), (2, 78), (1, 77)]), ((0, 6), [], []), ((0, 6), [], []), ((0, 24), [], []), ((0, 160), [], []), ((0, 1200), [], []), ((0, 24), [], []), ((0, 24), [], [])]
def hm_16 : List e_cl := [((21, 35), [], [(12, 83), (8, 82), (7, 81), (5, 80), (3, 79), (2, 78), (1, 77)]), ((0, 6), [], []), ((0, 6), [], []), ((0, 24), [], []), ((0, 160), [], []), ((0, 1200), [], []), ((0, 24), [], []), ((0, 24), [], []), ((0, 3), [], [])]
def hm_17 : List e_cl := [((21, 35), [], [(13, 84), (12, 83), (8, 82), (7, 81), (5, 80), (3, 79), (2, 78), (1, 77)]), ((0, 6), [], []), ((0, 6), [], []), ((0, 24), [], []), ((0, 160), [], []), ((0, 1200), [], []), ((0, 24), [], []), ((0, 24), [], []), ((0, 3), [], [])]
def hm_18 : List e_cl := [((21, 35), [], [(13, 84), (12, 83), (8, 82), (7, 81), (5, 80), (3, 79), (2, 78), (1, 77)]), ((0, 6), [], []), ((0, 6), [], []), ((0, 24), [], []), ((0, 160), [], []), ((0, 1200), [], []), ((0, 24), [], []), ((0, 24), [], []), ((0, 3), [], []), ((0, 4), [], [])]
def hm_19 : List e_cl := [((21, 35), [], [(13, 84), (12, 83), (8, 82), (7, 81), (5, 80), (3, 79), (2, 78), (1, 77)]), ((0, 6), [], []), ((0, 6), [], []), ((0, 24), [], []), ((0, 160), [], []), ((0, 1200), [], []), ((0, 24), [], []), ((0, 24), [], []), ((0, 3), [], []), ((0, 4), [(0, -1)], [])]
def hm_20 : List e_cl := [((21, 35), [], [(13, 84), (12, 83), (8, 82), (7, 81), (5, 80), (3, 79), (2, 78), (1, 77)]), ((0, 6), [], []), ((0, 6), [], []), ((0, 24), [], []), ((0, 160), [], []), ((0, 1200), [], []), ((0, 24), [], []), ((0, 24), [], []), ((0, 3), [], []), ((0, 4), [(1, -1), (0, -1)], [])]
def hm_21 : List e_cl := [((21, 35), [], [(13, 84), (12, 83), (8, 82), (7, 81), (5, 80), (3, 79), (2, 78), (1, 77)]), ((0, 6), [], []), ((0, 6), [], []), ((0, 24), [], []), ((0, 160), [], []), ((0, 1200), [], []), ((0, 24), [], []), ((0, 24), [], []), ((0, 3), [], []), ((0, 4), [(2, -1), (1, -1), (0, -1)], [])]
def hm_22 : List e_cl := [((21, 35), [], [(13, 84), (12, 83), (8, 82), (7, 81), (5, 80), (3, 79), (2, 78), (1, 77)]), ((0, 6), [], []), ((0, 6), [], []), ((0, 24), [], []), ((0, 160), [], []), ((0, 1200), [], []), ((0, 24), [], []), ((0, 24), [], []), ((0, 3), [], []), ((0, 4), [(3, -1), (2, -1), (1, -1), (0, -1)], [])]
def hm_23 : List e_cl := [((21, 35), [], [(14, 85), (13, 84), (12, 83), (8, 82), (7, 81), (5, 80), (3, 79), (2, 78), (1, 77)]), ((0, 6), [], []), ((0, 6), [], []), ((0, 24), [], []), ((0, 160), [], []), ((0, 1200), [], []), ((0, 24), [], []), ((0, 24), [], []), ((0, 3), [], []), ((0, 4), [(3, -1), (2, -1), (1, -1), (0, -1)], [])]
def hm_24 : List e_cl := [((21, 35), [], [(14, 85), (13, 84), (12, 83), (8, 82), (7, 81), (5, 80), (3, 79), (2, 78), (1, 77)]), ((0, 6), [], []), ((0, 6), [], []), ((0, 24), [], []), ((0, 160), [], []), ((0, 1200), [], []), ((0, 24), [], []), ((0, 24), [], []), ((0, 3), [], []), ((0, 4), [(3, -1), (2, -1), (1, -1), (0, -1)], []), ((0, 4), [], [])]
def hm_25 : List e_cl := [((21, 35), [], [(15, 86), (14, 85), (13, 84), (12, 83), (8, 82), (7, 81), (5, 80), (3, 79), (2, 78), (1, 77)]), ((0, 6), [], []), ((0, 6), [], []), ((0, 24), [], []), ((0, 160), [], []), ((0, 1200), [], []), ((0, 24), [], []), ((0, 24), [], []), ((0, 3), [], []), ((0, 4), [(3, -1), (2, -1), (1, -1), (0, -1)], []), ((0, 4), [], [])]
def hm_26 : List e_cl := [((21, 35), [], [(15, 86), (14, 85), (13, 84), (12, 83), (8, 82), (7, 81), (5, 80), (3, 79), (2, 78), (1, 77)]), ((0, 6), [], []), ((0, 6), [], []), ((0, 24), [], []), ((0, 160), [], []), ((0, 1200), [], []), ((0, 24), [], []), ((0, 24), [], []), ((0, 3), [], []), ((0, 4), [(3, -1), (2, -1), (1, -1), (0, -1)], []), ((0, 4), [], []), ((0, 160), [], [])]
def hm_27 : List e_cl := [((21, 35), [], [(16, 87), (15, 86), (14, 85), (13, 84), (12, 83), (8, 82), (7, 81), (5, 80), (3, 79), (2, 78), (1, 77)]), ((0, 6), [], []), ((0, 6), [], []), ((0, 24), [], []), ((0, 160), [], []), ((0, 1200), [], []), ((0, 24), [], []), ((0, 24), [], []), ((0, 3), [], []), ((0, 4), [(3, -1), (2, -1), (1, -1), (0, -1)], []), ((0, 4), [], []), ((0, 160), [], [])]
def hm_28 : List e_cl := [((21, 35), [], [(16, 87), (15, 86), (14, 85), (13, 84), (12, 83), (8, 82), (7, 81), (5, 80), (3, 79), (2, 78), (1, 77)]), ((0, 6), [], []), ((0, 6), [], []), ((0, 24), [], []), ((0, 160), [], []), ((0, 1200), [], []), ((0, 24), [], []), ((0, 24), [], []), ((0, 3), [], []), ((0, 4), [(3, -1), (2, -1), (1, -1), (0, -1)], []), ((0, 4), [], []), ((0, 160), [], []), ((0, 44), [], [])]
def hm_29 : List e_cl := [((21, 35), [], [(16, 87), (15, 86), (14, 85), (13, 84), (12, 83), (8, 82), (7, 81), (5, 80), (3, 79), (2, 78), (1, 77)]), ((0, 6), [], []), ((0, 6), [], []), ((0, 24), [], []), ((0, 160), [], []), ((0, 1200), [], []), ((0, 24), [], []), ((0, 24), [], []), ((0, 3), [], []), ((0, 4), [(3, -1), (2, -1), (1, -1), (0, -1)], []), ((0, 4), [], []), ((0, 160), [], []), ((0, 44), [(0, 108)], [])]
def hm_30 : List e_cl := [((21, 35), [], [(16, 87), (15, 86), (14, 85), (13, 84), (12, 83), (8, 82), (7, 81), (5, 80), (3, 79), (2, 78), (1, 77)]), ((0, 6), [], []), ((0, 6), [], []), ((0, 24), [], []), ((0, 160), [], []), ((0, 1200), [], []), ((0, 24), [], []), ((0, 24), [], []), ((0, 3), [], []), ((0, 4), [(3, -1), (2, -1), (1, -1), (0, -1)], []), ((0, 4), [], []), ((0, 160), [], []), ((0, 44), [(1, 101), (0, 108)], [])]
def hm_31 : List e_cl := [((21, 35), [], [(16, 87), (15, 86), (14, 85), (13, 84), (12, 83), (8, 82), (7, 81), (5, 80), (3, 79), (2, 78), (1, 77)]), ((0, 6), [], []), ((0, 6), [], []), ((0, 24), [], []), ((0, 160), [], []), ((0, 1200), [], []), ((0, 24), [], []), ((0, 24), [], []), ((0, 3), [], []), ((0, 4), [(3, -1), (2, -1), (1, -1), (0, -1)], []), ((0, 4), [], []), ((0, 160), [], []), ((0, 44), [(2, 97), (1, 101), (0, 108)], [])]
def hm_32 : List e_cl := [((21, 35), [], [(16, 87), (15, 86), (14, 85), (13, 84), (12, 83), (8, 82), (7, 81), (5, 80), (3, 79), (2, 78), (1, 77)]), ((0, 6), [], []), ((0, 6), [], []), ((0, 24), [], []), ((0, 160), [], []), ((0, 1200), [], []), ((0, 24), [], []), ((0, 24), [], []), ((0, 3), [], []), ((0, 4), [(3, -1), (2, -1), (1, -1), (0, -1)], []), ((0, 4), [], []), ((0, 160), [], []), ((0, 44), [(3, 110), (2, 97), (1, 101), (0, 108)], [])]
def hm_33 : List e_cl := [((21, 35), [], [(16, 87), (15, 86), (14, 85), (13, 84), (12, 83), (8, 82), (7, 81), (5, 80), (3, 79), (2, 78), (1, 77)]), ((0, 6), [], []), ((0, 6), [], []), ((0, 24), [], []), ((0, 160), [], []), ((0, 1200), [], []), ((0, 24), [], []), ((0, 24), [], []), ((0, 3), [], []), ((0, 4), [(3, -1), (2, -1), (1, -1), (0, -1)], []), ((0, 4), [], []), ((0, 160), [], []), ((0, 44), [(4, 115), (3, 110), (2, 97), (1, 101), (0, 108)], [])]
def hm_34 : List e_cl := [((21, 35), [], [(16, 87), (15, 86), (14, 85), (13, 84), (12, 83), (8, 82), (7, 81), (5, 80), (3, 79), (2, 78), (1, 77)]), ((0, 6), [], []), ((0, 6), [], []), ((0, 24), [], []), ((0, 160), [], []), ((0, 1200), [], []), ((0, 24), [], []), ((0, 24), [], []), ((0, 3), [], []), ((0, 4), [(3, -1), (2, -1), (1, -1), (0, -1)], []), ((0, 4), [], []), ((0, 160), [], []), ((0, 44), [(5, 32), (4, 115), (3, 110), (2, 97), (1, 101), (0, 108)], [])]
def hm_35 : List e_cl := [((21, 35), [], [(16, 87), (15, 86), (14, 85), (13, 84), (12, 83), (8, 82), (7, 81), (5, 80), (3, 79), (2, 78), (1, 77)]), ((0, 6), [], []), ((0, 6), [], []), ((0, 24), [], []), ((0, 160), [], []), ((0, 1200), [], []), ((0, 24), [], []), ((0, 24), [], []), ((0, 3), [], []), ((0, 4), [(3, -1), (2, -1), (1, -1), (0, -1)], []), ((0, 4), [], []), ((0, 160), [], []), ((0, 44), [(6, 53), (5, 32), (4, 115), (3, 110), (2, 97), (1, 101), (0, 108)], [])]
def hm_36 : List e_cl := [((21, 35), [], [(16, 87), (15, 86), (14, 85), (13, 84), (12, 83), (8, 82), (7, 81), (5, 80), (3, 79), (2, 78), (1, 77)]), ((0, 6), [], []), ((0, 6), [], []), ((0, 24), [], []), ((0, 160), [], []), ((0, 1200), [], []), ((0, 24), [], []), ((0, 24), [], []), ((0, 3), [], []), ((0, 4), [(3, -1), (2, -1), (1, -1), (0, -1)], []), ((0, 4), [], []), ((0, 160), [], []), ((0, 44), [(7, 32), (6, 53), (5, 32), (4, 115), (3, 110), (2, 97), (1, 101), (0, 108)], [])]
def hm_37 : List e_cl := [((21, 35), [], [(16, 87), (15, 86), (14, 85), (13, 84), (12, 83), (8, 82), (7, 81), (5, 80), (3, 79), (2, 78), (1, 77)]), ((0, 6), [], []), ((0, 6), [], []), ((0, 24), [], []), ((0, 160), [], []), ((0, 1200), [], []), ((0, 24), [], []), ((0, 24), [], []), ((0, 3), [], []), ((0, 4), [(3, -1), (2, -1), (1, -1), (0, -1)], []), ((0, 4), [], []), ((0, 160), [], []), ((0, 44), [(8, 45), (7, 32), (6, 53), (5, 32), (4, 115), (3, 110), (2, 97), (1, 101), (0, 108)], [])]
def hm_38 : List e_cl := [((21, 35), [], [(16, 87), (15, 86), (14, 85), (13, 84), (12, 83), (8, 82), (7, 81), (5, 80), (3, 79), (2, 78), (1, 77)]), ((0, 6), [], []), ((0, 6), [], []), ((0, 24), [], []), ((0, 160), [], []), ((0, 1200), [], []), ((0, 24), [], []), ((0, 24), [], []), ((0, 3), [], []), ((0, 4), [(3, -1), (2, -1), (1, -1), (0, -1)], []), ((0, 4), [], []), ((0, 160), [], []), ((0, 44), [(9, 32), (8, 45), (7, 32), (6, 53), (5, 32), (4, 115), (3, 110), (2, 97), (1, 101), (0, 108)], [])]
def hm_39 : List e_cl := [((21, 35), [], [(16, 87), (15, 86), (14, 85), (13, 84), (12, 83), (8, 82), (7, 81), (5, 80), (3, 79), (2, 78), (1, 77)]), ((0, 6), [], []), ((0, 6), [], []), ((0, 24), [], []), ((0, 160), [], []), ((0, 1200), [], []), ((0, 24), [], []), ((0, 24), [], []), ((0, 3), [], []), ((0, 4), [(3, -1), (2, -1), (1, -1), (0, -1)], []), ((0, 4), [], []), ((0, 160), [], []), ((0, 44), [(10, 97), (9, 32), (8, 45), (7, 32), (6, 53), (5, 32), (4, 115), (3, 110), (2, 97), (1, 101), (0, 108)], [])]
def hm_40 : List e_cl := [((21, 35), [], [(16, 87), (15, 86), (14, 85), (13, 84), (12, 83), (8, 82), (7, 81), (5, 80), (3, 79), (2, 78), (1, 77)]), ((0, 6), [], []), ((0, 6), [], []), ((0, 24), [], []), ((0, 160), [], []), ((0, 1200), [], []), ((0, 24), [], []), ((0, 24), [], []), ((0, 3), [], []), ((0, 4), [(3, -1), (2, -1), (1, -1), (0, -1)], []), ((0, 4), [], []), ((0, 160), [], []), ((0, 44), [(11, 99), (10, 97), (9, 32), (8, 45), (7, 32), (6, 53), (5, 32), (4, 115), (3, 110), (2, 97), (1, 101), (0, 108)], [])]
def hm_41 : List e_cl := [((21, 35), [], [(16, 87), (15, 86), (14, 85), (13, 84), (12, 83), (8, 82), (7, 81), (5, 80), (3, 79), (2, 78), (1, 77)]), ((0, 6), [], []), ((0, 6), [], []), ((0, 24), [], []), ((0, 160), [], []), ((0, 1200), [], []), ((0, 24), [], []), ((0, 24), [], []), ((0, 3), [], []), ((0, 4), [(3, -1), (2, -1), (1, -1), (0, -1)], []), ((0, 4), [], []), ((0, 160), [], []), ((0, 44), [(12, 114), (11, 99), (10, 97), (9, 32), (8, 45), (7, 32), (6, 53), (5, 32), (4, 115), (3, 110), (2, 97), (1, 101), (0, 108)], [])]
def hm_42 : List e_cl := [((21, 35), [], [(16, 87), (15, 86), (14, 85), (13, 84), (12, 83), (8, 82), (7, 81), (5, 80), (3, 79), (2, 78), (1, 77)]), ((0, 6), [], []), ((0, 6), [], []), ((0, 24), [], []), ((0, 160), [], []), ((0, 1200), [], []), ((0, 24), [], []), ((0, 24), [], []), ((0, 3), [], []), ((0, 4), [(3, -1), (2, -1), (1, -1), (0, -1)], []), ((0, 4), [], []), ((0, 160), [], []), ((0, 44), [(13, 111), (12, 114), (11, 99), (10, 97), (9, 32), (8, 45), (7, 32), (6, 53), (5, 32), (4, 115), (3, 110), (2, 97), (1, 101), (0, 108)], [])]
def hm_43 : List e_cl := [((21, 35), [], [(16, 87), (15, 86), (14, 85), (13, 84), (12, 83), (8, 82), (7, 81), (5, 80), (3, 79), (2, 78), (1, 77)]), ((0, 6), [], []), ((0, 6), [], []), ((0, 24), [], []), ((0, 160), [], []), ((0, 1200), [], []), ((0, 24), [], []), ((0, 24), [], []), ((0, 3), [], []), ((0, 4), [(3, -1), (2, -1), (1, -1), (0, -1)], []), ((0, 4), [], []), ((0, 160), [], []), ((0, 44), [(14, 115), (13, 111), (12, 114), (11, 99), (10, 97), (9, 32), (8, 45), (7, 32), (6, 53), (5, 32), (4, 115), (3, 110), (2, 97), (1, 101), (0, 108)], [])]
def hm_44 : List e_cl := [((21, 35), [], [(16, 87), (15, 86), (14, 85), (13, 84), (12, 83), (8, 82), (7, 81), (5, 80), (3, 79), (2, 78), (1, 77)]), ((0, 6), [], []), ((0, 6), [], []), ((0, 24), [], []), ((0, 160), [], []), ((0, 1200), [], []), ((0, 24), [], []), ((0, 24), [], []), ((0, 3), [], []), ((0, 4), [(3, -1), (2, -1), (1, -1), (0, -1)], []), ((0, 4), [], []), ((0, 160), [], []), ((0, 44), [(15, 115), (14, 115), (13, 111), (12, 114), (11, 99), (10, 97), (9, 32), (8, 45), (7, 32), (6, 53), (5, 32), (4, 115), (3, 110), (2, 97), (1, 101), (0, 108)], [])]
def hm_45 : List e_cl := [((21, 35), [], [(16, 87), (15, 86), (14, 85), (13, 84), (12, 83), (8, 82), (7, 81), (5, 80), (3, 79), (2, 78), (1, 77)]), ((0, 6), [], []), ((0, 6), [], []), ((0, 24), [], []), ((0, 160), [], []), ((0, 1200), [], []), ((0, 24), [], []), ((0, 24), [], []), ((0, 3), [], []), ((0, 4), [(3, -1), (2, -1), (1, -1), (0, -1)], []), ((0, 4), [], []), ((0, 160), [], []), ((0, 44), [(16, 32), (15, 115), (14, 115), (13, 111), (12, 114), (11, 99), (10, 97), (9, 32), (8, 45), (7, 32), (6, 53), (5, 32), (4, 115), (3, 110), (2, 97), (1, 101), (0, 108)], [])]
def hm_46 : List e_cl := [((21, 35), [], [(16, 87), (15, 86), (14, 85), (13, 84), (12, 83), (8, 82), (7, 81), (5, 80), (3, 79), (2, 78), (1, 77)]), ((0, 6), [], []), ((0, 6), [], []), ((0, 24), [], []), ((0, 160), [], []), ((0, 1200), [], []), ((0, 24), [], []), ((0, 24), [], []), ((0, 3), [], []), ((0, 4), [(3, -1), (2, -1), (1, -1), (0, -1)], []), ((0, 4), [], []), ((0, 160), [], []), ((0, 44), [(17, 59), (16, 32), (15, 115), (14, 115), (13, 111), (12, 114), (11, 99), (10, 97), (9, 32), (8, 45), (7, 32), (6, 53), (5, 32), (4, 115), (3, 110), (2, 97), (1, 101), (0, 108)], [])]
def hm_47 : List e_cl := [((21, 35), [], [(16, 87), (15, 86), (14, 85), (13, 84), (12, 83), (8, 82), (7, 81), (5, 80), (3, 79), (2, 78), (1, 77)]), ((0, 6), [], []), ((0, 6), [], []), ((0, 24), [], []), ((0, 160), [], []), ((0, 1200), [], []), ((0, 24), [], []), ((0, 24), [], []), ((0, 3), [], []), ((0, 4), [(3, -1), (2, -1), (1, -1), (0, -1)], []), ((0, 4), [], []), ((0, 160), [], []), ((0, 44), [(18, 32), (17, 59), (16, 32), (15, 115), (14, 115), (13, 111), (12, 114), (11, 99), (10, 97), (9, 32), (8, 45), (7, 32), (6, 53), (5, 32), (4, 115), (3, 110), (2, 97), (1, 101), (0, 108)], [])]
def hm_48 : List e_cl := [((21, 35), [], [(16, 87), (15, 86), (14, 85), (13, 84), (12, 83), (8, 82), (7, 81), (5, 80), (3, 79), (2, 78), (1, 77)]), ((0, 6), [], []), ((0, 6), [], []), ((0, 24), [], []), ((0, 160), [], []), ((0, 1200), [], []), ((0, 24), [], []), ((0, 24), [], []), ((0, 3), [], []), ((0, 4), [(3, -1), (2, -1), (1, -1), (0, -1)], []), ((0, 4), [], []), ((0, 160), [], []), ((0, 44), [(19, 104), (18, 32), (17, 59), (16, 32), (15, 115), (14, 115), (13, 111), (12, 114), (11, 99), (10, 97), (9, 32), (8, 45), (7, 32), (6, 53), (5, 32), (4, 115), (3, 110), (2, 97), (1, 101), (0, 108)], [])]
def hm_49 : List e_cl := [((21, 35), [], [(16, 87), (15, 86), (14, 85), (13, 84), (12, 83), (8, 82), (7, 81), (5, 80), (3, 79), (2, 78), (1, 77)]), ((0, 6), [], []), ((0, 6), [], []), ((0, 24), [], []), ((0, 160), [], []), ((0, 1200), [], []), ((0, 24), [], []), ((0, 24), [], []), ((0, 3), [], []), ((0, 4), [(3, -1), (2, -1), (1, -1), (0, -1)], []), ((0, 4), [], []), ((0, 160), [], []), ((0, 44), [(20, 111), (19, 104), (18, 32), (17, 59), (16, 32), (15, 115), (14, 115), (13, 111), (12, 114), (11, 99), (10, 97), (9, 32), (8, 45), (7, 32), (6, 53), (5, 32), (4, 115), (3, 110), (2, 97), (1, 101), (0, 108)], [])]
def hm_50 : List e_cl := [((21, 35), [], [(16, 87), (15, 86), (14, 85), (13, 84), (12, 83), (8, 82), (7, 81), (5, 80), (3, 79), (2, 78), (1, 77)]), ((0, 6), [], []), ((0, 6), [], []), ((0, 24), [], []), ((0, 160), [], []), ((0, 1200), [], []), ((0, 24), [], []), ((0, 24), [], []), ((0, 3), [], []), ((0, 4), [(3, -1), (2, -1), (1, -1), (0, -1)], []), ((0, 4), [], []), ((0, 160), [], []), ((0, 44), [(21, 108), (20, 111), (19, 104), (18, 32), (17, 59), (16, 32), (15, 115), (14, 115), (13, 111), (12, 114), (11, 99), (10, 97), (9, 32), (8, 45), (7, 32), (6, 53), (5, 32), (4, 115), (3, 110), (2, 97), (1, 101), (0, 108)], [])]
def hm_51 : List e_cl := [((21, 35), [], [(16, 87), (15, 86), (14, 85), (13, 84), (12, 83), (8, 82), (7, 81), (5, 80), (3, 79), (2, 78), (1, 77)]), ((0, 6), [], []), ((0, 6), [], []), ((0, 24), [], []), ((0, 160), [], []), ((0, 1200), [], []), ((0, 24), [], []), ((0, 24), [], []), ((0, 3), [], []), ((0, 4), [(3, -1), (2, -1), (1, -1), (0, -1)], []), ((0, 4), [], []), ((0, 160), [], []), ((0, 44), [(22, 100), (21, 108), (20, 111), (19, 104), (18, 32), (17, 59), (16, 32), (15, 115), (14, 115), (13, 111), (12, 114), (11, 99), (10, 97), (9, 32), (8, 45), (7, 32), (6, 53), (5, 32), (4, 115), (3, 110), (2, 97), (1, 101), (0, 108)], [])]
def hm_52 : List e_cl := [((21, 35), [], [(16, 87), (15, 86), (14, 85), (13, 84), (12, 83), (8, 82), (7, 81), (5, 80), (3, 79), (2, 78), (1, 77)]), ((0, 6), [], []), ((0, 6), [], []), ((0, 24), [], []), ((0, 160), [], []), ((0, 1200), [], []), ((0, 24), [], []), ((0, 24), [], []), ((0, 3), [], []), ((0, 4), [(3, -1), (2, -1), (1, -1), (0, -1)], []), ((0, 4), [], []), ((0, 160), [], []), ((0, 44), [(23, 115), (22, 100), (21, 108), (20, 111), (19, 104), (18, 32), (17, 59), (16, 32), (15, 115), (14, 115), (13, 111), (12, 114), (11, 99), (10, 97), (9, 32), (8, 45), (7, 32), (6, 53), (5, 32), (4, 115), (3, 110), (2, 97), (1, 101), (0, 108)], [])]
def hm_53 : List e_cl := [((21, 35), [], [(16, 87), (15, 86), (14, 85), (13, 84), (12, 83), (8, 82), (7, 81), (5, 80), (3, 79), (2, 78), (1, 77)]), ((0, 6), [], []), ((0, 6), [], []), ((0, 24), [], []), ((0, 160), [], []), ((0, 1200), [], []), ((0, 24), [], []), ((0, 24), [], []), ((0, 3), [], []), ((0, 4), [(3, -1), (2, -1), (1, -1), (0, -1)], []), ((0, 4), [], []), ((0, 160), [], []), ((0, 44), [(24, 32), (23, 115), (22, 100), (21, 108), (20, 111), (19, 104), (18, 32), (17, 59), (16, 32), (15, 115), (14, 115), (13, 111), (12, 114), (11, 99), (10, 97), (9, 32), (8, 45), (7, 32), (6, 53), (5, 32), (4, 115), (3, 110), (2, 97), (1, 101), (0, 108)], [])]
def hm_54 : List e_cl := [((21, 35), [], [(16, 87), (15, 86), (14, 85), (13, 84), (12, 83), (8, 82), (7, 81), (5, 80), (3, 79), (2, 78), (1, 77)]), ((0, 6), [], []), ((0, 6), [], []), ((0, 24), [], []), ((0, 160), [], []), ((0, 1200), [], []), ((0, 24), [], []), ((0, 24), [], []), ((0, 3), [], []), ((0, 4), [(3, -1), (2, -1), (1, -1), (0, -1)], []), ((0, 4), [], []), ((0, 160), [], []), ((0, 44), [(25, 54), (24, 32), (23, 115), (22, 100), (21, 108), (20, 111), (19, 104), (18, 32), (17, 59), (16, 32), (15, 115), (14, 115), (13, 111), (12, 114), (11, 99), (10, 97), (9, 32), (8, 45), (7, 32), (6, 53), (5, 32), (4, 115), (3, 110), (2, 97), (1, 101), (0, 108)], [])]
def hm_55 : List e_cl := [((21, 35), [], [(16, 87), (15, 86), (14, 85), (13, 84), (12, 83), (8, 82), (7, 81), (5, 80), (3, 79), (2, 78), (1, 77)]), ((0, 6), [], []), ((0, 6), [], []), ((0, 24), [], []), ((0, 160), [], []), ((0, 1200), [], []), ((0, 24), [], []), ((0, 24), [], []), ((0, 3), [], []), ((0, 4), [(3, -1), (2, -1), (1, -1), (0, -1)], []), ((0, 4), [], []), ((0, 160), [], []), ((0, 44), [(26, 48), (25, 54), (24, 32), (23, 115), (22, 100), (21, 108), (20, 111), (19, 104), (18, 32), (17, 59), (16, 32), (15, 115), (14, 115), (13, 111), (12, 114), (11, 99), (10, 97), (9, 32), (8, 45), (7, 32), (6, 53), (5, 32), (4, 115), (3, 110), (2, 97), (1, 101), (0, 108)], [])]
def hm_56 : List e_cl := [((21, 35), [], [(16, 87), (15, 86), (14, 85), (13, 84), (12, 83), (8, 82), (7, 81), (5, 80), (3, 79), (2, 78), (1, 77)]), ((0, 6), [], []), ((0, 6), [], []), ((0, 24), [], []), ((0, 160), [], []), ((0, 1200), [], []), ((0, 24), [], []), ((0, 24), [], []), ((0, 3), [], []), ((0, 4), [(3, -1), (2, -1), (1, -1), (0, -1)], []), ((0, 4), [], []), ((0, 160), [], []), ((0, 44), [(27, 32), (26, 48), (25, 54), (24, 32), (23, 115), (22, 100), (21, 108), (20, 111), (19, 104), (18, 32), (17, 59), (16, 32), (15, 115), (14, 115), (13, 111), (12, 114), (11, 99), (10, 97), (9, 32), (8, 45), (7, 32), (6, 53), (5, 32), (4, 115), (3, 110), (2, 97), (1, 101), (0, 108)], [])]
def hm_57 : List e_cl := [((21, 35), [], [(16, 87), (15, 86), (14, 85), (13, 84), (12, 83), (8, 82), (7, 81), (5, 80), (3, 79), (2, 78), (1, 77)]), ((0, 6), [], []), ((0, 6), [], []), ((0, 24), [], []), ((0, 160), [], []), ((0, 1200), [], []), ((0, 24), [], []), ((0, 24), [], []), ((0, 3), [], []), ((0, 4), [(3, -1), (2, -1), (1, -1), (0, -1)], []), ((0, 4), [], []), ((0, 160), [], []), ((0, 44), [(28, 59), (27, 32), (26, 48), (25, 54), (24, 32), (23, 115), (22, 100), (21, 108), (20, 111), (19, 104), (18, 32), (17, 59), (16, 32), (15, 115), (14, 115), (13, 111), (12, 114), (11, 99), (10, 97), (9, 32), (8, 45), (7, 32), (6, 53), (5, 32), (4, 115), (3, 110), (2, 97), (1, 101), (0, 108)], [])]
def hm_58 : List e_cl := [((21, 35), [], [(16, 87), (15, 86), (14, 85), (13, 84), (12, 83), (8, 82), (7, 81), (5, 80), (3, 79), (2, 78), (1, 77)]), ((0, 6), [], []), ((0, 6), [], []), ((0, 24), [], []), ((0, 160), [], []), ((0, 1200), [], []), ((0, 24), [], []), ((0, 24), [], []), ((0, 3), [], []), ((0, 4), [(3, -1), (2, -1), (1, -1), (0, -1)], []), ((0, 4), [], []), ((0, 160), [], []), ((0, 44), [(29, 32), (28, 59), (27, 32), (26, 48), (25, 54), (24, 32), (23, 115), (22, 100), (21, 108), (20, 111), (19, 104), (18, 32), (17, 59), (16, 32), (15, 115), (14, 115), (13, 111), (12, 114), (11, 99), (10, 97), (9, 32), (8, 45), (7, 32), (6, 53), (5, 32), (4, 115), (3, 110), (2, 97), (1, 101), (0, 108)], [])]
def hm_59 : List e_cl := [((21, 35), [], [(16, 87), (15, 86), (14, 85), (13, 84), (12, 83), (8, 82), (7, 81), (5, 80), (3, 79), (2, 78), (1, 77)]), ((0, 6), [], []), ((0, 6), [], []), ((0, 24), [], []), ((0, 160), [], []), ((0, 1200), [], []), ((0, 24), [], []), ((0, 24), [], []), ((0, 3), [], []), ((0, 4), [(3, -1), (2, -1), (1, -1), (0, -1)], []), ((0, 4), [], []), ((0, 160), [], []), ((0, 44), [(30, 109), (29, 32), (28, 59), (27, 32), (26, 48), (25, 54), (24, 32), (23, 115), (22, 100), (21, 108), (20, 111), (19, 104), (18, 32), (17, 59), (16, 32), (15, 115), (14, 115), (13, 111), (12, 114), (11, 99), (10, 97), (9, 32), (8, 45), (7, 32), (6, 53), (5, 32), (4, 115), (3, 110), (2, 97), (1, 101), (0, 108)], [])]
def hm_60 : List e_cl := [((21, 35), [], [(16, 87), (15, 86), (14, 85), (13, 84), (12, 83), (8, 82), (7, 81), (5, 80), (3, 79), (2, 78), (1, 77)]), ((0, 6), [], []), ((0, 6), [], []), ((0, 24), [], []), ((0, 160), [], []), ((0, 1200), [], []), ((0, 24), [], []), ((0, 24), [], []), ((0, 3), [], []), ((0, 4), [(3, -1), (2, -1), (1, -1), (0, -1)], []), ((0, 4), [], []), ((0, 160), [], []), ((0, 44), [(31, 105), (30, 109), (29, 32), (28, 59), (27, 32), (26, 48), (25, 54), (24, 32), (23, 115), (22, 100), (21, 108), (20, 111), (19, 104), (18, 32), (17, 59), (16, 32), (15, 115), (14, 115), (13, 111), (12, 114), (11, 99), (10, 97), (9, 32), (8, 45), (7, 32), (6, 53), (5, 32), (4, 115), (3, 110), (2, 97), (1, 101), (0, 108)], [])]
def hm_61 : List e_cl := [((21, 35), [], [(16, 87), (15, 86), (14, 85), (13, 84), (12, 83), (8, 82), (7, 81), (5, 80), (3, 79), (2, 78), (1, 77)]), ((0, 6), [], []), ((0, 6), [], []), ((0, 24), [], []), ((0, 160), [], []), ((0, 1200), [], []), ((0, 24), [], []), ((0, 24), [], []), ((0, 3), [], []), ((0, 4), [(3, -1), (2, -1), (1, -1), (0, -1)], []), ((0, 4), [], []), ((0, 160), [], []), ((0, 44), [(32, 110), (31, 105), (30, 109), (29, 32), (28, 59), (27, 32), (26, 48), (25, 54), (24, 32), (23, 115), (22, 100), (21, 108), (20, 111), (19, 104), (18, 32), (17, 59), (16, 32), (15, 115), (14, 115), (13, 111), (12, 114), (11, 99), (10, 97), (9, 32), (8, 45), (7, 32), (6, 53), (5, 32), (4, 115), (3, 110), (2, 97), (1, 101), (0, 108)], [])]
def hm_62 : List e_cl := [((21, 35), [], [(16, 87), (15, 86), (14, 85), (13, 84), (12, 83), (8, 82), (7, 81), (5, 80), (3, 79), (2, 78), (1, 77)]), ((0, 6), [], []), ((0, 6), [], []), ((0, 24), [], []), ((0, 160), [], []), ((0, 1200), [], []), ((0, 24), [], []), ((0, 24), [], []), ((0, 3), [], []), ((0, 4), [(3, -1), (2, -1), (1, -1), (0, -1)], []), ((0, 4), [], []), ((0, 160), [], []), ((0, 44), [(33, 100), (32, 110), (31, 105), (30, 109), (29, 32), (28, 59), (27, 32), (26, 48), (25, 54), (24, 32), (23, 115), (22, 100), (21, 108), (20, 111), (19, 104), (18, 32), (17, 59), (16, 32), (15, 115), (14, 115), (13, 111), (12, 114), (11, 99), (10, 97), (9, 32), (8, 45), (7, 32), (6, 53), (5, 32), (4, 115), (3, 110), (2, 97), (1, 101), (0, 108)], [])]
def hm_63 : List e_cl := [((21, 35), [], [(16, 87), (15, 86), (14, 85), (13, 84), (12, 83), (8, 82), (7, 81), (5, 80), (3, 79), (2, 78), (1, 77)]), ((0, 6), [], []), ((0, 6), [], []), ((0, 24), [], []), ((0, 160), [], []), ((0, 1200), [], []), ((0, 24), [], []), ((0, 24), [], []), ((0, 3), [], []), ((0, 4), [(3, -1), (2, -1), (1, -1), (0, -1)], []), ((0, 4), [], []), ((0, 160), [], []), ((0, 44), [(34, 115), (33, 100), (32, 110), (31, 105), (30, 109), (29, 32), (28, 59), (27, 32), (26, 48), (25, 54), (24, 32), (23, 115), (22, 100), (21, 108), (20, 111), (19, 104), (18, 32), (17, 59), (16, 32), (15, 115), (14, 115), (13, 111), (12, 114), (11, 99), (10, 97), (9, 32), (8, 45), (7, 32), (6, 53), (5, 32), (4, 115), (3, 110), (2, 97), (1, 101), (0, 108)], [])]
def hm_64 : List e_cl := [((21, 35), [], [(16, 87), (15, 86), (14, 85), (13, 84), (12, 83), (8, 82), (7, 81), (5, 80), (3, 79), (2, 78), (1, 77)]), ((0, 6), [], []), ((0, 6), [], []), ((0, 24), [], []), ((0, 160), [], []), ((0, 1200), [], []), ((0, 24), [], []), ((0, 24), [], []), ((0, 3), [], []), ((0, 4), [(3, -1), (2, -1), (1, -1), (0, -1)], []), ((0, 4), [], []), ((0, 160), [], []), ((0, 44), [(35, 32), (34, 115), (33, 100), (32, 110), (31, 105), (30, 109), (29, 32), (28, 59), (27, 32), (26, 48), (25, 54), (24, 32), (23, 115), (22, 100), (21, 108), (20, 111), (19, 104), (18, 32), (17, 59), (16, 32), (15, 115), (14, 115), (13, 111), (12, 114), (11, 99), (10, 97), (9, 32), (8, 45), (7, 32), (6, 53), (5, 32), (4, 115), (3, 110), (2, 97), (1, 101), (0, 108)], [])]
def hm_65 : List e_cl := [((21, 35), [], [(16, 87), (15, 86), (14, 85), (13, 84), (12, 83), (8, 82), (7, 81), (5, 80), (3, 79), (2, 78), (1, 77)]), ((0, 6), [], []), ((0, 6), [], []), ((0, 24), [], []), ((0, 160), [], []), ((0, 1200), [], []), ((0, 24), [], []), ((0, 24), [], []), ((0, 3), [], []), ((0, 4), [(3, -1), (2, -1), (1, -1), (0, -1)], []), ((0, 4), [], []), ((0, 160), [], []), ((0, 44), [(36, 98), (35, 32), (34, 115), (33, 100), (32, 110), (31, 105), (30, 109), (29, 32), (28, 59), (27, 32), (26, 48), (25, 54), (24, 32), (23, 115), (22, 100), (21, 108), (20, 111), (19, 104), (18, 32), (17, 59), (16, 32), (15, 115), (14, 115), (13, 111), (12, 114), (11, 99), (10, 97), (9, 32), (8, 45), (7, 32), (6, 53), (5, 32), (4, 115), (3, 110), (2, 97), (1, 101), (0, 108)], [])]
def hm_66 : List e_cl := [((21, 35), [], [(16, 87), (15, 86), (14, 85), (13, 84), (12, 83), (8, 82), (7, 81), (5, 80), (3, 79), (2, 78), (1, 77)]), ((0, 6), [], []), ((0, 6), [], []), ((0, 24), [], []), ((0, 160), [], []), ((0, 1200), [], []), ((0, 24), [], []), ((0, 24), [], []), ((0, 3), [], []), ((0, 4), [(3, -1), (2, -1), (1, -1), (0, -1)], []), ((0, 4), [], []), ((0, 160), [], []), ((0, 44), [(37, 101), (36, 98), (35, 32), (34, 115), (33, 100), (32, 110), (31, 105), (30, 109), (29, 32), (28, 59), (27, 32), (26, 48), (25, 54), (24, 32), (23, 115), (22, 100), (21, 108), (20, 111), (19, 104), (18, 32), (17, 59), (16, 32), (15, 115), (14, 115), (13, 111), (12, 114), (11, 99), (10, 97), (9, 32), (8, 45), (7, 32), (6, 53), (5, 32), (4, 115), (3, 110), (2, 97), (1, 101), (0, 108)], [])]
def hm_67 : List e_cl := [((21, 35), [], [(16, 87), (15, 86), (14, 85), (13, 84), (12, 83), (8, 82), (7, 81), (5, 80), (3, 79), (2, 78), (1, 77)]), ((0, 6), [], []), ((0, 6), [], []), ((0, 24), [], []), ((0, 160), [], []), ((0, 1200), [], []), ((0, 24), [], []), ((0, 24), [], []), ((0, 3), [], []), ((0, 4), [(3, -1), (2, -1), (1, -1), (0, -1)], []), ((0, 4), [], []), ((0, 160), [], []), ((0, 44), [(38, 115), (37, 101), (36, 98), (35, 32), (34, 115), (33, 100), (32, 110), (31, 105), (30, 109), (29, 32), (28, 59), (27, 32), (26, 48), (25, 54), (24, 32), (23, 115), (22, 100), (21, 108), (20, 111), (19, 104), (18, 32), (17, 59), (16, 32), (15, 115), (14, 115), (13, 111), (12, 114), (11, 99), (10, 97), (9, 32), (8, 45), (7, 32), (6, 53), (5, 32), (4, 115), (3, 110), (2, 97), (1, 101), (0, 108)], [])]
def hm_68 : List e_cl := [((21, 35), [], [(16, 87), (15, 86), (14, 85), (13, 84), (12, 83), (8, 82), (7, 81), (5, 80), (3, 79), (2, 78), (1, 77)]), ((0, 6), [], []), ((0, 6), [], []), ((0, 24), [], []), ((0, 160), [], []), ((0, 1200), [], []), ((0, 24), [], []), ((0, 24), [], []), ((0, 3), [], []), ((0, 4), [(3, -1), (2, -1), (1, -1), (0, -1)], []), ((0, 4), [], []), ((0, 160), [], []), ((0, 44), [(39, 105), (38, 115), (37, 101), (36, 98), (35, 32), (34, 115), (33, 100), (32, 110), (31, 105), (30, 109), (29, 32), (28, 59), (27, 32), (26, 48), (25, 54), (24, 32), (23, 115), (22, 100), (21, 108), (20, 111), (19, 104), (18, 32), (17, 59), (16, 32), (15, 115), (14, 115), (13, 111), (12, 114), (11, 99), (10, 97), (9, 32), (8, 45), (7, 32), (6, 53), (5, 32), (4, 115), (3, 110), (2, 97), (1, 101), (0, 108)], [])]
def hm_69 : List e_cl := [((21, 35), [], [(16, 87), (15, 86), (14, 85), (13, 84), (12, 83), (8, 82), (7, 81), (5, 80), (3, 79), (2, 78), (1, 77)]), ((0, 6), [], []), ((0, 6), [], []), ((0, 24), [], []), ((0, 160), [], []), ((0, 1200), [], []), ((0, 24), [], []), ((0, 24), [], []), ((0, 3), [], []), ((0, 4), [(3, -1), (2, -1), (1, -1), (0, -1)], []), ((0, 4), [], []), ((0, 160), [], []), ((0, 44), [(40, 100), (39, 105), (38, 115), (37, 101), (36, 98), (35, 32), (34, 115), (33, 100), (32, 110), (31, 105), (30, 109), (29, 32), (28, 59), (27, 32), (26, 48), (25, 54), (24, 32), (23, 115), (22, 100), (21, 108), (20, 111), (19, 104), (18, 32), (17, 59), (16, 32), (15, 115), (14, 115), (13, 111), (12, 114), (11, 99), (10, 97), (9, 32), (8, 45), (7, 32), (6, 53), (5, 32), (4, 115), (3, 110), (2, 97), (1, 101), (0, 108)], [])]
def hm_70 : List e_cl := [((21, 35), [], [(16, 87), (15, 86), (14, 85), (13, 84), (12, 83), (8, 82), (7, 81), (5, 80), (3, 79), (2, 78), (1, 77)]), ((0, 6), [], []), ((0, 6), [], []), ((0, 24), [], []), ((0, 160), [], []), ((0, 1200), [], []), ((0, 24), [], []), ((0, 24), [], []), ((0, 3), [], []), ((0, 4), [(3, -1), (2, -1), (1, -1), (0, -1)], []), ((0, 4), [], []), ((0, 160), [], []), ((0, 44), [(41, 101), (40, 100), (39, 105), (38, 115), (37, 101), (36, 98), (35, 32), (34, 115), (33, 100), (32, 110), (31, 105), (30, 109), (29, 32), (28, 59), (27, 32), (26, 48), (25, 54), (24, 32), (23, 115), (22, 100), (21, 108), (20, 111), (19, 104), (18, 32), (17, 59), (16, 32), (15, 115), (14, 115), (13, 111), (12, 114), (11, 99), (10, 97), (9, 32), (8, 45), (7, 32), (6, 53), (5, 32), (4, 115), (3, 110), (2, 97), (1, 101), (0, 108)], [])]
def hm_71 : List e_cl := [((21, 35), [], [(16, 87), (15, 86), (14, 85), (13, 84), (12, 83), (8, 82), (7, 81), (5, 80), (3, 79), (2, 78), (1, 77)]), ((0, 6), [], []), ((0, 6), [], []), ((0, 24), [], []), ((0, 160), [], []), ((0, 1200), [], []), ((0, 24), [], []), ((0, 24), [], []), ((0, 3), [], []), ((0, 4), [(3, -1), (2, -1), (1, -1), (0, -1)], []), ((0, 4), [], []), ((0, 160), [], []), ((0, 44), [(42, 32), (41, 101), (40, 100), (39, 105), (38, 115), (37, 101), (36, 98), (35, 32), (34, 115), (33, 100), (32, 110), (31, 105), (30, 109), (29, 32), (28, 59), (27, 32), (26, 48), (25, 54), (24, 32), (23, 115), (22, 100), (21, 108), (20, 111), (19, 104), (18, 32), (17, 59), (16, 32), (15, 115), (14, 115), (13, 111), (12, 114), (11, 99), (10, 97), (9, 32), (8, 45), (7, 32), (6, 53), (5, 32), (4, 115), (3, 110), (2, 97), (1, 101), (0, 108)], [])]
def hm_72 : List e_cl := [((21, 35), [], [(16, 87), (15, 86), (14, 85), (13, 84), (12, 83), (8, 82), (7, 81), (5, 80), (3, 79), (2, 78), (1, 77)]), ((0, 6), [], []), ((0, 6), [], []), ((0, 24), [], []), ((0, 160), [], []), ((0, 1200), [], []), ((0, 24), [], []), ((0, 24), [], []), ((0, 3), [], []), ((0, 4), [(3, -1), (2, -1), (1, -1), (0, -1)], []), ((0, 4), [], []), ((0, 160), [], []), ((0, 44), [(43, 59), (42, 32), (41, 101), (40, 100), (39, 105), (38, 115), (37, 101), (36, 98), (35, 32), (34, 115), (33, 100), (32, 110), (31, 105), (30, 109), (29, 32), (28, 59), (27, 32), (26, 48), (25, 54), (24, 32), (23, 115), (22, 100), (21, 108), (20, 111), (19, 104), (18, 32), (17, 59), (16, 32), (15, 115), (14, 115), (13, 111), (12, 114), (11, 99), (10, 97), (9, 32), (8, 45), (7, 32), (6, 53), (5, 32), (4, 115), (3, 110), (2, 97), (1, 101), (0, 108)], [])]
def hm_73 : List e_cl := [((21, 35), [], [(17, 88), (16, 87), (15, 86), (14, 85), (13, 84), (12, 83), (8, 82), (7, 81), (5, 80), (3, 79), (2, 78), (1, 77)]), ((0, 6), [], []), ((0, 6), [], []), ((0, 24), [], []), ((0, 160), [], []), ((0, 1200), [], []), ((0, 24), [], []), ((0, 24), [], []), ((0, 3), [], []), ((0, 4), [(3, -1), (2, -1), (1, -1), (0, -1)], []), ((0, 4), [], []), ((0, 160), [], []), ((0, 44), [(43, 59), (42, 32), (41, 101), (40, 100), (39, 105), (38, 115), (37, 101), (36, 98), (35, 32), (34, 115), (33, 100), (32, 110), (31, 105), (30, 109), (29, 32), (28, 59), (27, 32), (26, 48), (25, 54), (24, 32), (23, 115), (22, 100), (21, 108), (20, 111), (19, 104), (18, 32), (17, 59), (16, 32), (15, 115), (14, 115), (13, 111), (12, 114), (11, 99), (10, 97), (9, 32), (8, 45), (7, 32), (6, 53), (5, 32), (4, 115), (3, 110), (2, 97), (1, 101), (0, 108)], [])]
def hm_74 : List e_cl := [((21, 35), [], [(17, 88), (16, 87), (15, 86), (14, 85), (13, 84), (12, 83), (8, 82), (7, 81), (5, 80), (3, 79), (2, 78), (1, 77)]), ((0, 6), [], []), ((0, 6), [], []), ((0, 24), [], []), ((0, 160), [], []), ((0, 1200), [], []), ((0, 24), [], []), ((0, 24), [], []), ((0, 3), [], []), ((0, 4), [(3, -1), (2, -1), (1, -1), (0, -1)], []), ((0, 4), [], []), ((0, 160), [], []), ((0, 44), [(43, 59), (42, 32), (41, 101), (40, 100), (39, 105), (38, 115), (37, 101), (36, 98), (35, 32), (34, 115), (33, 100), (32, 110), (31, 105), (30, 109), (29, 32), (28, 59), (27, 32), (26, 48), (25, 54), (24, 32), (23, 115), (22, 100), (21, 108), (20, 111), (19, 104), (18, 32), (17, 59), (16, 32), (15, 115), (14, 115), (13, 111), (12, 114), (11, 99), (10, 97), (9, 32), (8, 45), (7, 32), (6, 53), (5, 32), (4, 115), (3, 110), (2, 97), (1, 101), (0, 108)], []), ((0, 96), [], [])]
def hm_75 : List e_cl := [((21, 35), [], [(17, 88), (16, 87), (15, 86), (14, 85), (13, 84), (12, 83), (8, 82), (7, 81), (5, 80), (3, 79), (2, 78), (1, 77)]), ((0, 6), [], []), ((0, 6), [], []), ((0, 24), [], []), ((0, 160), [], []), ((0, 1200), [], []), ((0, 24), [], []), ((0, 24), [], []), ((0, 3), [], []), ((0, 4), [(3, -1), (2, -1), (1, -1), (0, -1)], []), ((0, 4), [], []), ((0, 160), [], []), ((0, 44), [(43, 59), (42, 32), (41, 101), (40, 100), (39, 105), (38, 115), (37, 101), (36, 98), (35, 32), (34, 115), (33, 100), (32, 110), (31, 105), (30, 109), (29, 32), (28, 59), (27, 32), (26, 48), (25, 54), (24, 32), (23, 115), (22, 100), (21, 108), (20, 111), (19, 104), (18, 32), (17, 59), (16, 32), (15, 115), (14, 115), (13, 111), (12, 114), (11, 99), (10, 97), (9, 32), (8, 45), (7, 32), (6, 53), (5, 32), (4, 115), (3, 110), (2, 97), (1, 101), (0, 108)], []), ((0, 96), [(0, 108)], [])]
def hm_76 : List e_cl := [((21, 35), [], [(17, 88), (16, 87), (15, 86), (14, 85), (13, 84), (12, 83), (8, 82), (7, 81), (5, 80), (3, 79), (2, 78), (1, 77)]), ((0, 6), [], []), ((0, 6), [], []), ((0, 24), [], []), ((0, 160), [], []), ((0, 1200), [], []), ((0, 24), [], []), ((0, 24), [], []), ((0, 3), [], []), ((0, 4), [(3, -1), (2, -1), (1, -1), (0, -1)], []), ((0, 4), [], []), ((0, 160), [], []), ((0, 44), [(43, 59), (42, 32), (41, 101), (40, 100), (39, 105), (38, 115), (37, 101), (36, 98), (35, 32), (34, 115), (33, 100), (32, 110), (31, 105), (30, 109), (29, 32), (28, 59), (27, 32), (26, 48), (25, 54), (24, 32), (23, 115), (22, 100), (21, 108), (20, 111), (19, 104), (18, 32), (17, 59), (16, 32), (15, 115), (14, 115), (13, 111), (12, 114), (11, 99), (10, 97), (9, 32), (8, 45), (7, 32), (6, 53), (5, 32), (4, 115), (3, 110), (2, 97), (1, 101), (0, 108)], []), ((0, 96), [(1, 101), (0, 108)], [])]
def hm_77 : List e_cl := [((21, 35), [], [(17, 88), (16, 87), (15, 86), (14, 85), (13, 84), (12, 83), (8, 82), (7, 81), (5, 80), (3, 79), (2, 78), (1, 77)]), ((0, 6), [], []), ((0, 6), [], []), ((0, 24), [], []), ((0, 160), [], []), ((0, 1200), [], []), ((0, 24), [], []), ((0, 24), [], []), ((0, 3), [], []), ((0, 4), [(3, -1), (2, -1), (1, -1), (0, -1)], []), ((0, 4), [], []), ((0, 160), [], []), ((0, 44), [(43, 59), (42, 32), (41, 101), (40, 100), (39, 105), (38, 115), (37, 101), (36, 98), (35, 32), (34, 115), (33, 100), (32, 110), (31, 105), (30, 109), (29, 32), (28, 59), (27, 32), (26, 48), (25, 54), (24, 32), (23, 115), (22, 100), (21, 108), (20, 111), (19, 104), (18, 32), (17, 59), (16, 32), (15, 115), (14, 115), (13, 111), (12, 114), (11, 99), (10, 97), (9, 32), (8, 45), (7, 32), (6, 53), (5, 32), (4, 115), (3, 110), (2, 97), (1, 101), (0, 108)], []), ((0, 96), [(2, 97), (1, 101), (0, 108)], [])]
def hm_78 : List e_cl := [((21, 35), [], [(17, 88), (16, 87), (15, 86), (14, 85), (13, 84), (12, 83), (8, 82), (7, 81), (5, 80), (3, 79), (2, 78), (1, 77)]), ((0, 6), [], []), ((0, 6), [], []), ((0, 24), [], []), ((0, 160), [], []), ((0, 1200), [], []), ((0, 24), [], []), ((0, 24), [], []), ((0, 3), [], []), ((0, 4), [(3, -1), (2, -1), (1, -1), (0, -1)], []), ((0, 4), [], []), ((0, 160), [], []), ((0, 44), [(43, 59), (42, 32), (41, 101), (40, 100), (39, 105), (38, 115), (37, 101), (36, 98), (35, 32), (34, 115), (33, 100), (32, 110), (31, 105), (30, 109), (29, 32), (28, 59), (27, 32), (26, 48), (25, 54), (24, 32), (23, 115), (22, 100), (21, 108), (20, 111), (19, 104), (18, 32), (17, 59), (16, 32), (15, 115), (14, 115), (13, 111), (12, 114), (11, 99), (10, 97), (9, 32), (8, 45), (7, 32), (6, 53), (5, 32), (4, 115), (3, 110), (2, 97), (1, 101), (0, 108)], []), ((0, 96), [(3, 110), (2, 97), (1, 101), (0, 108)], [])]
def hm_79 : List e_cl := [((21, 35), [], [(17, 88), (16, 87), (15, 86), (14, 85), (13, 84), (12, 83), (8, 82), (7, 81), (5, 80), (3, 79), (2, 78), (1, 77)]), ((0, 6), [], []), ((0, 6), [], []), ((0, 24), [], []), ((0, 160), [], []), ((0, 1200), [], []), ((0, 24), [], []), ((0, 24), [], []), ((0, 3), [], []), ((0, 4), [(3, -1), (2, -1), (1, -1), (0, -1)], []), ((0, 4), [], []), ((0, 160), [], []), ((0, 44), [(43, 59), (42, 32), (41, 101), (40, 100), (39, 105), (38, 115), (37, 101), (36, 98), (35, 32), (34, 115), (33, 100), (32, 110), (31, 105), (30, 109), (29, 32), (28, 59), (27, 32), (26, 48), (25, 54), (24, 32), (23, 115), (22, 100), (21, 108), (20, 111), (19, 104), (18, 32), (17, 59), (16, 32), (15, 115), (14, 115), (13, 111), (12, 114), (11, 99), (10, 97), (9, 32), (8, 45), (7, 32), (6, 53), (5, 32), (4, 115), (3, 110), (2, 97), (1, 101), (0, 108)], []), ((0, 96), [(4, 115), (3, 110), (2, 97), (1, 101), (0, 108)], [])]
def hm_80 : List e_cl := [((21, 35), [], [(17, 88), (16, 87), (15, 86), (14, 85), (13, 84), (12, 83), (8, 82), (7, 81), (5, 80), (3, 79), (2, 78), (1, 77)]), ((0, 6), [], []), ((0, 6), [], []), ((0, 24), [], []), ((0, 160), [], []), ((0, 1200), [], []), ((0, 24), [], []), ((0, 24), [], []), ((0, 3), [], []), ((0, 4), [(3, -1), (2, -1), (1, -1), (0, -1)], []), ((0, 4), [], []), ((0, 160), [], []), ((0, 44), [(43, 59), (42, 32), (41, 101), (40, 100), (39, 105), (38, 115), (37, 101), (36, 98), (35, 32), (34, 115), (33, 100), (32, 110), (31, 105), (30, 109), (29, 32), (28, 59), (27, 32), (26, 48), (25, 54), (24, 32), (23, 115), (22, 100), (21, 108), (20, 111), (19, 104), (18, 32), (17, 59), (16, 32), (15, 115), (14, 115), (13, 111), (12, 114), (11, 99), (10, 97), (9, 32), (8, 45), (7, 32), (6, 53), (5, 32), (4, 115), (3, 110), (2, 97), (1, 101), (0, 108)], []), ((0, 96), [(5, 32), (4, 115), (3, 110), (2, 97), (1, 101), (0, 108)], [])]
def hm_81 : List e_cl := [((21, 35), [], [(17, 88), (16, 87), (15, 86), (14, 85), (13, 84), (12, 83), (8, 82), (7, 81), (5, 80), (3, 79), (2, 78), (1, 77)]), ((0, 6), [], []), ((0, 6), [], []), ((0, 24), [], []), ((0, 160), [], []), ((0, 1200), [], []), ((0, 24), [], []), ((0, 24), [], []), ((0, 3), [], []), ((0, 4), [(3, -1), (2, -1), (1, -1), (0, -1)], []), ((0, 4), [], []), ((0, 160), [], []), ((0, 44), [(43, 59), (42, 32), (41, 101), (40, 100), (39, 105), (38, 115), (37, 101), (36, 98), (35, 32), (34, 115), (33, 100), (32, 110), (31, 105), (30, 109), (29, 32), (28, 59), (27, 32), (26, 48), (25, 54), (24, 32), (23, 115), (22, 100), (21, 108), (20, 111), (19, 104), (18, 32), (17, 59), (16, 32), (15, 115), (14, 115), (13, 111), (12, 114), (11, 99), (10, 97), (9, 32), (8, 45), (7, 32), (6, 53), (5, 32), (4, 115), (3, 110), (2, 97), (1, 101), (0, 108)], []), ((0, 96), [(6, 32), (5, 32), (4, 115), (3, 110), (2, 97), (1, 101), (0, 108)], [])]
def hm_82 : List e_cl := [((21, 35), [], [(17, 88), (16, 87), (15, 86), (14, 85), (13, 84), (12, 83), (8, 82), (7, 81), (5, 80), (3, 79), (2, 78), (1, 77)]), ((0, 6), [], []), ((0, 6), [], []), ((0, 24), [], []), ((0, 160), [], []), ((0, 1200), [], []), ((0, 24), [], []), ((0, 24), [], []), ((0, 3), [], []), ((0, 4), [(3, -1), (2, -1), (1, -1), (0, -1)], []), ((0, 4), [], []), ((0, 160), [], []), ((0, 44), [(43, 59), (42, 32), (41, 101), (40, 100), (39, 105), (38, 115), (37, 101), (36, 98), (35, 32), (34, 115), (33, 100), (32, 110), (31, 105), (30, 109), (29, 32), (28, 59), (27, 32), (26, 48), (25, 54), (24, 32), (23, 115), (22, 100), (21, 108), (20, 111), (19, 104), (18, 32), (17, 59), (16, 32), (15, 115), (14, 115), (13, 111), (12, 114), (11, 99), (10, 97), (9, 32), (8, 45), (7, 32), (6, 53), (5, 32), (4, 115), (3, 110), (2, 97), (1, 101), (0, 108)], []), ((0, 96), [(7, 32), (6, 32), (5, 32), (4, 115), (3, 110), (2, 97), (1, 101), (0, 108)], [])]
def hm_83 : List e_cl := [((21, 35), [], [(17, 88), (16, 87), (15, 86), (14, 85), (13, 84), (12, 83), (8, 82), (7, 81), (5, 80), (3, 79), (2, 78), (1, 77)]), ((0, 6), [], []), ((0, 6), [], []), ((0, 24), [], []), ((0, 160), [], []), ((0, 1200), [], []), ((0, 24), [], []), ((0, 24), [], []), ((0, 3), [], []), ((0, 4), [(3, -1), (2, -1), (1, -1), (0, -1)], []), ((0, 4), [], []), ((0, 160), [], []), ((0, 44), [(43, 59), (42, 32), (41, 101), (40, 100), (39, 105), (38, 115), (37, 101), (36, 98), (35, 32), (34, 115), (33, 100), (32, 110), (31, 105), (30, 109), (29, 32), (28, 59), (27, 32), (26, 48), (25, 54), (24, 32), (23, 115), (22, 100), (21, 108), (20, 111), (19, 104), (18, 32), (17, 59), (16, 32), (15, 115), (14, 115), (13, 111), (12, 114), (11, 99), (10, 97), (9, 32), (8, 45), (7, 32), (6, 53), (5, 32), (4, 115), (3, 110), (2, 97), (1, 101), (0, 108)], []), ((0, 96), [(8, 104), (7, 32), (6, 32), (5, 32), (4, 115), (3, 110), (2, 97), (1, 101), (0, 108)], [])]
def hm_84 : List e_cl := [((21, 35), [], [(17, 88), (16, 87), (15, 86), (14, 85), (13, 84), (12, 83), (8, 82), (7, 81), (5, 80), (3, 79), (2, 78), (1, 77)]), ((0, 6), [], []), ((0, 6), [], []), ((0, 24), [], []), ((0, 160), [], []), ((0, 1200), [], []), ((0, 24), [], []), ((0, 24), [], []), ((0, 3), [], []), ((0, 4), [(3, -1), (2, -1), (1, -1), (0, -1)], []), ((0, 4), [], []), ((0, 160), [], []), ((0, 44), [(43, 59), (42, 32), (41, 101), (40, 100), (39, 105), (38, 115), (37, 101), (36, 98), (35, 32), (34, 115), (33, 100), (32, 110), (31, 105), (30, 109), (29, 32), (28, 59), (27, 32), (26, 48), (25, 54), (24, 32), (23, 115), (22, 100), (21, 108), (20, 111), (19, 104), (18, 32), (17, 59), (16, 32), (15, 115), (14, 115), (13, 111), (12, 114), (11, 99), (10, 97), (9, 32), (8, 45), (7, 32), (6, 53), (5, 32), (4, 115), (3, 110), (2, 97), (1, 101), (0, 108)], []), ((0, 96), [(9, 111), (8, 104), (7, 32), (6, 32), (5, 32), (4, 115), (3, 110), (2, 97), (1, 101), (0, 108)], [])]
def hm_85 : List e_cl := [((21, 35), [], [(17, 88), (16, 87), (15, 86), (14, 85), (13, 84), (12, 83), (8, 82), (7, 81), (5, 80), (3, 79), (2, 78), (1, 77)]), ((0, 6), [], []), ((0, 6), [], []), ((0, 24), [], []), ((0, 160), [], []), ((0, 1200), [], []), ((0, 24), [], []), ((0, 24), [], []), ((0, 3), [], []), ((0, 4), [(3, -1), (2, -1), (1, -1), (0, -1)], []), ((0, 4), [], []), ((0, 160), [], []), ((0, 44), [(43, 59), (42, 32), (41, 101), (40, 100), (39, 105), (38, 115), (37, 101), (36, 98), (35, 32), (34, 115), (33, 100), (32, 110), (31, 105), (30, 109), (29, 32), (28, 59), (27, 32), (26, 48), (25, 54), (24, 32), (23, 115), (22, 100), (21, 108), (20, 111), (19, 104), (18, 32), (17, 59), (16, 32), (15, 115), (14, 115), (13, 111), (12, 114), (11, 99), (10, 97), (9, 32), (8, 45), (7, 32), (6, 53), (5, 32), (4, 115), (3, 110), (2, 97), (1, 101), (0, 108)], []), ((0, 96), [(10, 108), (9, 111), (8, 104), (7, 32), (6, 32), (5, 32), (4, 115), (3, 110), (2, 97), (1, 101), (0, 108)], [])]
def hm_86 : List e_cl := [((21, 35), [], [(17, 88), (16, 87), (15, 86), (14, 85), (13, 84), (12, 83), (8, 82), (7, 81), (5, 80), (3, 79), (2, 78), (1, 77)]), ((0, 6), [], []), ((0, 6), [], []), ((0, 24), [], []), ((0, 160), [], []), ((0, 1200), [], []), ((0, 24), [], []), ((0, 24), [], []), ((0, 3), [], []), ((0, 4), [(3, -1), (2, -1), (1, -1), (0, -1)], []), ((0, 4), [], []), ((0, 160), [], []), ((0, 44), [(43, 59), (42, 32), (41, 101), (40, 100), (39, 105), (38, 115), (37, 101), (36, 98), (35, 32), (34, 115), (33, 100), (32, 110), (31, 105), (30, 109), (29, 32), (28, 59), (27, 32), (26, 48), (25, 54), (24, 32), (23, 115), (22, 100), (21, 108), (20, 111), (19, 104), (18, 32), (17, 59), (16, 32), (15, 115), (14, 115), (13, 111), (12, 114), (11, 99), (10, 97), (9, 32), (8, 45), (7, 32), (6, 53), (5, 32), (4, 115), (3, 110), (2, 97), (1, 101), (0, 108)], []), ((0, 96), [(11, 100), (10, 108), (9, 111), (8, 104), (7, 32), (6, 32), (5, 32), (4, 115), (3, 110), (2, 97), (1, 101), (0, 108)], [])]
def hm_87 : List e_cl := [((21, 35), [], [(17, 88), (16, 87), (15, 86), (14, 85), (13, 84), (12, 83), (8, 82), (7, 81), (5, 80), (3, 79), (2, 78), (1, 77)]), ((0, 6), [], []), ((0, 6), [], []), ((0, 24), [], []), ((0, 160), [], []), ((0, 1200), [], []), ((0, 24), [], []), ((0, 24), [], []), ((0, 3), [], []), ((0, 4), [(3, -1), (2, -1), (1, -1), (0, -1)], []), ((0, 4), [], []), ((0, 160), [], []), ((0, 44), [(43, 59), (42, 32), (41, 101), (40, 100), (39, 105), (38, 115), (37, 101), (36, 98), (35, 32), (34, 115), (33, 100), (32, 110), (31, 105), (30, 109), (29, 32), (28, 59), (27, 32), (26, 48), (25, 54), (24, 32), (23, 115), (22, 100), (21, 108), (20, 111), (19, 104), (18, 32), (17, 59), (16, 32), (15, 115), (14, 115), (13, 111), (12, 114), (11, 99), (10, 97), (9, 32), (8, 45), (7, 32), (6, 53), (5, 32), (4, 115), (3, 110), (2, 97), (1, 101), (0, 108)], []), ((0, 96), [(12, 115), (11, 100), (10, 108), (9, 111), (8, 104), (7, 32), (6, 32), (5, 32), (4, 115), (3, 110), (2, 97), (1, 101), (0, 108)], [])]
def hm_88 : List e_cl := [((21, 35), [], [(17, 88), (16, 87), (15, 86), (14, 85), (13, 84), (12, 83), (8, 82), (7, 81), (5, 80), (3, 79), (2, 78), (1, 77)]), ((0, 6), [], []), ((0, 6), [], []), ((0, 24), [], []), ((0, 160), [], []), ((0, 1200), [], []), ((0, 24), [], []), ((0, 24), [], []), ((0, 3), [], []), ((0, 4), [(3, -1), (2, -1), (1, -1), (0, -1)], []), ((0, 4), [], []), ((0, 160), [], []), ((0, 44), [(43, 59), (42, 32), (41, 101), (40, 100), (39, 105), (38, 115), (37, 101), (36, 98), (35, 32), (34, 115), (33, 100), (32, 110), (31, 105), (30, 109), (29, 32), (28, 59), (27, 32), (26, 48), (25, 54), (24, 32), (23, 115), (22, 100), (21, 108), (20, 111), (19, 104), (18, 32), (17, 59), (16, 32), (15, 115), (14, 115), (13, 111), (12, 114), (11, 99), (10, 97), (9, 32), (8, 45), (7, 32), (6, 53), (5, 32), (4, 115), (3, 110), (2, 97), (1, 101), (0, 108)], []), ((0, 96), [(13, 32), (12, 115), (11, 100), (10, 108), (9, 111), (8, 104), (7, 32), (6, 32), (5, 32), (4, 115), (3, 110), (2, 97), (1, 101), (0, 108)], [])]
def hm_89 : List e_cl := [((21, 35), [], [(17, 88), (16, 87), (15, 86), (14, 85), (13, 84), (12, 83), (8, 82), (7, 81), (5, 80), (3, 79), (2, 78), (1, 77)]), ((0, 6), [], []), ((0, 6), [], []), ((0, 24), [], []), ((0, 160), [], []), ((0, 1200), [], []), ((0, 24), [], []), ((0, 24), [], []), ((0, 3), [], []), ((0, 4), [(3, -1), (2, -1), (1, -1), (0, -1)], []), ((0, 4), [], []), ((0, 160), [], []), ((0, 44), [(43, 59), (42, 32), (41, 101), (40, 100), (39, 105), (38, 115), (37, 101), (36, 98), (35, 32), (34, 115), (33, 100), (32, 110), (31, 105), (30, 109), (29, 32), (28, 59), (27, 32), (26, 48), (25, 54), (24, 32), (23, 115), (22, 100), (21, 108), (20, 111), (19, 104), (18, 32), (17, 59), (16, 32), (15, 115), (14, 115), (13, 111), (12, 114), (11, 99), (10, 97), (9, 32), (8, 45), (7, 32), (6, 53), (5, 32), (4, 115), (3, 110), (2, 97), (1, 101), (0, 108)], []), ((0, 96), [(14, 32), (13, 32), (12, 115), (11, 100), (10, 108), (9, 111), (8, 104), (7, 32), (6, 32), (5, 32), (4, 115), (3, 110), (2, 97), (1, 101), (0, 108)], [])]
def hm_90 : List e_cl := [((21, 35), [], [(17, 88), (16, 87), (15, 86), (14, 85), (13, 84), (12, 83), (8, 82), (7, 81), (5, 80), (3, 79), (2, 78), (1, 77)]), ((0, 6), [], []), ((0, 6), [], []), ((0, 24), [], []), ((0, 160), [], []), ((0, 1200), [], []), ((0, 24), [], []), ((0, 24), [], []), ((0, 3), [], []), ((0, 4), [(3, -1), (2, -1), (1, -1), (0, -1)], []), ((0, 4), [], []), ((0, 160), [], []), ((0, 44), [(43, 59), (42, 32), (41, 101), (40, 100), (39, 105), (38, 115), (37, 101), (36, 98), (35, 32), (34, 115), (33, 100), (32, 110), (31, 105), (30, 109), (29, 32), (28, 59), (27, 32), (26, 48), (25, 54), (24, 32), (23, 115), (22, 100), (21, 108), (20, 111), (19, 104), (18, 32), (17, 59), (16, 32), (15, 115), (14, 115), (13, 111), (12, 114), (11, 99), (10, 97), (9, 32), (8, 45), (7, 32), (6, 53), (5, 32), (4, 115), (3, 110), (2, 97), (1, 101), (0, 108)], []), ((0, 96), [(15, 32), (14, 32), (13, 32), (12, 115), (11, 100), (10, 108), (9, 111), (8, 104), (7, 32), (6, 32), (5, 32), (4, 115), (3, 110), (2, 97), (1, 101), (0, 108)], [])]
def hm_91 : List e_cl := [((21, 35), [], [(17, 88), (16, 87), (15, 86), (14, 85), (13, 84), (12, 83), (8, 82), (7, 81), (5, 80), (3, 79), (2, 78), (1, 77)]), ((0, 6), [], []), ((0, 6), [], []), ((0, 24), [], []), ((0, 160), [], []), ((0, 1200), [], []), ((0, 24), [], []), ((0, 24), [], []), ((0, 3), [], []), ((0, 4), [(3, -1), (2, -1), (1, -1), (0, -1)], []), ((0, 4), [], []), ((0, 160), [], []), ((0, 44), [(43, 59), (42, 32), (41, 101), (40, 100), (39, 105), (38, 115), (37, 101), (36, 98), (35, 32), (34, 115), (33, 100), (32, 110), (31, 105), (30, 109), (29, 32), (28, 59), (27, 32), (26, 48), (25, 54), (24, 32), (23, 115), (22, 100), (21, 108), (20, 111), (19, 104), (18, 32), (17, 59), (16, 32), (15, 115), (14, 115), (13, 111), (12, 114), (11, 99), (10, 97), (9, 32), (8, 45), (7, 32), (6, 53), (5, 32), (4, 115), (3, 110), (2, 97), (1, 101), (0, 108)], []), ((0, 96), [(16, 109), (15, 32), (14, 32), (13, 32), (12, 115), (11, 100), (10, 108), (9, 111), (8, 104), (7, 32), (6, 32), (5, 32), (4, 115), (3, 110), (2, 97), (1, 101), (0, 108)], [])]
def hm_92 : List e_cl := [((21, 35), [], [(17, 88), (16, 87), (15, 86), (14, 85), (13, 84), (12, 83), (8, 82), (7, 81), (5, 80), (3, 79), (2, 78), (1, 77)]), ((0, 6), [], []), ((0, 6), [], []), ((0, 24), [], []), ((0, 160), [], []), ((0, 1200), [], []), ((0, 24), [], []), ((0, 24), [], []), ((0, 3), [], []), ((0, 4), [(3, -1), (2, -1), (1, -1), (0, -1)], []), ((0, 4), [], []), ((0, 160), [], []), ((0, 44), [(43, 59), (42, 32), (41, 101), (40, 100), (39, 105), (38, 115), (37, 101), (36, 98), (35, 32), (34, 115), (33, 100), (32, 110), (31, 105), (30, 109), (29, 32), (28, 59), (27, 32), (26, 48), (25, 54), (24, 32), (23, 115), (22, 100), (21, 108), (20, 111), (19, 104), (18, 32), (17, 59), (16, 32), (15, 115), (14, 115), (13, 111), (12, 114), (11, 99), (10, 97), (9, 32), (8, 45), (7, 32), (6, 53), (5, 32), (4, 115), (3, 110), (2, 97), (1, 101), (0, 108)], []), ((0, 96), [(17, 105), (16, 109), (15, 32), (14, 32), (13, 32), (12, 115), (11, 100), (10, 108), (9, 111), (8, 104), (7, 32), (6, 32), (5, 32), (4, 115), (3, 110), (2, 97), (1, 101), (0, 108)], [])]
def hm_93 : List e_cl := [((21, 35), [], [(17, 88), (16, 87), (15, 86), (14, 85), (13, 84), (12, 83), (8, 82), (7, 81), (5, 80), (3, 79), (2, 78), (1, 77)]), ((0, 6), [], []), ((0, 6), [], []), ((0, 24), [], []), ((0, 160), [], []), ((0, 1200), [], []), ((0, 24), [], []), ((0, 24), [], []), ((0, 3), [], []), ((0, 4), [(3, -1), (2, -1), (1, -1), (0, -1)], []), ((0, 4), [], []), ((0, 160), [], []), ((0, 44), [(43, 59), (42, 32), (41, 101), (40, 100), (39, 105), (38, 115), (37, 101), (36, 98), (35, 32), (34, 115), (33, 100), (32, 110), (31, 105), (30, 109), (29, 32), (28, 59), (27, 32), (26, 48), (25, 54), (24, 32), (23, 115), (22, 100), (21, 108), (20, 111), (19, 104), (18, 32), (17, 59), (16, 32), (15, 115), (14, 115), (13, 111), (12, 114), (11, 99), (10, 97), (9, 32), (8, 45), (7, 32), (6, 53), (5, 32), (4, 115), (3, 110), (2, 97), (1, 101), (0, 108)], []), ((0, 96), [(18, 110), (17, 105), (16, 109), (15, 32), (14, 32), (13, 32), (12, 115), (11, 100), (10, 108), (9, 111), (8, 104), (7, 32), (6, 32), (5, 32), (4, 115), (3, 110), (2, 97), (1, 101), (0, 108)], [])]
def hm_94 : List e_cl := [((21, 35), [], [(17, 88), (16, 87), (15, 86), (14, 85), (13, 84), (12, 83), (8, 82), (7, 81), (5, 80), (3, 79), (2, 78), (1, 77)]), ((0, 6), [], []), ((0, 6), [], []), ((0, 24), [], []), ((0, 160), [], []), ((0, 1200), [], []), ((0, 24), [], []), ((0, 24), [], []), ((0, 3), [], []), ((0, 4), [(3, -1), (2, -1), (1, -1), (0, -1)], []), ((0, 4), [], []), ((0, 160), [], []), ((0, 44), [(43, 59), (42, 32), (41, 101), (40, 100), (39, 105), (38, 115), (37, 101), (36, 98), (35, 32), (34, 115), (33, 100), (32, 110), (31, 105), (30, 109), (29, 32), (28, 59), (27, 32), (26, 48), (25, 54), (24, 32), (23, 115), (22, 100), (21, 108), (20, 111), (19, 104), (18, 32), (17, 59), (16, 32), (15, 115), (14, 115), (13, 111), (12, 114), (11, 99), (10, 97), (9, 32), (8, 45), (7, 32), (6, 53), (5, 32), (4, 115), (3, 110), (2, 97), (1, 101), (0, 108)], []), ((0, 96), [(19, 100), (18, 110), (17, 105), (16, 109), (15, 32), (14, 32), (13, 32), (12, 115), (11, 100), (10, 108), (9, 111), (8, 104), (7, 32), (6, 32), (5, 32), (4, 115), (3, 110), (2, 97), (1, 101), (0, 108)], [])]
def hm_95 : List e_cl := [((21, 35), [], [(17, 88), (16, 87), (15, 86), (14, 85), (13, 84), (12, 83), (8, 82), (7, 81), (5, 80), (3, 79), (2, 78), (1, 77)]), ((0, 6), [], []), ((0, 6), [], []), ((0, 24), [], []), ((0, 160), [], []), ((0, 1200), [], []), ((0, 24), [], []), ((0, 24), [], []), ((0, 3), [], []), ((0, 4), [(3, -1), (2, -1), (1, -1), (0, -1)], []), ((0, 4), [], []), ((0, 160), [], []), ((0, 44), [(43, 59), (42, 32), (41, 101), (40, 100), (39, 105), (38, 115), (37, 101), (36, 98), (35, 32), (34, 115), (33, 100), (32, 110), (31, 105), (30, 109), (29, 32), (28, 59), (27, 32), (26, 48), (25, 54), (24, 32), (23, 115), (22, 100), (21, 108), (20, 111), (19, 104), (18, 32), (17, 59), (16, 32), (15, 115), (14, 115), (13, 111), (12, 114), (11, 99), (10, 97), (9, 32), (8, 45), (7, 32), (6, 53), (5, 32), (4, 115), (3, 110), (2, 97), (1, 101), (0, 108)], []), ((0, 96), [(20, 115), (19, 100), (18, 110), (17, 105), (16, 109), (15, 32), (14, 32), (13, 32), (12, 115), (11, 100), (10, 108), (9, 111), (8, 104), (7, 32), (6, 32), (5, 32), (4, 115), (3, 110), (2, 97), (1, 101), (0, 108)], [])]
def hm_96 : List e_cl := [((21, 35), [], [(17, 88), (16, 87), (15, 86), (14, 85), (13, 84), (12, 83), (8, 82), (7, 81), (5, 80), (3, 79), (2, 78), (1, 77)]), ((0, 6), [], []), ((0, 6), [], []), ((0, 24), [], []), ((0, 160), [], []), ((0, 1200), [], []), ((0, 24), [], []), ((0, 24), [], []), ((0, 3), [], []), ((0, 4), [(3, -1), (2, -1), (1, -1), (0, -1)], []), ((0, 4), [], []), ((0, 160), [], []), ((0, 44), [(43, 59), (42, 32), (41, 101), (40, 100), (39, 105), (38, 115), (37, 101), (36, 98), (35, 32), (34, 115), (33, 100), (32, 110), (31, 105), (30, 109), (29, 32), (28, 59), (27, 32), (26, 48), (25, 54), (24, 32), (23, 115), (22, 100), (21, 108), (20, 111), (19, 104), (18, 32), (17, 59), (16, 32), (15, 115), (14, 115), (13, 111), (12, 114), (11, 99), (10, 97), (9, 32), (8, 45), (7, 32), (6, 53), (5, 32), (4, 115), (3, 110), (2, 97), (1, 101), (0, 108)], []), ((0, 96), [(21, 32), (20, 115), (19, 100), (18, 110), (17, 105), (16, 109), (15, 32), (14, 32), (13, 32), (12, 115), (11, 100), (10, 108), (9, 111), (8, 104), (7, 32), (6, 32), (5, 32), (4, 115), (3, 110), (2, 97), (1, 101), (0, 108)], [])]
def hm_97 : List e_cl := [((21, 35), [], [(17, 88), (16, 87), (15, 86), (14, 85), (13, 84), (12, 83), (8, 82), (7, 81), (5, 80), (3, 79), (2, 78), (1, 77)]), ((0, 6), [], []), ((0, 6), [], []), ((0, 24), [], []), ((0, 160), [], []), ((0, 1200), [], []), ((0, 24), [], []), ((0, 24), [], []), ((0, 3), [], []), ((0, 4), [(3, -1), (2, -1), (1, -1), (0, -1)], []), ((0, 4), [], []), ((0, 160), [], []), ((0, 44), [(43, 59), (42, 32), (41, 101), (40, 100), (39, 105), (38, 115), (37, 101), (36, 98), (35, 32), (34, 115), (33, 100), (32, 110), (31, 105), (30, 109), (29, 32), (28, 59), (27, 32), (26, 48), (25, 54), (24, 32), (23, 115), (22, 100), (21, 108), (20, 111), (19, 104), (18, 32), (17, 59), (16, 32), (15, 115), (14, 115), (13, 111), (12, 114), (11, 99), (10, 97), (9, 32), (8, 45), (7, 32), (6, 53), (5, 32), (4, 115), (3, 110), (2, 97), (1, 101), (0, 108)], []), ((0, 96), [(22, 32), (21, 32), (20, 115), (19, 100), (18, 110), (17, 105), (16, 109), (15, 32), (14, 32), (13, 32), (12, 115), (11, 100), (10, 108), (9, 111), (8, 104), (7, 32), (6, 32), (5, 32), (4, 115), (3, 110), (2, 97), (1, 101), (0, 108)], [])]
def hm_98 : List e_cl := [((21, 35), [], [(17, 88), (16, 87), (15, 86), (14, 85), (13, 84), (12, 83), (8, 82), (7, 81), (5, 80), (3, 79), (2, 78), (1, 77)]), ((0, 6), [], []), ((0, 6), [], []), ((0, 24), [], []), ((0, 160), [], []), ((0, 1200), [], []), ((0, 24), [], []), ((0, 24), [], []), ((0, 3), [], []), ((0, 4), [(3, -1), (2, -1), (1, -1), (0, -1)], []), ((0, 4), [], []), ((0, 160), [], []), ((0, 44), [(43, 59), (42, 32), (41, 101), (40, 100), (39, 105), (38, 115), (37, 101), (36, 98), (35, 32), (34, 115), (33, 100), (32, 110), (31, 105), (30, 109), (29, 32), (28, 59), (27, 32), (26, 48), (25, 54), (24, 32), (23, 115), (22, 100), (21, 108), (20, 111), (19, 104), (18, 32), (17, 59), (16, 32), (15, 115), (14, 115), (13, 111), (12, 114), (11, 99), (10, 97), (9, 32), (8, 45), (7, 32), (6, 53), (5, 32), (4, 115), (3, 110), (2, 97), (1, 101), (0, 108)], []), ((0, 96), [(23, 32), (22, 32), (21, 32), (20, 115), (19, 100), (18, 110), (17, 105), (16, 109), (15, 32), (14, 32), (13, 32), (12, 115), (11, 100), (10, 108), (9, 111), (8, 104), (7, 32), (6, 32), (5, 32), (4, 115), (3, 110), (2, 97), (1, 101), (0, 108)], [])]
def hm_99 : List e_cl := [((21, 35), [], [(17, 88), (16, 87), (15, 86), (14, 85), (13, 84), (12, 83), (8, 82), (7, 81), (5, 80), (3, 79), (2, 78), (1, 77)]), ((0, 6), [], []), ((0, 6), [], []), ((0, 24), [], []), ((0, 160), [], []), ((0, 1200), [], []), ((0, 24), [], []), ((0, 24), [], []), ((0, 3), [], []), ((0, 4), [(3, -1), (2, -1), (1, -1), (0, -1)], []), ((0, 4), [], []), ((0, 160), [], []), ((0, 44), [(43, 59), (42, 32), (41, 101), (40, 100), (39, 105), (38, 115), (37, 101), (36, 98), (35, 32), (34, 115), (33, 100), (32, 110), (31, 105), (30, 109), (29, 32), (28, 59), (27, 32), (26, 48), (25, 54), (24, 32), (23, 115), (22, 100), (21, 108), (20, 111), (19, 104), (18, 32), (17, 59), (16, 32), (15, 115), (14, 115), (13, 111), (12, 114), (11, 99), (10, 97), (9, 32), (8, 45), (7, 32), (6, 53), (5, 32), (4, 115), (3, 110), (2, 97), (1, 101), (0, 108)], []), ((0, 96), [(24, 108), (23, 32), (22, 32), (21, 32), (20, 115), (19, 100), (18, 110), (17, 105), (16, 109), (15, 32), (14, 32), (13, 32), (12, 115), (11, 100), (10, 108), (9, 111), (8, 104), (7, 32), (6, 32), (5, 32), (4, 115), (3, 110), (2, 97), (1, 101), (0, 108)], [])]
def hm_100 : List e_cl := [((21, 35), [], [(17, 88), (16, 87), (15, 86), (14, 85), (13, 84), (12, 83), (8, 82), (7, 81), (5, 80), (3, 79), (2, 78), (1, 77)]), ((0, 6), [], []), ((0, 6), [], []), ((0, 24), [], []), ((0, 160), [], []), ((0, 1200), [], []), ((0, 24), [], []), ((0, 24), [], []), ((0, 3), [], []), ((0, 4), [(3, -1), (2, -1), (1, -1), (0, -1)], []), ((0, 4), [], []), ((0, 160), [], []), ((0, 44), [(43, 59), (42, 32), (41, 101), (40, 100), (39, 105), (38, 115), (37, 101), (36, 98), (35, 32), (34, 115), (33, 100), (32, 110), (31, 105), (30, 109), (29, 32), (28, 59), (27, 32), (26, 48), (25, 54), (24, 32), (23, 115), (22, 100), (21, 108), (20, 111), (19, 104), (18, 32), (17, 59), (16, 32), (15, 115), (14, 115), (13, 111), (12, 114), (11, 99), (10, 97), (9, 32), (8, 45), (7, 32), (6, 53), (5, 32), (4, 115), (3, 110), (2, 97), (1, 101), (0, 108)], []), ((0, 96), [(25, 101), (24, 108), (23, 32), (22, 32), (21, 32), (20, 115), (19, 100), (18, 110), (17, 105), (16, 109), (15, 32), (14, 32), (13, 32), (12, 115), (11, 100), (10, 108), (9, 111), (8, 104), (7, 32), (6, 32), (5, 32), (4, 115), (3, 110), (2, 97), (1, 101), (0, 108)], [])]
def hm_101 : List e_cl := [((21, 35), [], [(17, 88), (16, 87), (15, 86), (14, 85), (13, 84), (12, 83), (8, 82), (7, 81), (5, 80), (3, 79), (2, 78), (1, 77)]), ((0, 6), [], []), ((0, 6), [], []), ((0, 24), [], []), ((0, 160), [], []), ((0, 1200), [], []), ((0, 24), [], []), ((0, 24), [], []), ((0, 3), [], []), ((0, 4), [(3, -1), (2, -1), (1, -1), (0, -1)], []), ((0, 4), [], []), ((0, 160), [], []), ((0, 44), [(43, 59), (42, 32), (41, 101), (40, 100), (39, 105), (38, 115), (37, 101), (36, 98), (35, 32), (34, 115), (33, 100), (32, 110), (31, 105), (30, 109), (29, 32), (28, 59), (27, 32), (26, 48), (25, 54), (24, 32), (23, 115), (22, 100), (21, 108), (20, 111), (19, 104), (18, 32), (17, 59), (16, 32), (15, 115), (14, 115), (13, 111), (12, 114), (11, 99), (10, 97), (9, 32), (8, 45), (7, 32), (6, 53), (5, 32), (4, 115), (3, 110), (2, 97), (1, 101), (0, 108)], []), ((0, 96), [(26, 97), (25, 101), (24, 108), (23, 32), (22, 32), (21, 32), (20, 115), (19, 100), (18, 110), (17, 105), (16, 109), (15, 32), (14, 32), (13, 32), (12, 115), (11, 100), (10, 108), (9, 111), (8, 104), (7, 32), (6, 32), (5, 32), (4, 115), (3, 110), (2, 97), (1, 101), (0, 108)], [])]
def hm_102 : List e_cl := [((21, 35), [], [(17, 88), (16, 87), (15, 86), (14, 85), (13, 84), (12, 83), (8, 82), (7, 81), (5, 80), (3, 79), (2, 78), (1, 77)]), ((0, 6), [], []), ((0, 6), [], []), ((0, 24), [], []), ((0, 160), [], []), ((0, 1200), [], []), ((0, 24), [], []), ((0, 24), [], []), ((0, 3), [], []), ((0, 4), [(3, -1), (2, -1), (1, -1), (0, -1)], []), ((0, 4), [], []), ((0, 160), [], []), ((0, 44), [(43, 59), (42, 32), (41, 101), (40, 100), (39, 105), (38, 115), (37, 101), (36, 98), (35, 32), (34, 115), (33, 100), (32, 110), (31, 105), (30, 109), (29, 32), (28, 59), (27, 32), (26, 48), (25, 54), (24, 32), (23, 115), (22, 100), (21, 108), (20, 111), (19, 104), (18, 32), (17, 59), (16, 32), (15, 115), (14, 115), (13, 111), (12, 114), (11, 99), (10, 97), (9, 32), (8, 45), (7, 32), (6, 53), (5, 32), (4, 115), (3, 110), (2, 97), (1, 101), (0, 108)], []), ((0, 96), [(27, 110), (26, 97), (25, 101), (24, 108), (23, 32), (22, 32), (21, 32), (20, 115), (19, 100), (18, 110), (17, 105), (16, 109), (15, 32), (14, 32), (13, 32), (12, 115), (11, 100), (10, 108), (9, 111), (8, 104), (7, 32), (6, 32), (5, 32), (4, 115), (3, 110), (2, 97), (1, 101), (0, 108)], [])]
def hm_103 : List e_cl := [((21, 35), [], [(17, 88), (16, 87), (15, 86), (14, 85), (13, 84), (12, 83), (8, 82), (7, 81), (5, 80), (3, 79), (2, 78), (1, 77)]), ((0, 6), [], []), ((0, 6), [], []), ((0, 24), [], []), ((0, 160), [], []), ((0, 1200), [], []), ((0, 24), [], []), ((0, 24), [], []), ((0, 3), [], []), ((0, 4), [(3, -1), (2, -1), (1, -1), (0, -1)], []), ((0, 4), [], []), ((0, 160), [], []), ((0, 44), [(43, 59), (42, 32), (41, 101), (40, 100), (39, 105), (38, 115), (37, 101), (36, 98), (35, 32), (34, 115), (33, 100), (32, 110), (31, 105), (30, 109), (29, 32), (28, 59), (27, 32), (26, 48), (25, 54), (24, 32), (23, 115), (22, 100), (21, 108), (20, 111), (19, 104), (18, 32), (17, 59), (16, 32), (15, 115), (14, 115), (13, 111), (12, 114), (11, 99), (10, 97), (9, 32), (8, 45), (7, 32), (6, 53), (5, 32), (4, 115), (3, 110), (2, 97), (1, 101), (0, 108)], []), ((0, 96), [(28, 32), (27, 110), (26, 97), (25, 101), (24, 108), (23, 32), (22, 32), (21, 32), (20, 115), (19, 100), (18, 110), (17, 105), (16, 109), (15, 32), (14, 32), (13, 32), (12, 115), (11, 100), (10, 108), (9, 111), (8, 104), (7, 32), (6, 32), (5, 32), (4, 115), (3, 110), (2, 97), (1, 101), (0, 108)], [])]
def hm_104 : List e_cl := [((21, 35), [], [(17, 88), (16, 87), (15, 86), (14, 85), (13, 84), (12, 83), (8, 82), (7, 81), (5, 80), (3, 79), (2, 78), (1, 77)]), ((0, 6), [], []), ((0, 6), [], []), ((0, 24), [], []), ((0, 160), [], []), ((0, 1200), [], []), ((0, 24), [], []), ((0, 24), [], []), ((0, 3), [], []), ((0, 4), [(3, -1), (2, -1), (1, -1), (0, -1)], []), ((0, 4), [], []), ((0, 160), [], []), ((0, 44), [(43, 59), (42, 32), (41, 101), (40, 100), (39, 105), (38, 115), (37, 101), (36, 98), (35, 32), (34, 115), (33, 100), (32, 110), (31, 105), (30, 109), (29, 32), (28, 59), (27, 32), (26, 48), (25, 54), (24, 32), (23, 115), (22, 100), (21, 108), (20, 111), (19, 104), (18, 32), (17, 59), (16, 32), (15, 115), (14, 115), (13, 111), (12, 114), (11, 99), (10, 97), (9, 32), (8, 45), (7, 32), (6, 53), (5, 32), (4, 115), (3, 110), (2, 97), (1, 101), (0, 108)], []), ((0, 96), [(29, 32), (28, 32), (27, 110), (26, 97), (25, 101), (24, 108), (23, 32), (22, 32), (21, 32), (20, 115), (19, 100), (18, 110), (17, 105), (16, 109), (15, 32), (14, 32), (13, 32), (12, 115), (11, 100), (10, 108), (9, 111), (8, 104), (7, 32), (6, 32), (5, 32), (4, 115), (3, 110), (2, 97), (1, 101), (0, 108)], [])]
def hm_105 : List e_cl := [((21, 35), [], [(17, 88), (16, 87), (15, 86), (14, 85), (13, 84), (12, 83), (8, 82), (7, 81), (5, 80), (3, 79), (2, 78), (1, 77)]), ((0, 6), [], []), ((0, 6), [], []), ((0, 24), [], []), ((0, 160), [], []), ((0, 1200), [], []), ((0, 24), [], []), ((0, 24), [], []), ((0, 3), [], []), ((0, 4), [(3, -1), (2, -1), (1, -1), (0, -1)], []), ((0, 4), [], []), ((0, 160), [], []), ((0, 44), [(43, 59), (42, 32), (41, 101), (40, 100), (39, 105), (38, 115), (37, 101), (36, 98), (35, 32), (34, 115), (33, 100), (32, 110), (31, 105), (30, 109), (29, 32), (28, 59), (27, 32), (26, 48), (25, 54), (24, 32), (23, 115), (22, 100), (21, 108), (20, 111), (19, 104), (18, 32), (17, 59), (16, 32), (15, 115), (14, 115), (13, 111), (12, 114), (11, 99), (10, 97), (9, 32), (8, 45), (7, 32), (6, 53), (5, 32), (4, 115), (3, 110), (2, 97), (1, 101), (0, 108)], []), ((0, 96), [(30, 32), (29, 32), (28, 32), (27, 110), (26, 97), (25, 101), (24, 108), (23, 32), (22, 32), (21, 32), (20, 115), (19, 100), (18, 110), (17, 105), (16, 109), (15, 32), (14, 32), (13, 32), (12, 115), (11, 100), (10, 108), (9, 111), (8, 104), (7, 32), (6, 32), (5, 32), (4, 115), (3, 110), (2, 97), (1, 101), (0, 108)], [])]
def hm_106 : List e_cl := [((21, 35), [], [(17, 88), (16, 87), (15, 86), (14, 85), (13, 84), (12, 83), (8, 82), (7, 81), (5, 80), (3, 79), (2, 78), (1, 77)]), ((0, 6), [], []), ((0, 6), [], []), ((0, 24), [], []), ((0, 160), [], []), ((0, 1200), [], []), ((0, 24), [], []), ((0, 24), [], []), ((0, 3), [], []), ((0, 4), [(3, -1), (2, -1), (1, -1), (0, -1)], []), ((0, 4), [], []), ((0, 160), [], []), ((0, 44), [(43, 59), (42, 32), (41, 101), (40, 100), (39, 105), (38, 115), (37, 101), (36, 98), (35, 32), (34, 115), (33, 100), (32, 110), (31, 105), (30, 109), (29, 32), (28, 59), (27, 32), (26, 48), (25, 54), (24, 32), (23, 115), (22, 100), (21, 108), (20, 111), (19, 104), (18, 32), (17, 59), (16, 32), (15, 115), (14, 115), (13, 111), (12, 114), (11, 99), (10, 97), (9, 32), (8, 45), (7, 32), (6, 53), (5, 32), (4, 115), (3, 110), (2, 97), (1, 101), (0, 108)], []), ((0, 96), [(31, 32), (30, 32), (29, 32), (28, 32), (27, 110), (26, 97), (25, 101), (24, 108), (23, 32), (22, 32), (21, 32), (20, 115), (19, 100), (18, 110), (17, 105), (16, 109), (15, 32), (14, 32), (13, 32), (12, 115), (11, 100), (10, 108), (9, 111), (8, 104), (7, 32), (6, 32), (5, 32), (4, 115), (3, 110), (2, 97), (1, 101), (0, 108)], [])]
def hm_107 : List e_cl := [((21, 35), [], [(17, 88), (16, 87), (15, 86), (14, 85), (13, 84), (12, 83), (8, 82), (7, 81), (5, 80), (3, 79), (2, 78), (1, 77)]), ((0, 6), [], []), ((0, 6), [], []), ((0, 24), [], []), ((0, 160), [], []), ((0, 1200), [], []), ((0, 24), [], []), ((0, 24), [], []), ((0, 3), [], []), ((0, 4), [(3, -1), (2, -1), (1, -1), (0, -1)], []), ((0, 4), [], []), ((0, 160), [], []), ((0, 44), [(43, 59), (42, 32), (41, 101), (40, 100), (39, 105), (38, 115), (37, 101), (36, 98), (35, 32), (34, 115), (33, 100), (32, 110), (31, 105), (30, 109), (29, 32), (28, 59), (27, 32), (26, 48), (25, 54), (24, 32), (23, 115), (22, 100), (21, 108), (20, 111), (19, 104), (18, 32), (17, 59), (16, 32), (15, 115), (14, 115), (13, 111), (12, 114), (11, 99), (10, 97), (9, 32), (8, 45), (7, 32), (6, 53), (5, 32), (4, 115), (3, 110), (2, 97), (1, 101), (0, 108)], []), ((0, 96), [(32, 97), (31, 32), (30, 32), (29, 32), (28, 32), (27, 110), (26, 97), (25, 101), (24, 108), (23, 32), (22, 32), (21, 32), (20, 115), (19, 100), (18, 110), (17, 105), (16, 109), (15, 32), (14, 32), (13, 32), (12, 115), (11, 100), (10, 108), (9, 111), (8, 104), (7, 32), (6, 32), (5, 32), (4, 115), (3, 110), (2, 97), (1, 101), (0, 108)], [])]
def hm_108 : List e_cl := [((21, 35), [], [(17, 88), (16, 87), (15, 86), (14, 85), (13, 84), (12, 83), (8, 82), (7, 81), (5, 80), (3, 79), (2, 78), (1, 77)]), ((0, 6), [], []), ((0, 6), [], []), ((0, 24), [], []), ((0, 160), [], []), ((0, 1200), [], []), ((0, 24), [], []), ((0, 24), [], []), ((0, 3), [], []), ((0, 4), [(3, -1), (2, -1), (1, -1), (0, -1)], []), ((0, 4), [], []), ((0, 160), [], []), ((0, 44), [(43, 59), (42, 32), (41, 101), (40, 100), (39, 105), (38, 115), (37, 101), (36, 98), (35, 32), (34, 115), (33, 100), (32, 110), (31, 105), (30, 109), (29, 32), (28, 59), (27, 32), (26, 48), (25, 54), (24, 32), (23, 115), (22, 100), (21, 108), (20, 111), (19, 104), (18, 32), (17, 59), (16, 32), (15, 115), (14, 115), (13, 111), (12, 114), (11, 99), (10, 97), (9, 32), (8, 45), (7, 32), (6, 53), (5, 32), (4, 115), (3, 110), (2, 97), (1, 101), (0, 108)], []), ((0, 96), [(33, 99), (32, 97), (31, 32), (30, 32), (29, 32), (28, 32), (27, 110), (26, 97), (25, 101), (24, 108), (23, 32), (22, 32), (21, 32), (20, 115), (19, 100), (18, 110), (17, 105), (16, 109), (15, 32), (14, 32), (13, 32), (12, 115), (11, 100), (10, 108), (9, 111), (8, 104), (7, 32), (6, 32), (5, 32), (4, 115), (3, 110), (2, 97), (1, 101), (0, 108)], [])]
def hm_109 : List e_cl := [((21, 35), [], [(17, 88), (16, 87), (15, 86), (14, 85), (13, 84), (12, 83), (8, 82), (7, 81), (5, 80), (3, 79), (2, 78), (1, 77)]), ((0, 6), [], []), ((0, 6), [], []), ((0, 24), [], []), ((0, 160), [], []), ((0, 1200), [], []), ((0, 24), [], []), ((0, 24), [], []), ((0, 3), [], []), ((0, 4), [(3, -1), (2, -1), (1, -1), (0, -1)], []), ((0, 4), [], []), ((0, 160), [], []), ((0, 44), [(43, 59), (42, 32), (41, 101), (40, 100), (39, 105), (38, 115), (37, 101), (36, 98), (35, 32), (34, 115), (33, 100), (32, 110), (31, 105), (30, 109), (29, 32), (28, 59), (27, 32), (26, 48), (25, 54), (24, 32), (23, 115), (22, 100), (21, 108), (20, 111), (19, 104), (18, 32), (17, 59), (16, 32), (15, 115), (14, 115), (13, 111), (12, 114), (11, 99), (10, 97), (9, 32), (8, 45), (7, 32), (6, 53), (5, 32), (4, 115), (3, 110), (2, 97), (1, 101), (0, 108)], []), ((0, 96), [(34, 114), (33, 99), (32, 97), (31, 32), (30, 32), (29, 32), (28, 32), (27, 110), (26, 97), (25, 101), (24, 108), (23, 32), (22, 32), (21, 32), (20, 115), (19, 100), (18, 110), (17, 105), (16, 109), (15, 32), (14, 32), (13, 32), (12, 115), (11, 100), (10, 108), (9, 111), (8, 104), (7, 32), (6, 32), (5, 32), (4, 115), (3, 110), (2, 97), (1, 101), (0, 108)], [])]
def hm_110 : List e_cl := [((21, 35), [], [(17, 88), (16, 87), (15, 86), (14, 85), (13, 84), (12, 83), (8, 82), (7, 81), (5, 80), (3, 79), (2, 78), (1, 77)]), ((0, 6), [], []), ((0, 6), [], []), ((0, 24), [], []), ((0, 160), [], []), ((0, 1200), [], []), ((0, 24), [], []), ((0, 24), [], []), ((0, 3), [], []), ((0, 4), [(3, -1), (2, -1), (1, -1), (0, -1)], []), ((0, 4), [], []), ((0, 160), [], []), ((0, 44), [(43, 59), (42, 32), (41, 101), (40, 100), (39, 105), (38, 115), (37, 101), (36, 98), (35, 32), (34, 115), (33, 100), (32, 110), (31, 105), (30, 109), (29, 32), (28, 59), (27, 32), (26, 48), (25, 54), (24, 32), (23, 115), (22, 100), (21, 108), (20, 111), (19, 104), (18, 32), (17, 59), (16, 32), (15, 115), (14, 115), (13, 111), (12, 114), (11, 99), (10, 97), (9, 32), (8, 45), (7, 32), (6, 53), (5, 32), (4, 115), (3, 110), (2, 97), (1, 101), (0, 108)], []), ((0, 96), [(35, 111), (34, 114), (33, 99), (32, 97), (31, 32), (30, 32), (29, 32), (28, 32), (27, 110), (26, 97), (25, 101), (24, 108), (23, 32), (22, 32), (21, 32), (20, 115), (19, 100), (18, 110), (17, 105), (16, 109), (15, 32), (14, 32), (13, 32), (12, 115), (11, 100), (10, 108), (9, 111), (8, 104), (7, 32), (6, 32), (5, 32), (4, 115), (3, 110), (2, 97), (1, 101), (0, 108)], [])]
def hm_111 : List e_cl := [((21, 35), [], [(17, 88), (16, 87), (15, 86), (14, 85), (13, 84), (12, 83), (8, 82), (7, 81), (5, 80), (3, 79), (2, 78), (1, 77)]), ((0, 6), [], []), ((0, 6), [], []), ((0, 24), [], []), ((0, 160), [], []), ((0, 1200), [], []), ((0, 24), [], []), ((0, 24), [], []), ((0, 3), [], []), ((0, 4), [(3, -1), (2, -1), (1, -1), (0, -1)], []), ((0, 4), [], []), ((0, 160), [], []), ((0, 44), [(43, 59), (42, 32), (41, 101), (40, 100), (39, 105), (38, 115), (37, 101), (36, 98), (35, 32), (34, 115), (33, 100), (32, 110), (31, 105), (30, 109), (29, 32), (28, 59), (27, 32), (26, 48), (25, 54), (24, 32), (23, 115), (22, 100), (21, 108), (20, 111), (19, 104), (18, 32), (17, 59), (16, 32), (15, 115), (14, 115), (13, 111), (12, 114), (11, 99), (10, 97), (9, 32), (8, 45), (7, 32), (6, 53), (5, 32), (4, 115), (3, 110), (2, 97), (1, 101), (0, 108)], []), ((0, 96), [(36, 115), (35, 111), (34, 114), (33, 99), (32, 97), (31, 32), (30, 32), (29, 32), (28, 32), (27, 110), (26, 97), (25, 101), (24, 108), (23, 32), (22, 32), (21, 32), (20, 115), (19, 100), (18, 110), (17, 105), (16, 109), (15, 32), (14, 32), (13, 32), (12, 115), (11, 100), (10, 108), (9, 111), (8, 104), (7, 32), (6, 32), (5, 32), (4, 115), (3, 110), (2, 97), (1, 101), (0, 108)], [])]
def hm_112 : List e_cl := [((21, 35), [], [(17, 88), (16, 87), (15, 86), (14, 85), (13, 84), (12, 83), (8, 82), (7, 81), (5, 80), (3, 79), (2, 78), (1, 77)]), ((0, 6), [], []), ((0, 6), [], []), ((0, 24), [], []), ((0, 160), [], []), ((0, 1200), [], []), ((0, 24), [], []), ((0, 24), [], []), ((0, 3), [], []), ((0, 4), [(3, -1), (2, -1), (1, -1), (0, -1)], []), ((0, 4), [], []), ((0, 160), [], []), ((0, 44), [(43, 59), (42, 32), (41, 101), (40, 100), (39, 105), (38, 115), (37, 101), (36, 98), (35, 32), (34, 115), (33, 100), (32, 110), (31, 105), (30, 109), (29, 32), (28, 59), (27, 32), (26, 48), (25, 54), (24, 32), (23, 115), (22, 100), (21, 108), (20, 111), (19, 104), (18, 32), (17, 59), (16, 32), (15, 115), (14, 115), (13, 111), (12, 114), (11, 99), (10, 97), (9, 32), (8, 45), (7, 32), (6, 53), (5, 32), (4, 115), (3, 110), (2, 97), (1, 101), (0, 108)], []), ((0, 96), [(37, 115), (36, 115), (35, 111), (34, 114), (33, 99), (32, 97), (31, 32), (30, 32), (29, 32), (28, 32), (27, 110), (26, 97), (25, 101), (24, 108), (23, 32), (22, 32), (21, 32), (20, 115), (19, 100), (18, 110), (17, 105), (16, 109), (15, 32), (14, 32), (13, 32), (12, 115), (11, 100), (10, 108), (9, 111), (8, 104), (7, 32), (6, 32), (5, 32), (4, 115), (3, 110), (2, 97), (1, 101), (0, 108)], [])]
def hm_113 : List e_cl := [((21, 35), [], [(17, 88), (16, 87), (15, 86), (14, 85), (13, 84), (12, 83), (8, 82), (7, 81), (5, 80), (3, 79), (2, 78), (1, 77)]), ((0, 6), [], []), ((0, 6), [], []), ((0, 24), [], []), ((0, 160), [], []), ((0, 1200), [], []), ((0, 24), [], []), ((0, 24), [], []), ((0, 3), [], []), ((0, 4), [(3, -1), (2, -1), (1, -1), (0, -1)], []), ((0, 4), [], []), ((0, 160), [], []), ((0, 44), [(43, 59), (42, 32), (41, 101), (40, 100), (39, 105), (38, 115), (37, 101), (36, 98), (35, 32), (34, 115), (33, 100), (32, 110), (31, 105), (30, 109), (29, 32), (28, 59), (27, 32), (26, 48), (25, 54), (24, 32), (23, 115), (22, 100), (21, 108), (20, 111), (19, 104), (18, 32), (17, 59), (16, 32), (15, 115), (14, 115), (13, 111), (12, 114), (11, 99), (10, 97), (9, 32), (8, 45), (7, 32), (6, 53), (5, 32), (4, 115), (3, 110), (2, 97), (1, 101), (0, 108)], []), ((0, 96), [(38, 32), (37, 115), (36, 115), (35, 111), (34, 114), (33, 99), (32, 97), (31, 32), (30, 32), (29, 32), (28, 32), (27, 110), (26, 97), (25, 101), (24, 108), (23, 32), (22, 32), (21, 32), (20, 115), (19, 100), (18, 110), (17, 105), (16, 109), (15, 32), (14, 32), (13, 32), (12, 115), (11, 100), (10, 108), (9, 111), (8, 104), (7, 32), (6, 32), (5, 32), (4, 115), (3, 110), (2, 97), (1, 101), (0, 108)], [])]
def hm_114 : List e_cl := [((21, 35), [], [(17, 88), (16, 87), (15, 86), (14, 85), (13, 84), (12, 83), (8, 82), (7, 81), (5, 80), (3, 79), (2, 78), (1, 77)]), ((0, 6), [], []), ((0, 6), [], []), ((0, 24), [], []), ((0, 160), [], []), ((0, 1200), [], []), ((0, 24), [], []), ((0, 24), [], []), ((0, 3), [], []), ((0, 4), [(3, -1), (2, -1), (1, -1), (0, -1)], []), ((0, 4), [], []), ((0, 160), [], []), ((0, 44), [(43, 59), (42, 32), (41, 101), (40, 100), (39, 105), (38, 115), (37, 101), (36, 98), (35, 32), (34, 115), (33, 100), (32, 110), (31, 105), (30, 109), (29, 32), (28, 59), (27, 32), (26, 48), (25, 54), (24, 32), (23, 115), (22, 100), (21, 108), (20, 111), (19, 104), (18, 32), (17, 59), (16, 32), (15, 115), (14, 115), (13, 111), (12, 114), (11, 99), (10, 97), (9, 32), (8, 45), (7, 32), (6, 53), (5, 32), (4, 115), (3, 110), (2, 97), (1, 101), (0, 108)], []), ((0, 96), [(39, 32), (38, 32), (37, 115), (36, 115), (35, 111), (34, 114), (33, 99), (32, 97), (31, 32), (30, 32), (29, 32), (28, 32), (27, 110), (26, 97), (25, 101), (24, 108), (23, 32), (22, 32), (21, 32), (20, 115), (19, 100), (18, 110), (17, 105), (16, 109), (15, 32), (14, 32), (13, 32), (12, 115), (11, 100), (10, 108), (9, 111), (8, 104), (7, 32), (6, 32), (5, 32), (4, 115), (3, 110), (2, 97), (1, 101), (0, 108)], [])]
def hm_115 : List e_cl := [((21, 35), [], [(17, 88), (16, 87), (15, 86), (14, 85), (13, 84), (12, 83), (8, 82), (7, 81), (5, 80), (3, 79), (2, 78), (1, 77)]), ((0, 6), [], []), ((0, 6), [], []), ((0, 24), [], []), ((0, 160), [], []), ((0, 1200), [], []), ((0, 24), [], []), ((0, 24), [], []), ((0, 3), [], []), ((0, 4), [(3, -1), (2, -1), (1, -1), (0, -1)], []), ((0, 4), [], []), ((0, 160), [], []), ((0, 44), [(43, 59), (42, 32), (41, 101), (40, 100), (39, 105), (38, 115), (37, 101), (36, 98), (35, 32), (34, 115), (33, 100), (32, 110), (31, 105), (30, 109), (29, 32), (28, 59), (27, 32), (26, 48), (25, 54), (24, 32), (23, 115), (22, 100), (21, 108), (20, 111), (19, 104), (18, 32), (17, 59), (16, 32), (15, 115), (14, 115), (13, 111), (12, 114), (11, 99), (10, 97), (9, 32), (8, 45), (7, 32), (6, 53), (5, 32), (4, 115), (3, 110), (2, 97), (1, 101), (0, 108)], []), ((0, 96), [(40, 98), (39, 32), (38, 32), (37, 115), (36, 115), (35, 111), (34, 114), (33, 99), (32, 97), (31, 32), (30, 32), (29, 32), (28, 32), (27, 110), (26, 97), (25, 101), (24, 108), (23, 32), (22, 32), (21, 32), (20, 115), (19, 100), (18, 110), (17, 105), (16, 109), (15, 32), (14, 32), (13, 32), (12, 115), (11, 100), (10, 108), (9, 111), (8, 104), (7, 32), (6, 32), (5, 32), (4, 115), (3, 110), (2, 97), (1, 101), (0, 108)], [])]
def hm_116 : List e_cl := [((21, 35), [], [(17, 88), (16, 87), (15, 86), (14, 85), (13, 84), (12, 83), (8, 82), (7, 81), (5, 80), (3, 79), (2, 78), (1, 77)]), ((0, 6), [], []), ((0, 6), [], []), ((0, 24), [], []), ((0, 160), [], []), ((0, 1200), [], []), ((0, 24), [], []), ((0, 24), [], []), ((0, 3), [], []), ((0, 4), [(3, -1), (2, -1), (1, -1), (0, -1)], []), ((0, 4), [], []), ((0, 160), [], []), ((0, 44), [(43, 59), (42, 32), (41, 101), (40, 100), (39, 105), (38, 115), (37, 101), (36, 98), (35, 32), (34, 115), (33, 100), (32, 110), (31, 105), (30, 109), (29, 32), (28, 59), (27, 32), (26, 48), (25, 54), (24, 32), (23, 115), (22, 100), (21, 108), (20, 111), (19, 104), (18, 32), (17, 59), (16, 32), (15, 115), (14, 115), (13, 111), (12, 114), (11, 99), (10, 97), (9, 32), (8, 45), (7, 32), (6, 53), (5, 32), (4, 115), (3, 110), (2, 97), (1, 101), (0, 108)], []), ((0, 96), [(41, 101), (40, 98), (39, 32), (38, 32), (37, 115), (36, 115), (35, 111), (34, 114), (33, 99), (32, 97), (31, 32), (30, 32), (29, 32), (28, 32), (27, 110), (26, 97), (25, 101), (24, 108), (23, 32), (22, 32), (21, 32), (20, 115), (19, 100), (18, 110), (17, 105), (16, 109), (15, 32), (14, 32), (13, 32), (12, 115), (11, 100), (10, 108), (9, 111), (8, 104), (7, 32), (6, 32), (5, 32), (4, 115), (3, 110), (2, 97), (1, 101), (0, 108)], [])]
def hm_117 : List e_cl := [((21, 35), [], [(17, 88), (16, 87), (15, 86), (14, 85), (13, 84), (12, 83), (8, 82), (7, 81), (5, 80), (3, 79), (2, 78), (1, 77)]), ((0, 6), [], []), ((0, 6), [], []), ((0, 24), [], []), ((0, 160), [], []), ((0, 1200), [], []), ((0, 24), [], []), ((0, 24), [], []), ((0, 3), [], []), ((0, 4), [(3, -1), (2, -1), (1, -1), (0, -1)], []), ((0, 4), [], []), ((0, 160), [], []), ((0, 44), [(43, 59), (42, 32), (41, 101), (40, 100), (39, 105), (38, 115), (37, 101), (36, 98), (35, 32), (34, 115), (33, 100), (32, 110), (31, 105), (30, 109), (29, 32), (28, 59), (27, 32), (26, 48), (25, 54), (24, 32), (23, 115), (22, 100), (21, 108), (20, 111), (19, 104), (18, 32), (17, 59), (16, 32), (15, 115), (14, 115), (13, 111), (12, 114), (11, 99), (10, 97), (9, 32), (8, 45), (7, 32), (6, 53), (5, 32), (4, 115), (3, 110), (2, 97), (1, 101), (0, 108)], []), ((0, 96), [(42, 115), (41, 101), (40, 98), (39, 32), (38, 32), (37, 115), (36, 115), (35, 111), (34, 114), (33, 99), (32, 97), (31, 32), (30, 32), (29, 32), (28, 32), (27, 110), (26, 97), (25, 101), (24, 108), (23, 32), (22, 32), (21, 32), (20, 115), (19, 100), (18, 110), (17, 105), (16, 109), (15, 32), (14, 32), (13, 32), (12, 115), (11, 100), (10, 108), (9, 111), (8, 104), (7, 32), (6, 32), (5, 32), (4, 115), (3, 110), (2, 97), (1, 101), (0, 108)], [])]
def hm_118 : List e_cl := [((21, 35), [], [(17, 88), (16, 87), (15, 86), (14, 85), (13, 84), (12, 83), (8, 82), (7, 81), (5, 80), (3, 79), (2, 78), (1, 77)]), ((0, 6), [], []), ((0, 6), [], []), ((0, 24), [], []), ((0, 160), [], []), ((0, 1200), [], []), ((0, 24), [], []), ((0, 24), [], []), ((0, 3), [], []), ((0, 4), [(3, -1), (2, -1), (1, -1), (0, -1)], []), ((0, 4), [], []), ((0, 160), [], []), ((0, 44), [(43, 59), (42, 32), (41, 101), (40, 100), (39, 105), (38, 115), (37, 101), (36, 98), (35, 32), (34, 115), (33, 100), (32, 110), (31, 105), (30, 109), (29, 32), (28, 59), (27, 32), (26, 48), (25, 54), (24, 32), (23, 115), (22, 100), (21, 108), (20, 111), (19, 104), (18, 32), (17, 59), (16, 32), (15, 115), (14, 115), (13, 111), (12, 114), (11, 99), (10, 97), (9, 32), (8, 45), (7, 32), (6, 53), (5, 32), (4, 115), (3, 110), (2, 97), (1, 101), (0, 108)], []), ((0, 96), [(43, 105), (42, 115), (41, 101), (40, 98), (39, 32), (38, 32), (37, 115), (36, 115), (35, 111), (34, 114), (33, 99), (32, 97), (31, 32), (30, 32), (29, 32), (28, 32), (27, 110), (26, 97), (25, 101), (24, 108), (23, 32), (22, 32), (21, 32), (20, 115), (19, 100), (18, 110), (17, 105), (16, 109), (15, 32), (14, 32), (13, 32), (12, 115), (11, 100), (10, 108), (9, 111), (8, 104), (7, 32), (6, 32), (5, 32), (4, 115), (3, 110), (2, 97), (1, 101), (0, 108)], [])]
def hm_119 : List e_cl := [((21, 35), [], [(17, 88), (16, 87), (15, 86), (14, 85), (13, 84), (12, 83), (8, 82), (7, 81), (5, 80), (3, 79), (2, 78), (1, 77)]), ((0, 6), [], []), ((0, 6), [], []), ((0, 24), [], []), ((0, 160), [], []), ((0, 1200), [], []), ((0, 24), [], []), ((0, 24), [], []), ((0, 3), [], []), ((0, 4), [(3, -1), (2, -1), (1, -1), (0, -1)], []), ((0, 4), [], []), ((0, 160), [], []), ((0, 44), [(43, 59), (42, 32), (41, 101), (40, 100), (39, 105), (38, 115), (37, 101), (36, 98), (35, 32), (34, 115), (33, 100), (32, 110), (31, 105), (30, 109), (29, 32), (28, 59), (27, 32), (26, 48), (25, 54), (24, 32), (23, 115), (22, 100), (21, 108), (20, 111), (19, 104), (18, 32), (17, 59), (16, 32), (15, 115), (14, 115), (13, 111), (12, 114), (11, 99), (10, 97), (9, 32), (8, 45), (7, 32), (6, 53), (5, 32), (4, 115), (3, 110), (2, 97), (1, 101), (0, 108)], []), ((0, 96), [(44, 100), (43, 105), (42, 115), (41, 101), (40, 98), (39, 32), (38, 32), (37, 115), (36, 115), (35, 111), (34, 114), (33, 99), (32, 97), (31, 32), (30, 32), (29, 32), (28, 32), (27, 110), (26, 97), (25, 101), (24, 108), (23, 32), (22, 32), (21, 32), (20, 115), (19, 100), (18, 110), (17, 105), (16, 109), (15, 32), (14, 32), (13, 32), (12, 115), (11, 100), (10, 108), (9, 111), (8, 104), (7, 32), (6, 32), (5, 32), (4, 115), (3, 110), (2, 97), (1, 101), (0, 108)], [])]
def hm_120 : List e_cl := [((21, 35), [], [(17, 88), (16, 87), (15, 86), (14, 85), (13, 84), (12, 83), (8, 82), (7, 81), (5, 80), (3, 79), (2, 78), (1, 77)]), ((0, 6), [], []), ((0, 6), [], []), ((0, 24), [], []), ((0, 160), [], []), ((0, 1200), [], []), ((0, 24), [], []), ((0, 24), [], []), ((0, 3), [], []), ((0, 4), [(3, -1), (2, -1), (1, -1), (0, -1)], []), ((0, 4), [], []), ((0, 160), [], []), ((0, 44), [(43, 59), (42, 32), (41, 101), (40, 100), (39, 105), (38, 115), (37, 101), (36, 98), (35, 32), (34, 115), (33, 100), (32, 110), (31, 105), (30, 109), (29, 32), (28, 59), (27, 32), (26, 48), (25, 54), (24, 32), (23, 115), (22, 100), (21, 108), (20, 111), (19, 104), (18, 32), (17, 59), (16, 32), (15, 115), (14, 115), (13, 111), (12, 114), (11, 99), (10, 97), (9, 32), (8, 45), (7, 32), (6, 53), (5, 32), (4, 115), (3, 110), (2, 97), (1, 101), (0, 108)], []), ((0, 96), [(45, 101), (44, 100), (43, 105), (42, 115), (41, 101), (40, 98), (39, 32), (38, 32), (37, 115), (36, 115), (35, 111), (34, 114), (33, 99), (32, 97), (31, 32), (30, 32), (29, 32), (28, 32), (27, 110), (26, 97), (25, 101), (24, 108), (23, 32), (22, 32), (21, 32), (20, 115), (19, 100), (18, 110), (17, 105), (16, 109), (15, 32), (14, 32), (13, 32), (12, 115), (11, 100), (10, 108), (9, 111), (8, 104), (7, 32), (6, 32), (5, 32), (4, 115), (3, 110), (2, 97), (1, 101), (0, 108)], [])]
def hm_121 : List e_cl := [((21, 35), [], [(17, 88), (16, 87), (15, 86), (14, 85), (13, 84), (12, 83), (8, 82), (7, 81), (5, 80), (3, 79), (2, 78), (1, 77)]), ((0, 6), [], []), ((0, 6), [], []), ((0, 24), [], []), ((0, 160), [], []), ((0, 1200), [], []), ((0, 24), [], []), ((0, 24), [], []), ((0, 3), [], []), ((0, 4), [(3, -1), (2, -1), (1, -1), (0, -1)], []), ((0, 4), [], []), ((0, 160), [], []), ((0, 44), [(43, 59), (42, 32), (41, 101), (40, 100), (39, 105), (38, 115), (37, 101), (36, 98), (35, 32), (34, 115), (33, 100), (32, 110), (31, 105), (30, 109), (29, 32), (28, 59), (27, 32), (26, 48), (25, 54), (24, 32), (23, 115), (22, 100), (21, 108), (20, 111), (19, 104), (18, 32), (17, 59), (16, 32), (15, 115), (14, 115), (13, 111), (12, 114), (11, 99), (10, 97), (9, 32), (8, 45), (7, 32), (6, 53), (5, 32), (4, 115), (3, 110), (2, 97), (1, 101), (0, 108)], []), ((0, 96), [(46, 32), (45, 101), (44, 100), (43, 105), (42, 115), (41, 101), (40, 98), (39, 32), (38, 32), (37, 115), (36, 115), (35, 111), (34, 114), (33, 99), (32, 97), (31, 32), (30, 32), (29, 32), (28, 32), (27, 110), (26, 97), (25, 101), (24, 108), (23, 32), (22, 32), (21, 32), (20, 115), (19, 100), (18, 110), (17, 105), (16, 109), (15, 32), (14, 32), (13, 32), (12, 115), (11, 100), (10, 108), (9, 111), (8, 104), (7, 32), (6, 32), (5, 32), (4, 115), (3, 110), (2, 97), (1, 101), (0, 108)], [])]
def hm_122 : List e_cl := [((21, 35), [], [(17, 88), (16, 87), (15, 86), (14, 85), (13, 84), (12, 83), (8, 82), (7, 81), (5, 80), (3, 79), (2, 78), (1, 77)]), ((0, 6), [], []), ((0, 6), [], []), ((0, 24), [], []), ((0, 160), [], []), ((0, 1200), [], []), ((0, 24), [], []), ((0, 24), [], []), ((0, 3), [], []), ((0, 4), [(3, -1), (2, -1), (1, -1), (0, -1)], []), ((0, 4), [], []), ((0, 160), [], []), ((0, 44), [(43, 59), (42, 32), (41, 101), (40, 100), (39, 105), (38, 115), (37, 101), (36, 98), (35, 32), (34, 115), (33, 100), (32, 110), (31, 105), (30, 109), (29, 32), (28, 59), (27, 32), (26, 48), (25, 54), (24, 32), (23, 115), (22, 100), (21, 108), (20, 111), (19, 104), (18, 32), (17, 59), (16, 32), (15, 115), (14, 115), (13, 111), (12, 114), (11, 99), (10, 97), (9, 32), (8, 45), (7, 32), (6, 53), (5, 32), (4, 115), (3, 110), (2, 97), (1, 101), (0, 108)], []), ((0, 96), [(47, 32), (46, 32), (45, 101), (44, 100), (43, 105), (42, 115), (41, 101), (40, 98), (39, 32), (38, 32), (37, 115), (36, 115), (35, 111), (34, 114), (33, 99), (32, 97), (31, 32), (30, 32), (29, 32), (28, 32), (27, 110), (26, 97), (25, 101), (24, 108), (23, 32), (22, 32), (21, 32), (20, 115), (19, 100), (18, 110), (17, 105), (16, 109), (15, 32), (14, 32), (13, 32), (12, 115), (11, 100), (10, 108), (9, 111), (8, 104), (7, 32), (6, 32), (5, 32), (4, 115), (3, 110), (2, 97), (1, 101), (0, 108)], [])]
def hm_123 : List e_cl := [((21, 35), [], [(17, 88), (16, 87), (15, 86), (14, 85), (13, 84), (12, 83), (8, 82), (7, 81), (5, 80), (3, 79), (2, 78), (1, 77)]), ((0, 6), [], []), ((0, 6), [], []), ((0, 24), [], []), ((0, 160), [], []), ((0, 1200), [], []), ((0, 24), [], []), ((0, 24), [], []), ((0, 3), [], []), ((0, 4), [(3, -1), (2, -1), (1, -1), (0, -1)], []), ((0, 4), [], []), ((0, 160), [], []), ((0, 44), [(43, 59), (42, 32), (41, 101), (40, 100), (39, 105), (38, 115), (37, 101), (36, 98), (35, 32), (34, 115), (33, 100), (32, 110), (31, 105), (30, 109), (29, 32), (28, 59), (27, 32), (26, 48), (25, 54), (24, 32), (23, 115), (22, 100), (21, 108), (20, 111), (19, 104), (18, 32), (17, 59), (16, 32), (15, 115), (14, 115), (13, 111), (12, 114), (11, 99), (10, 97), (9, 32), (8, 45), (7, 32), (6, 53), (5, 32), (4, 115), (3, 110), (2, 97), (1, 101), (0, 108)], []), ((0, 96), [(48, 100), (47, 32), (46, 32), (45, 101), (44, 100), (43, 105), (42, 115), (41, 101), (40, 98), (39, 32), (38, 32), (37, 115), (36, 115), (35, 111), (34, 114), (33, 99), (32, 97), (31, 32), (30, 32), (29, 32), (28, 32), (27, 110), (26, 97), (25, 101), (24, 108), (23, 32), (22, 32), (21, 32), (20, 115), (19, 100), (18, 110), (17, 105), (16, 109), (15, 32), (14, 32), (13, 32), (12, 115), (11, 100), (10, 108), (9, 111), (8, 104), (7, 32), (6, 32), (5, 32), (4, 115), (3, 110), (2, 97), (1, 101), (0, 108)], [])]
def hm_124 : List e_cl := [((21, 35), [], [(17, 88), (16, 87), (15, 86), (14, 85), (13, 84), (12, 83), (8, 82), (7, 81), (5, 80), (3, 79), (2, 78), (1, 77)]), ((0, 6), [], []), ((0, 6), [], []), ((0, 24), [], []), ((0, 160), [], []), ((0, 1200), [], []), ((0, 24), [], []), ((0, 24), [], []), ((0, 3), [], []), ((0, 4), [(3, -1), (2, -1), (1, -1), (0, -1)], []), ((0, 4), [], []), ((0, 160), [], []), ((0, 44), [(43, 59), (42, 32), (41, 101), (40, 100), (39, 105), (38, 115), (37, 101), (36, 98), (35, 32), (34, 115), (33, 100), (32, 110), (31, 105), (30, 109), (29, 32), (28, 59), (27, 32), (26, 48), (25, 54), (24, 32), (23, 115), (22, 100), (21, 108), (20, 111), (19, 104), (18, 32), (17, 59), (16, 32), (15, 115), (14, 115), (13, 111), (12, 114), (11, 99), (10, 97), (9, 32), (8, 45), (7, 32), (6, 53), (5, 32), (4, 115), (3, 110), (2, 97), (1, 101), (0, 108)], []), ((0, 96), [(49, 97), (48, 100), (47, 32), (46, 32), (45, 101), (44, 100), (43, 105), (42, 115), (41, 101), (40, 98), (39, 32), (38, 32), (37, 115), (36, 115), (35, 111), (34, 114), (33, 99), (32, 97), (31, 32), (30, 32), (29, 32), (28, 32), (27, 110), (26, 97), (25, 101), (24, 108), (23, 32), (22, 32), (21, 32), (20, 115), (19, 100), (18, 110), (17, 105), (16, 109), (15, 32), (14, 32), (13, 32), (12, 115), (11, 100), (10, 108), (9, 111), (8, 104), (7, 32), (6, 32), (5, 32), (4, 115), (3, 110), (2, 97), (1, 101), (0, 108)], [])]
def hm_125 : List e_cl := [((21, 35), [], [(17, 88), (16, 87), (15, 86), (14, 85), (13, 84), (12, 83), (8, 82), (7, 81), (5, 80), (3, 79), (2, 78), (1, 77)]), ((0, 6), [], []), ((0, 6), [], []), ((0, 24), [], []), ((0, 160), [], []), ((0, 1200), [], []), ((0, 24), [], []), ((0, 24), [], []), ((0, 3), [], []), ((0, 4), [(3, -1), (2, -1), (1, -1), (0, -1)], []), ((0, 4), [], []), ((0, 160), [], []), ((0, 44), [(43, 59), (42, 32), (41, 101), (40, 100), (39, 105), (38, 115), (37, 101), (36, 98), (35, 32), (34, 115), (33, 100), (32, 110), (31, 105), (30, 109), (29, 32), (28, 59), (27, 32), (26, 48), (25, 54), (24, 32), (23, 115), (22, 100), (21, 108), (20, 111), (19, 104), (18, 32), (17, 59), (16, 32), (15, 115), (14, 115), (13, 111), (12, 114), (11, 99), (10, 97), (9, 32), (8, 45), (7, 32), (6, 53), (5, 32), (4, 115), (3, 110), (2, 97), (1, 101), (0, 108)], []), ((0, 96), [(50, 121), (49, 97), (48, 100), (47, 32), (46, 32), (45, 101), (44, 100), (43, 105), (42, 115), (41, 101), (40, 98), (39, 32), (38, 32), (37, 115), (36, 115), (35, 111), (34, 114), (33, 99), (32, 97), (31, 32), (30, 32), (29, 32), (28, 32), (27, 110), (26, 97), (25, 101), (24, 108), (23, 32), (22, 32), (21, 32), (20, 115), (19, 100), (18, 110), (17, 105), (16, 109), (15, 32), (14, 32), (13, 32), (12, 115), (11, 100), (10, 108), (9, 111), (8, 104), (7, 32), (6, 32), (5, 32), (4, 115), (3, 110), (2, 97), (1, 101), (0, 108)], [])]
def hm_126 : List e_cl := [((21, 35), [], [(17, 88), (16, 87), (15, 86), (14, 85), (13, 84), (12, 83), (8, 82), (7, 81), (5, 80), (3, 79), (2, 78), (1, 77)]), ((0, 6), [], []), ((0, 6), [], []), ((0, 24), [], []), ((0, 160), [], []), ((0, 1200), [], []), ((0, 24), [], []), ((0, 24), [], []), ((0, 3), [], []), ((0, 4), [(3, -1), (2, -1), (1, -1), (0, -1)], []), ((0, 4), [], []), ((0, 160), [], []), ((0, 44), [(43, 59), (42, 32), (41, 101), (40, 100), (39, 105), (38, 115), (37, 101), (36, 98), (35, 32), (34, 115), (33, 100), (32, 110), (31, 105), (30, 109), (29, 32), (28, 59), (27, 32), (26, 48), (25, 54), (24, 32), (23, 115), (22, 100), (21, 108), (20, 111), (19, 104), (18, 32), (17, 59), (16, 32), (15, 115), (14, 115), (13, 111), (12, 114), (11, 99), (10, 97), (9, 32), (8, 45), (7, 32), (6, 53), (5, 32), (4, 115), (3, 110), (2, 97), (1, 101), (0, 108)], []), ((0, 96), [(51, 32), (50, 121), (49, 97), (48, 100), (47, 32), (46, 32), (45, 101), (44, 100), (43, 105), (42, 115), (41, 101), (40, 98), (39, 32), (38, 32), (37, 115), (36, 115), (35, 111), (34, 114), (33, 99), (32, 97), (31, 32), (30, 32), (29, 32), (28, 32), (27, 110), (26, 97), (25, 101), (24, 108), (23, 32), (22, 32), (21, 32), (20, 115), (19, 100), (18, 110), (17, 105), (16, 109), (15, 32), (14, 32), (13, 32), (12, 115), (11, 100), (10, 108), (9, 111), (8, 104), (7, 32), (6, 32), (5, 32), (4, 115), (3, 110), (2, 97), (1, 101), (0, 108)], [])]
def hm_127 : List e_cl := [((21, 35), [], [(17, 88), (16, 87), (15, 86), (14, 85), (13, 84), (12, 83), (8, 82), (7, 81), (5, 80), (3, 79), (2, 78), (1, 77)]), ((0, 6), [], []), ((0, 6), [], []), ((0, 24), [], []), ((0, 160), [], []), ((0, 1200), [], []), ((0, 24), [], []), ((0, 24), [], []), ((0, 3), [], []), ((0, 4), [(3, -1), (2, -1), (1, -1), (0, -1)], []), ((0, 4), [], []), ((0, 160), [], []), ((0, 44), [(43, 59), (42, 32), (41, 101), (40, 100), (39, 105), (38, 115), (37, 101), (36, 98), (35, 32), (34, 115), (33, 100), (32, 110), (31, 105), (30, 109), (29, 32), (28, 59), (27, 32), (26, 48), (25, 54), (24, 32), (23, 115), (22, 100), (21, 108), (20, 111), (19, 104), (18, 32), (17, 59), (16, 32), (15, 115), (14, 115), (13, 111), (12, 114), (11, 99), (10, 97), (9, 32), (8, 45), (7, 32), (6, 53), (5, 32), (4, 115), (3, 110), (2, 97), (1, 101), (0, 108)], []), ((0, 96), [(52, 32), (51, 32), (50, 121), (49, 97), (48, 100), (47, 32), (46, 32), (45, 101), (44, 100), (43, 105), (42, 115), (41, 101), (40, 98), (39, 32), (38, 32), (37, 115), (36, 115), (35, 111), (34, 114), (33, 99), (32, 97), (31, 32), (30, 32), (29, 32), (28, 32), (27, 110), (26, 97), (25, 101), (24, 108), (23, 32), (22, 32), (21, 32), (20, 115), (19, 100), (18, 110), (17, 105), (16, 109), (15, 32), (14, 32), (13, 32), (12, 115), (11, 100), (10, 108), (9, 111), (8, 104), (7, 32), (6, 32), (5, 32), (4, 115), (3, 110), (2, 97), (1, 101), (0, 108)], [])]
def hm_128 : List e_cl := [((21, 35), [], [(17, 88), (16, 87), (15, 86), (14, 85), (13, 84), (12, 83), (8, 82), (7, 81), (5, 80), (3, 79), (2, 78), (1, 77)]), ((0, 6), [], []), ((0, 6), [], []), ((0, 24), [], []), ((0, 160), [], []), ((0, 1200), [], []), ((0, 24), [], []), ((0, 24), [], []), ((0, 3), [], []), ((0, 4), [(3, -1), (2, -1), (1, -1), (0, -1)], []), ((0, 4), [], []), ((0, 160), [], []), ((0, 44), [(43, 59), (42, 32), (41, 101), (40, 100), (39, 105), (38, 115), (37, 101), (36, 98), (35, 32), (34, 115), (33, 100), (32, 110), (31, 105), (30, 109), (29, 32), (28, 59), (27, 32), (26, 48), (25, 54), (24, 32), (23, 115), (22, 100), (21, 108), (20, 111), (19, 104), (18, 32), (17, 59), (16, 32), (15, 115), (14, 115), (13, 111), (12, 114), (11, 99), (10, 97), (9, 32), (8, 45), (7, 32), (6, 53), (5, 32), (4, 115), (3, 110), (2, 97), (1, 101), (0, 108)], []), ((0, 96), [(53, 32), (52, 32), (51, 32), (50, 121), (49, 97), (48, 100), (47, 32), (46, 32), (45, 101), (44, 100), (43, 105), (42, 115), (41, 101), (40, 98), (39, 32), (38, 32), (37, 115), (36, 115), (35, 111), (34, 114), (33, 99), (32, 97), (31, 32), (30, 32), (29, 32), (28, 32), (27, 110), (26, 97), (25, 101), (24, 108), (23, 32), (22, 32), (21, 32), (20, 115), (19, 100), (18, 110), (17, 105), (16, 109), (15, 32), (14, 32), (13, 32), (12, 115), (11, 100), (10, 108), (9, 111), (8, 104), (7, 32), (6, 32), (5, 32), (4, 115), (3, 110), (2, 97), (1, 101), (0, 108)], [])]
def hm_129 : List e_cl := [((21, 35), [], [(17, 88), (16, 87), (15, 86), (14, 85), (13, 84), (12, 83), (8, 82), (7, 81), (5, 80), (3, 79), (2, 78), (1, 77)]), ((0, 6), [], []), ((0, 6), [], []), ((0, 24), [], []), ((0, 160), [], []), ((0, 1200), [], []), ((0, 24), [], []), ((0, 24), [], []), ((0, 3), [], []), ((0, 4), [(3, -1), (2, -1), (1, -1), (0, -1)], []), ((0, 4), [], []), ((0, 160), [], []), ((0, 44), [(43, 59), (42, 32), (41, 101), (40, 100), (39, 105), (38, 115), (37, 101), (36, 98), (35, 32), (34, 115), (33, 100), (32, 110), (31, 105), (30, 109), (29, 32), (28, 59), (27, 32), (26, 48), (25, 54), (24, 32), (23, 115), (22, 100), (21, 108), (20, 111), (19, 104), (18, 32), (17, 59), (16, 32), (15, 115), (14, 115), (13, 111), (12, 114), (11, 99), (10, 97), (9, 32), (8, 45), (7, 32), (6, 53), (5, 32), (4, 115), (3, 110), (2, 97), (1, 101), (0, 108)], []), ((0, 96), [(54, 32), (53, 32), (52, 32), (51, 32), (50, 121), (49, 97), (48, 100), (47, 32), (46, 32), (45, 101), (44, 100), (43, 105), (42, 115), (41, 101), (40, 98), (39, 32), (38, 32), (37, 115), (36, 115), (35, 111), (34, 114), (33, 99), (32, 97), (31, 32), (30, 32), (29, 32), (28, 32), (27, 110), (26, 97), (25, 101), (24, 108), (23, 32), (22, 32), (21, 32), (20, 115), (19, 100), (18, 110), (17, 105), (16, 109), (15, 32), (14, 32), (13, 32), (12, 115), (11, 100), (10, 108), (9, 111), (8, 104), (7, 32), (6, 32), (5, 32), (4, 115), (3, 110), (2, 97), (1, 101), (0, 108)], [])]
def hm_130 : List e_cl := [((21, 35), [], [(17, 88), (16, 87), (15, 86), (14, 85), (13, 84), (12, 83), (8, 82), (7, 81), (5, 80), (3, 79), (2, 78), (1, 77)]), ((0, 6), [], []), ((0, 6), [], []), ((0, 24), [], []), ((0, 160), [], []), ((0, 1200), [], []), ((0, 24), [], []), ((0, 24), [], []), ((0, 3), [], []), ((0, 4), [(3, -1), (2, -1), (1, -1), (0, -1)], []), ((0, 4), [], []), ((0, 160), [], []), ((0, 44), [(43, 59), (42, 32), (41, 101), (40, 100), (39, 105), (38, 115), (37, 101), (36, 98), (35, 32), (34, 115), (33, 100), (32, 110), (31, 105), (30, 109), (29, 32), (28, 59), (27, 32), (26, 48), (25, 54), (24, 32), (23, 115), (22, 100), (21, 108), (20, 111), (19, 104), (18, 32), (17, 59), (16, 32), (15, 115), (14, 115), (13, 111), (12, 114), (11, 99), (10, 97), (9, 32), (8, 45), (7, 32), (6, 53), (5, 32), (4, 115), (3, 110), (2, 97), (1, 101), (0, 108)], []), ((0, 96), [(55, 32), (54, 32), (53, 32), (52, 32), (51, 32), (50, 121), (49, 97), (48, 100), (47, 32), (46, 32), (45, 101), (44, 100), (43, 105), (42, 115), (41, 101), (40, 98), (39, 32), (38, 32), (37, 115), (36, 115), (35, 111), (34, 114), (33, 99), (32, 97), (31, 32), (30, 32), (29, 32), (28, 32), (27, 110), (26, 97), (25, 101), (24, 108), (23, 32), (22, 32), (21, 32), (20, 115), (19, 100), (18, 110), (17, 105), (16, 109), (15, 32), (14, 32), (13, 32), (12, 115), (11, 100), (10, 108), (9, 111), (8, 104), (7, 32), (6, 32), (5, 32), (4, 115), (3, 110), (2, 97), (1, 101), (0, 108)], [])]
def hm_131 : List e_cl := [((21, 35), [], [(17, 88), (16, 87), (15, 86), (14, 85), (13, 84), (12, 83), (8, 82), (7, 81), (5, 80), (3, 79), (2, 78), (1, 77)]), ((0, 6), [], []), ((0, 6), [], []), ((0, 24), [], []), ((0, 160), [], []), ((0, 1200), [], []), ((0, 24), [], []), ((0, 24), [], []), ((0, 3), [], []), ((0, 4), [(3, -1), (2, -1), (1, -1), (0, -1)], []), ((0, 4), [], []), ((0, 160), [], []), ((0, 44), [(43, 59), (42, 32), (41, 101), (40, 100), (39, 105), (38, 115), (37, 101), (36, 98), (35, 32), (34, 115), (33, 100), (32, 110), (31, 105), (30, 109), (29, 32), (28, 59), (27, 32), (26, 48), (25, 54), (24, 32), (23, 115), (22, 100), (21, 108), (20, 111), (19, 104), (18, 32), (17, 59), (16, 32), (15, 115), (14, 115), (13, 111), (12, 114), (11, 99), (10, 97), (9, 32), (8, 45), (7, 32), (6, 53), (5, 32), (4, 115), (3, 110), (2, 97), (1, 101), (0, 108)], []), ((0, 96), [(56, 108), (55, 32), (54, 32), (53, 32), (52, 32), (51, 32), (50, 121), (49, 97), (48, 100), (47, 32), (46, 32), (45, 101), (44, 100), (43, 105), (42, 115), (41, 101), (40, 98), (39, 32), (38, 32), (37, 115), (36, 115), (35, 111), (34, 114), (33, 99), (32, 97), (31, 32), (30, 32), (29, 32), (28, 32), (27, 110), (26, 97), (25, 101), (24, 108), (23, 32), (22, 32), (21, 32), (20, 115), (19, 100), (18, 110), (17, 105), (16, 109), (15, 32), (14, 32), (13, 32), (12, 115), (11, 100), (10, 108), (9, 111), (8, 104), (7, 32), (6, 32), (5, 32), (4, 115), (3, 110), (2, 97), (1, 101), (0, 108)], [])]
def hm_132 : List e_cl := [((21, 35), [], [(17, 88), (16, 87), (15, 86), (14, 85), (13, 84), (12, 83), (8, 82), (7, 81), (5, 80), (3, 79), (2, 78), (1, 77)]), ((0, 6), [], []), ((0, 6), [], []), ((0, 24), [], []), ((0, 160), [], []), ((0, 1200), [], []), ((0, 24), [], []), ((0, 24), [], []), ((0, 3), [], []), ((0, 4), [(3, -1), (2, -1), (1, -1), (0, -1)], []), ((0, 4), [], []), ((0, 160), [], []), ((0, 44), [(43, 59), (42, 32), (41, 101), (40, 100), (39, 105), (38, 115), (37, 101), (36, 98), (35, 32), (34, 115), (33, 100), (32, 110), (31, 105), (30, 109), (29, 32), (28, 59), (27, 32), (26, 48), (25, 54), (24, 32), (23, 115), (22, 100), (21, 108), (20, 111), (19, 104), (18, 32), (17, 59), (16, 32), (15, 115), (14, 115), (13, 111), (12, 114), (11, 99), (10, 97), (9, 32), (8, 45), (7, 32), (6, 53), (5, 32), (4, 115), (3, 110), (2, 97), (1, 101), (0, 108)], []), ((0, 96), [(57, 111), (56, 108), (55, 32), (54, 32), (53, 32), (52, 32), (51, 32), (50, 121), (49, 97), (48, 100), (47, 32), (46, 32), (45, 101), (44, 100), (43, 105), (42, 115), (41, 101), (40, 98), (39, 32), (38, 32), (37, 115), (36, 115), (35, 111), (34, 114), (33, 99), (32, 97), (31, 32), (30, 32), (29, 32), (28, 32), (27, 110), (26, 97), (25, 101), (24, 108), (23, 32), (22, 32), (21, 32), (20, 115), (19, 100), (18, 110), (17, 105), (16, 109), (15, 32), (14, 32), (13, 32), (12, 115), (11, 100), (10, 108), (9, 111), (8, 104), (7, 32), (6, 32), (5, 32), (4, 115), (3, 110), (2, 97), (1, 101), (0, 108)], [])]
def hm_133 : List e_cl := [((21, 35), [], [(17, 88), (16, 87), (15, 86), (14, 85), (13, 84), (12, 83), (8, 82), (7, 81), (5, 80), (3, 79), (2, 78), (1, 77)]), ((0, 6), [], []), ((0, 6), [], []), ((0, 24), [], []), ((0, 160), [], []), ((0, 1200), [], []), ((0, 24), [], []), ((0, 24), [], []), ((0, 3), [], []), ((0, 4), [(3, -1), (2, -1), (1, -1), (0, -1)], []), ((0, 4), [], []), ((0, 160), [], []), ((0, 44), [(43, 59), (42, 32), (41, 101), (40, 100), (39, 105), (38, 115), (37, 101), (36, 98), (35, 32), (34, 115), (33, 100), (32, 110), (31, 105), (30, 109), (29, 32), (28, 59), (27, 32), (26, 48), (25, 54), (24, 32), (23, 115), (22, 100), (21, 108), (20, 111), (19, 104), (18, 32), (17, 59), (16, 32), (15, 115), (14, 115), (13, 111), (12, 114), (11, 99), (10, 97), (9, 32), (8, 45), (7, 32), (6, 53), (5, 32), (4, 115), (3, 110), (2, 97), (1, 101), (0, 108)], []), ((0, 96), [(58, 111), (57, 111), (56, 108), (55, 32), (54, 32), (53, 32), (52, 32), (51, 32), (50, 121), (49, 97), (48, 100), (47, 32), (46, 32), (45, 101), (44, 100), (43, 105), (42, 115), (41, 101), (40, 98), (39, 32), (38, 32), (37, 115), (36, 115), (35, 111), (34, 114), (33, 99), (32, 97), (31, 32), (30, 32), (29, 32), (28, 32), (27, 110), (26, 97), (25, 101), (24, 108), (23, 32), (22, 32), (21, 32), (20, 115), (19, 100), (18, 110), (17, 105), (16, 109), (15, 32), (14, 32), (13, 32), (12, 115), (11, 100), (10, 108), (9, 111), (8, 104), (7, 32), (6, 32), (5, 32), (4, 115), (3, 110), (2, 97), (1, 101), (0, 108)], [])]
def hm_134 : List e_cl := [((21, 35), [], [(17, 88), (16, 87), (15, 86), (14, 85), (13, 84), (12, 83), (8, 82), (7, 81), (5, 80), (3, 79), (2, 78), (1, 77)]), ((0, 6), [], []), ((0, 6), [], []), ((0, 24), [], []), ((0, 160), [], []), ((0, 1200), [], []), ((0, 24), [], []), ((0, 24), [], []), ((0, 3), [], []), ((0, 4), [(3, -1), (2, -1), (1, -1), (0, -1)], []), ((0, 4), [], []), ((0, 160), [], []), ((0, 44), [(43, 59), (42, 32), (41, 101), (40, 100), (39, 105), (38, 115), (37, 101), (36, 98), (35, 32), (34, 115), (33, 100), (32, 110), (31, 105), (30, 109), (29, 32), (28, 59), (27, 32), (26, 48), (25, 54), (24, 32), (23, 115), (22, 100), (21, 108), (20, 111), (19, 104), (18, 32), (17, 59), (16, 32), (15, 115), (14, 115), (13, 111), (12, 114), (11, 99), (10, 97), (9, 32), (8, 45), (7, 32), (6, 53), (5, 32), (4, 115), (3, 110), (2, 97), (1, 101), (0, 108)], []), ((0, 96), [(59, 107), (58, 111), (57, 111), (56, 108), (55, 32), (54, 32), (53, 32), (52, 32), (51, 32), (50, 121), (49, 97), (48, 100), (47, 32), (46, 32), (45, 101), (44, 100), (43, 105), (42, 115), (41, 101), (40, 98), (39, 32), (38, 32), (37, 115), (36, 115), (35, 111), (34, 114), (33, 99), (32, 97), (31, 32), (30, 32), (29, 32), (28, 32), (27, 110), (26, 97), (25, 101), (24, 108), (23, 32), (22, 32), (21, 32), (20, 115), (19, 100), (18, 110), (17, 105), (16, 109), (15, 32), (14, 32), (13, 32), (12, 115), (11, 100), (10, 108), (9, 111), (8, 104), (7, 32), (6, 32), (5, 32), (4, 115), (3, 110), (2, 97), (1, 101), (0, 108)], [])]
def hm_135 : List e_cl := [((21, 35), [], [(17, 88), (16, 87), (15, 86), (14, 85), (13, 84), (12, 83), (8, 82), (7, 81), (5, 80), (3, 79), (2, 78), (1, 77)]), ((0, 6), [], []), ((0, 6), [], []), ((0, 24), [], []), ((0, 160), [], []), ((0, 1200), [], []), ((0, 24), [], []), ((0, 24), [], []), ((0, 3), [], []), ((0, 4), [(3, -1), (2, -1), (1, -1), (0, -1)], []), ((0, 4), [], []), ((0, 160), [], []), ((0, 44), [(43, 59), (42, 32), (41, 101), (40, 100), (39, 105), (38, 115), (37, 101), (36, 98), (35, 32), (34, 115), (33, 100), (32, 110), (31, 105), (30, 109), (29, 32), (28, 59), (27, 32), (26, 48), (25, 54), (24, 32), (23, 115), (22, 100), (21, 108), (20, 111), (19, 104), (18, 32), (17, 59), (16, 32), (15, 115), (14, 115), (13, 111), (12, 114), (11, 99), (10, 97), (9, 32), (8, 45), (7, 32), (6, 53), (5, 32), (4, 115), (3, 110), (2, 97), (1, 101), (0, 108)], []), ((0, 96), [(60, 101), (59, 107), (58, 111), (57, 111), (56, 108), (55, 32), (54, 32), (53, 32), (52, 32), (51, 32), (50, 121), (49, 97), (48, 100), (47, 32), (46, 32), (45, 101), (44, 100), (43, 105), (42, 115), (41, 101), (40, 98), (39, 32), (38, 32), (37, 115), (36, 115), (35, 111), (34, 114), (33, 99), (32, 97), (31, 32), (30, 32), (29, 32), (28, 32), (27, 110), (26, 97), (25, 101), (24, 108), (23, 32), (22, 32), (21, 32), (20, 115), (19, 100), (18, 110), (17, 105), (16, 109), (15, 32), (14, 32), (13, 32), (12, 115), (11, 100), (10, 108), (9, 111), (8, 104), (7, 32), (6, 32), (5, 32), (4, 115), (3, 110), (2, 97), (1, 101), (0, 108)], [])]
def hm_136 : List e_cl := [((21, 35), [], [(17, 88), (16, 87), (15, 86), (14, 85), (13, 84), (12, 83), (8, 82), (7, 81), (5, 80), (3, 79), (2, 78), (1, 77)]), ((0, 6), [], []), ((0, 6), [], []), ((0, 24), [], []), ((0, 160), [], []), ((0, 1200), [], []), ((0, 24), [], []), ((0, 24), [], []), ((0, 3), [], []), ((0, 4), [(3, -1), (2, -1), (1, -1), (0, -1)], []), ((0, 4), [], []), ((0, 160), [], []), ((0, 44), [(43, 59), (42, 32), (41, 101), (40, 100), (39, 105), (38, 115), (37, 101), (36, 98), (35, 32), (34, 115), (33, 100), (32, 110), (31, 105), (30, 109), (29, 32), (28, 59), (27, 32), (26, 48), (25, 54), (24, 32), (23, 115), (22, 100), (21, 108), (20, 111), (19, 104), (18, 32), (17, 59), (16, 32), (15, 115), (14, 115), (13, 111), (12, 114), (11, 99), (10, 97), (9, 32), (8, 45), (7, 32), (6, 53), (5, 32), (4, 115), (3, 110), (2, 97), (1, 101), (0, 108)], []), ((0, 96), [(61, 114), (60, 101), (59, 107), (58, 111), (57, 111), (56, 108), (55, 32), (54, 32), (53, 32), (52, 32), (51, 32), (50, 121), (49, 97), (48, 100), (47, 32), (46, 32), (45, 101), (44, 100), (43, 105), (42, 115), (41, 101), (40, 98), (39, 32), (38, 32), (37, 115), (36, 115), (35, 111), (34, 114), (33, 99), (32, 97), (31, 32), (30, 32), (29, 32), (28, 32), (27, 110), (26, 97), (25, 101), (24, 108), (23, 32), (22, 32), (21, 32), (20, 115), (19, 100), (18, 110), (17, 105), (16, 109), (15, 32), (14, 32), (13, 32), (12, 115), (11, 100), (10, 108), (9, 111), (8, 104), (7, 32), (6, 32), (5, 32), (4, 115), (3, 110), (2, 97), (1, 101), (0, 108)], [])]
def hm_137 : List e_cl := [((21, 35), [], [(17, 88), (16, 87), (15, 86), (14, 85), (13, 84), (12, 83), (8, 82), (7, 81), (5, 80), (3, 79), (2, 78), (1, 77)]), ((0, 6), [], []), ((0, 6), [], []), ((0, 24), [], []), ((0, 160), [], []), ((0, 1200), [], []), ((0, 24), [], []), ((0, 24), [], []), ((0, 3), [], []), ((0, 4), [(3, -1), (2, -1), (1, -1), (0, -1)], []), ((0, 4), [], []), ((0, 160), [], []), ((0, 44), [(43, 59), (42, 32), (41, 101), (40, 100), (39, 105), (38, 115), (37, 101), (36, 98), (35, 32), (34, 115), (33, 100), (32, 110), (31, 105), (30, 109), (29, 32), (28, 59), (27, 32), (26, 48), (25, 54), (24, 32), (23, 115), (22, 100), (21, 108), (20, 111), (19, 104), (18, 32), (17, 59), (16, 32), (15, 115), (14, 115), (13, 111), (12, 114), (11, 99), (10, 97), (9, 32), (8, 45), (7, 32), (6, 53), (5, 32), (4, 115), (3, 110), (2, 97), (1, 101), (0, 108)], []), ((0, 96), [(62, 115), (61, 114), (60, 101), (59, 107), (58, 111), (57, 111), (56, 108), (55, 32), (54, 32), (53, 32), (52, 32), (51, 32), (50, 121), (49, 97), (48, 100), (47, 32), (46, 32), (45, 101), (44, 100), (43, 105), (42, 115), (41, 101), (40, 98), (39, 32), (38, 32), (37, 115), (36, 115), (35, 111), (34, 114), (33, 99), (32, 97), (31, 32), (30, 32), (29, 32), (28, 32), (27, 110), (26, 97), (25, 101), (24, 108), (23, 32), (22, 32), (21, 32), (20, 115), (19, 100), (18, 110), (17, 105), (16, 109), (15, 32), (14, 32), (13, 32), (12, 115), (11, 100), (10, 108), (9, 111), (8, 104), (7, 32), (6, 32), (5, 32), (4, 115), (3, 110), (2, 97), (1, 101), (0, 108)], [])]
def hm_138 : List e_cl := [((21, 35), [], [(17, 88), (16, 87), (15, 86), (14, 85), (13, 84), (12, 83), (8, 82), (7, 81), (5, 80), (3, 79), (2, 78), (1, 77)]), ((0, 6), [], []), ((0, 6), [], []), ((0, 24), [], []), ((0, 160), [], []), ((0, 1200), [], []), ((0, 24), [], []), ((0, 24), [], []), ((0, 3), [], []), ((0, 4), [(3, -1), (2, -1), (1, -1), (0, -1)], []), ((0, 4), [], []), ((0, 160), [], []), ((0, 44), [(43, 59), (42, 32), (41, 101), (40, 100), (39, 105), (38, 115), (37, 101), (36, 98), (35, 32), (34, 115), (33, 100), (32, 110), (31, 105), (30, 109), (29, 32), (28, 59), (27, 32), (26, 48), (25, 54), (24, 32), (23, 115), (22, 100), (21, 108), (20, 111), (19, 104), (18, 32), (17, 59), (16, 32), (15, 115), (14, 115), (13, 111), (12, 114), (11, 99), (10, 97), (9, 32), (8, 45), (7, 32), (6, 53), (5, 32), (4, 115), (3, 110), (2, 97), (1, 101), (0, 108)], []), ((0, 96), [(63, 32), (62, 115), (61, 114), (60, 101), (59, 107), (58, 111), (57, 111), (56, 108), (55, 32), (54, 32), (53, 32), (52, 32), (51, 32), (50, 121), (49, 97), (48, 100), (47, 32), (46, 32), (45, 101), (44, 100), (43, 105), (42, 115), (41, 101), (40, 98), (39, 32), (38, 32), (37, 115), (36, 115), (35, 111), (34, 114), (33, 99), (32, 97), (31, 32), (30, 32), (29, 32), (28, 32), (27, 110), (26, 97), (25, 101), (24, 108), (23, 32), (22, 32), (21, 32), (20, 115), (19, 100), (18, 110), (17, 105), (16, 109), (15, 32), (14, 32), (13, 32), (12, 115), (11, 100), (10, 108), (9, 111), (8, 104), (7, 32), (6, 32), (5, 32), (4, 115), (3, 110), (2, 97), (1, 101), (0, 108)], [])]
def hm_139 : List e_cl := [((21, 35), [], [(17, 88), (16, 87), (15, 86), (14, 85), (13, 84), (12, 83), (8, 82), (7, 81), (5, 80), (3, 79), (2, 78), (1, 77)]), ((0, 6), [], []), ((0, 6), [], []), ((0, 24), [], []), ((0, 160), [], []), ((0, 1200), [], []), ((0, 24), [], []), ((0, 24), [], []), ((0, 3), [], []), ((0, 4), [(3, -1), (2, -1), (1, -1), (0, -1)], []), ((0, 4), [], []), ((0, 160), [], []), ((0, 44), [(43, 59), (42, 32), (41, 101), (40, 100), (39, 105), (38, 115), (37, 101), (36, 98), (35, 32), (34, 115), (33, 100), (32, 110), (31, 105), (30, 109), (29, 32), (28, 59), (27, 32), (26, 48), (25, 54), (24, 32), (23, 115), (22, 100), (21, 108), (20, 111), (19, 104), (18, 32), (17, 59), (16, 32), (15, 115), (14, 115), (13, 111), (12, 114), (11, 99), (10, 97), (9, 32), (8, 45), (7, 32), (6, 53), (5, 32), (4, 115), (3, 110), (2, 97), (1, 101), (0, 108)], []), ((0, 96), [(64, 109), (63, 32), (62, 115), (61, 114), (60, 101), (59, 107), (58, 111), (57, 111), (56, 108), (55, 32), (54, 32), (53, 32), (52, 32), (51, 32), (50, 121), (49, 97), (48, 100), (47, 32), (46, 32), (45, 101), (44, 100), (43, 105), (42, 115), (41, 101), (40, 98), (39, 32), (38, 32), (37, 115), (36, 115), (35, 111), (34, 114), (33, 99), (32, 97), (31, 32), (30, 32), (29, 32), (28, 32), (27, 110), (26, 97), (25, 101), (24, 108), (23, 32), (22, 32), (21, 32), (20, 115), (19, 100), (18, 110), (17, 105), (16, 109), (15, 32), (14, 32), (13, 32), (12, 115), (11, 100), (10, 108), (9, 111), (8, 104), (7, 32), (6, 32), (5, 32), (4, 115), (3, 110), (2, 97), (1, 101), (0, 108)], [])]
def hm_140 : List e_cl := [((21, 35), [], [(17, 88), (16, 87), (15, 86), (14, 85), (13, 84), (12, 83), (8, 82), (7, 81), (5, 80), (3, 79), (2, 78), (1, 77)]), ((0, 6), [], []), ((0, 6), [], []), ((0, 24), [], []), ((0, 160), [], []), ((0, 1200), [], []), ((0, 24), [], []), ((0, 24), [], []), ((0, 3), [], []), ((0, 4), [(3, -1), (2, -1), (1, -1), (0, -1)], []), ((0, 4), [], []), ((0, 160), [], []), ((0, 44), [(43, 59), (42, 32), (41, 101), (40, 100), (39, 105), (38, 115), (37, 101), (36, 98), (35, 32), (34, 115), (33, 100), (32, 110), (31, 105), (30, 109), (29, 32), (28, 59), (27, 32), (26, 48), (25, 54), (24, 32), (23, 115), (22, 100), (21, 108), (20, 111), (19, 104), (18, 32), (17, 59), (16, 32), (15, 115), (14, 115), (13, 111), (12, 114), (11, 99), (10, 97), (9, 32), (8, 45), (7, 32), (6, 53), (5, 32), (4, 115), (3, 110), (2, 97), (1, 101), (0, 108)], []), ((0, 96), [(65, 111), (64, 109), (63, 32), (62, 115), (61, 114), (60, 101), (59, 107), (58, 111), (57, 111), (56, 108), (55, 32), (54, 32), (53, 32), (52, 32), (51, 32), (50, 121), (49, 97), (48, 100), (47, 32), (46, 32), (45, 101), (44, 100), (43, 105), (42, 115), (41, 101), (40, 98), (39, 32), (38, 32), (37, 115), (36, 115), (35, 111), (34, 114), (33, 99), (32, 97), (31, 32), (30, 32), (29, 32), (28, 32), (27, 110), (26, 97), (25, 101), (24, 108), (23, 32), (22, 32), (21, 32), (20, 115), (19, 100), (18, 110), (17, 105), (16, 109), (15, 32), (14, 32), (13, 32), (12, 115), (11, 100), (10, 108), (9, 111), (8, 104), (7, 32), (6, 32), (5, 32), (4, 115), (3, 110), (2, 97), (1, 101), (0, 108)], [])]
def hm_141 : List e_cl := [((21, 35), [], [(17, 88), (16, 87), (15, 86), (14, 85), (13, 84), (12, 83), (8, 82), (7, 81), (5, 80), (3, 79), (2, 78), (1, 77)]), ((0, 6), [], []), ((0, 6), [], []), ((0, 24), [], []), ((0, 160), [], []), ((0, 1200), [], []), ((0, 24), [], []), ((0, 24), [], []), ((0, 3), [], []), ((0, 4), [(3, -1), (2, -1), (1, -1), (0, -1)], []), ((0, 4), [], []), ((0, 160), [], []), ((0, 44), [(43, 59), (42, 32), (41, 101), (40, 100), (39, 105), (38, 115), (37, 101), (36, 98), (35, 32), (34, 115), (33, 100), (32, 110), (31, 105), (30, 109), (29, 32), (28, 59), (27, 32), (26, 48), (25, 54), (24, 32), (23, 115), (22, 100), (21, 108), (20, 111), (19, 104), (18, 32), (17, 59), (16, 32), (15, 115), (14, 115), (13, 111), (12, 114), (11, 99), (10, 97), (9, 32), (8, 45), (7, 32), (6, 53), (5, 32), (4, 115), (3, 110), (2, 97), (1, 101), (0, 108)], []), ((0, 96), [(66, 114), (65, 111), (64, 109), (63, 32), (62, 115), (61, 114), (60, 101), (59, 107), (58, 111), (57, 111), (56, 108), (55, 32), (54, 32), (53, 32), (52, 32), (51, 32), (50, 121), (49, 97), (48, 100), (47, 32), (46, 32), (45, 101), (44, 100), (43, 105), (42, 115), (41, 101), (40, 98), (39, 32), (38, 32), (37, 115), (36, 115), (35, 111), (34, 114), (33, 99), (32, 97), (31, 32), (30, 32), (29, 32), (28, 32), (27, 110), (26, 97), (25, 101), (24, 108), (23, 32), (22, 32), (21, 32), (20, 115), (19, 100), (18, 110), (17, 105), (16, 109), (15, 32), (14, 32), (13, 32), (12, 115), (11, 100), (10, 108), (9, 111), (8, 104), (7, 32), (6, 32), (5, 32), (4, 115), (3, 110), (2, 97), (1, 101), (0, 108)], [])]
def hm_142 : List e_cl := [((21, 35), [], [(17, 88), (16, 87), (15, 86), (14, 85), (13, 84), (12, 83), (8, 82), (7, 81), (5, 80), (3, 79), (2, 78), (1, 77)]), ((0, 6), [], []), ((0, 6), [], []), ((0, 24), [], []), ((0, 160), [], []), ((0, 1200), [], []), ((0, 24), [], []), ((0, 24), [], []), ((0, 3), [], []), ((0, 4), [(3, -1), (2, -1), (1, -1), (0, -1)], []), ((0, 4), [], []), ((0, 160), [], []), ((0, 44), [(43, 59), (42, 32), (41, 101), (40, 100), (39, 105), (38, 115), (37, 101), (36, 98), (35, 32), (34, 115), (33, 100), (32, 110), (31, 105), (30, 109), (29, 32), (28, 59), (27, 32), (26, 48), (25, 54), (24, 32), (23, 115), (22, 100), (21, 108), (20, 111), (19, 104), (18, 32), (17, 59), (16, 32), (15, 115), (14, 115), (13, 111), (12, 114), (11, 99), (10, 97), (9, 32), (8, 45), (7, 32), (6, 53), (5, 32), (4, 115), (3, 110), (2, 97), (1, 101), (0, 108)], []), ((0, 96), [(67, 101), (66, 114), (65, 111), (64, 109), (63, 32), (62, 115), (61, 114), (60, 101), (59, 107), (58, 111), (57, 111), (56, 108), (55, 32), (54, 32), (53, 32), (52, 32), (51, 32), (50, 121), (49, 97), (48, 100), (47, 32), (46, 32), (45, 101), (44, 100), (43, 105), (42, 115), (41, 101), (40, 98), (39, 32), (38, 32), (37, 115), (36, 115), (35, 111), (34, 114), (33, 99), (32, 97), (31, 32), (30, 32), (29, 32), (28, 32), (27, 110), (26, 97), (25, 101), (24, 108), (23, 32), (22, 32), (21, 32), (20, 115), (19, 100), (18, 110), (17, 105), (16, 109), (15, 32), (14, 32), (13, 32), (12, 115), (11, 100), (10, 108), (9, 111), (8, 104), (7, 32), (6, 32), (5, 32), (4, 115), (3, 110), (2, 97), (1, 101), (0, 108)], [])]
def hm_143 : List e_cl := [((21, 35), [], [(17, 88), (16, 87), (15, 86), (14, 85), (13, 84), (12, 83), (8, 82), (7, 81), (5, 80), (3, 79), (2, 78), (1, 77)]), ((0, 6), [], []), ((0, 6), [], []), ((0, 24), [], []), ((0, 160), [], []), ((0, 1200), [], []), ((0, 24), [], []), ((0, 24), [], []), ((0, 3), [], []), ((0, 4), [(3, -1), (2, -1), (1, -1), (0, -1)], []), ((0, 4), [], []), ((0, 160), [], []), ((0, 44), [(43, 59), (42, 32), (41, 101), (40, 100), (39, 105), (38, 115), (37, 101), (36, 98), (35, 32), (34, 115), (33, 100), (32, 110), (31, 105), (30, 109), (29, 32), (28, 59), (27, 32), (26, 48), (25, 54), (24, 32), (23, 115), (22, 100), (21, 108), (20, 111), (19, 104), (18, 32), (17, 59), (16, 32), (15, 115), (14, 115), (13, 111), (12, 114), (11, 99), (10, 97), (9, 32), (8, 45), (7, 32), (6, 53), (5, 32), (4, 115), (3, 110), (2, 97), (1, 101), (0, 108)], []), ((0, 96), [(68, 32), (67, 101), (66, 114), (65, 111), (64, 109), (63, 32), (62, 115), (61, 114), (60, 101), (59, 107), (58, 111), (57, 111), (56, 108), (55, 32), (54, 32), (53, 32), (52, 32), (51, 32), (50, 121), (49, 97), (48, 100), (47, 32), (46, 32), (45, 101), (44, 100), (43, 105), (42, 115), (41, 101), (40, 98), (39, 32), (38, 32), (37, 115), (36, 115), (35, 111), (34, 114), (33, 99), (32, 97), (31, 32), (30, 32), (29, 32), (28, 32), (27, 110), (26, 97), (25, 101), (24, 108), (23, 32), (22, 32), (21, 32), (20, 115), (19, 100), (18, 110), (17, 105), (16, 109), (15, 32), (14, 32), (13, 32), (12, 115), (11, 100), (10, 108), (9, 111), (8, 104), (7, 32), (6, 32), (5, 32), (4, 115), (3, 110), (2, 97), (1, 101), (0, 108)], [])]
def hm_144 : List e_cl := [((21, 35), [], [(17, 88), (16, 87), (15, 86), (14, 85), (13, 84), (12, 83), (8, 82), (7, 81), (5, 80), (3, 79), (2, 78), (1, 77)]), ((0, 6), [], []), ((0, 6), [], []), ((0, 24), [], []), ((0, 160), [], []), ((0, 1200), [], []), ((0, 24), [], []), ((0, 24), [], []), ((0, 3), [], []), ((0, 4), [(3, -1), (2, -1), (1, -1), (0, -1)], []), ((0, 4), [], []), ((0, 160), [], []), ((0, 44), [(43, 59), (42, 32), (41, 101), (40, 100), (39, 105), (38, 115), (37, 101), (36, 98), (35, 32), (34, 115), (33, 100), (32, 110), (31, 105), (30, 109), (29, 32), (28, 59), (27, 32), (26, 48), (25, 54), (24, 32), (23, 115), (22, 100), (21, 108), (20, 111), (19, 104), (18, 32), (17, 59), (16, 32), (15, 115), (14, 115), (13, 111), (12, 114), (11, 99), (10, 97), (9, 32), (8, 45), (7, 32), (6, 53), (5, 32), (4, 115), (3, 110), (2, 97), (1, 101), (0, 108)], []), ((0, 96), [(69, 32), (68, 32), (67, 101), (66, 114), (65, 111), (64, 109), (63, 32), (62, 115), (61, 114), (60, 101), (59, 107), (58, 111), (57, 111), (56, 108), (55, 32), (54, 32), (53, 32), (52, 32), (51, 32), (50, 121), (49, 97), (48, 100), (47, 32), (46, 32), (45, 101), (44, 100), (43, 105), (42, 115), (41, 101), (40, 98), (39, 32), (38, 32), (37, 115), (36, 115), (35, 111), (34, 114), (33, 99), (32, 97), (31, 32), (30, 32), (29, 32), (28, 32), (27, 110), (26, 97), (25, 101), (24, 108), (23, 32), (22, 32), (21, 32), (20, 115), (19, 100), (18, 110), (17, 105), (16, 109), (15, 32), (14, 32), (13, 32), (12, 115), (11, 100), (10, 108), (9, 111), (8, 104), (7, 32), (6, 32), (5, 32), (4, 115), (3, 110), (2, 97), (1, 101), (0, 108)], [])]
def hm_145 : List e_cl := [((21, 35), [], [(17, 88), (16, 87), (15, 86), (14, 85), (13, 84), (12, 83), (8, 82), (7, 81), (5, 80), (3, 79), (2, 78), (1, 77)]), ((0, 6), [], []), ((0, 6), [], []), ((0, 24), [], []), ((0, 160), [], []), ((0, 1200), [], []), ((0, 24), [], []), ((0, 24), [], []), ((0, 3), [], []), ((0, 4), [(3, -1), (2, -1), (1, -1), (0, -1)], []), ((0, 4), [], []), ((0, 160), [], []), ((0, 44), [(43, 59), (42, 32), (41, 101), (40, 100), (39, 105), (38, 115), (37, 101), (36, 98), (35, 32), (34, 115), (33, 100), (32, 110), (31, 105), (30, 109), (29, 32), (28, 59), (27, 32), (26, 48), (25, 54), (24, 32), (23, 115), (22, 100), (21, 108), (20, 111), (19, 104), (18, 32), (17, 59), (16, 32), (15, 115), (14, 115), (13, 111), (12, 114), (11, 99), (10, 97), (9, 32), (8, 45), (7, 32), (6, 53), (5, 32), (4, 115), (3, 110), (2, 97), (1, 101), (0, 108)], []), ((0, 96), [(70, 32), (69, 32), (68, 32), (67, 101), (66, 114), (65, 111), (64, 109), (63, 32), (62, 115), (61, 114), (60, 101), (59, 107), (58, 111), (57, 111), (56, 108), (55, 32), (54, 32), (53, 32), (52, 32), (51, 32), (50, 121), (49, 97), (48, 100), (47, 32), (46, 32), (45, 101), (44, 100), (43, 105), (42, 115), (41, 101), (40, 98), (39, 32), (38, 32), (37, 115), (36, 115), (35, 111), (34, 114), (33, 99), (32, 97), (31, 32), (30, 32), (29, 32), (28, 32), (27, 110), (26, 97), (25, 101), (24, 108), (23, 32), (22, 32), (21, 32), (20, 115), (19, 100), (18, 110), (17, 105), (16, 109), (15, 32), (14, 32), (13, 32), (12, 115), (11, 100), (10, 108), (9, 111), (8, 104), (7, 32), (6, 32), (5, 32), (4, 115), (3, 110), (2, 97), (1, 101), (0, 108)], [])]
def hm_146 : List e_cl := [((21, 35), [], [(17, 88), (16, 87), (15, 86), (14, 85), (13, 84), (12, 83), (8, 82), (7, 81), (5, 80), (3, 79), (2, 78), (1, 77)]), ((0, 6), [], []), ((0, 6), [], []), ((0, 24), [], []), ((0, 160), [], []), ((0, 1200), [], []), ((0, 24), [], []), ((0, 24), [], []), ((0, 3), [], []), ((0, 4), [(3, -1), (2, -1), (1, -1), (0, -1)], []), ((0, 4), [], []), ((0, 160), [], []), ((0, 44), [(43, 59), (42, 32), (41, 101), (40, 100), (39, 105), (38, 115), (37, 101), (36, 98), (35, 32), (34, 115), (33, 100), (32, 110), (31, 105), (30, 109), (29, 32), (28, 59), (27, 32), (26, 48), (25, 54), (24, 32), (23, 115), (22, 100), (21, 108), (20, 111), (19, 104), (18, 32), (17, 59), (16, 32), (15, 115), (14, 115), (13, 111), (12, 114), (11, 99), (10, 97), (9, 32), (8, 45), (7, 32), (6, 53), (5, 32), (4, 115), (3, 110), (2, 97), (1, 101), (0, 108)], []), ((0, 96), [(71, 32), (70, 32), (69, 32), (68, 32), (67, 101), (66, 114), (65, 111), (64, 109), (63, 32), (62, 115), (61, 114), (60, 101), (59, 107), (58, 111), (57, 111), (56, 108), (55, 32), (54, 32), (53, 32), (52, 32), (51, 32), (50, 121), (49, 97), (48, 100), (47, 32), (46, 32), (45, 101), (44, 100), (43, 105), (42, 115), (41, 101), (40, 98), (39, 32), (38, 32), (37, 115), (36, 115), (35, 111), (34, 114), (33, 99), (32, 97), (31, 32), (30, 32), (29, 32), (28, 32), (27, 110), (26, 97), (25, 101), (24, 108), (23, 32), (22, 32), (21, 32), (20, 115), (19, 100), (18, 110), (17, 105), (16, 109), (15, 32), (14, 32), (13, 32), (12, 115), (11, 100), (10, 108), (9, 111), (8, 104), (7, 32), (6, 32), (5, 32), (4, 115), (3, 110), (2, 97), (1, 101), (0, 108)], [])]
def hm_147 : List e_cl := [((21, 35), [], [(17, 88), (16, 87), (15, 86), (14, 85), (13, 84), (12, 83), (8, 82), (7, 81), (5, 80), (3, 79), (2, 78), (1, 77)]), ((0, 6), [], []), ((0, 6), [], []), ((0, 24), [], []), ((0, 160), [], []), ((0, 1200), [], []), ((0, 24), [], []), ((0, 24), [], []), ((0, 3), [], []), ((0, 4), [(3, -1), (2, -1), (1, -1), (0, -1)], []), ((0, 4), [], []), ((0, 160), [], []), ((0, 44), [(43, 59), (42, 32), (41, 101), (40, 100), (39, 105), (38, 115), (37, 101), (36, 98), (35, 32), (34, 115), (33, 100), (32, 110), (31, 105), (30, 109), (29, 32), (28, 59), (27, 32), (26, 48), (25, 54), (24, 32), (23, 115), (22, 100), (21, 108), (20, 111), (19, 104), (18, 32), (17, 59), (16, 32), (15, 115), (14, 115), (13, 111), (12, 114), (11, 99), (10, 97), (9, 32), (8, 45), (7, 32), (6, 53), (5, 32), (4, 115), (3, 110), (2, 97), (1, 101), (0, 108)], []), ((0, 96), [(72, 111), (71, 32), (70, 32), (69, 32), (68, 32), (67, 101), (66, 114), (65, 111), (64, 109), (63, 32), (62, 115), (61, 114), (60, 101), (59, 107), (58, 111), (57, 111), (56, 108), (55, 32), (54, 32), (53, 32), (52, 32), (51, 32), (50, 121), (49, 97), (48, 100), (47, 32), (46, 32), (45, 101), (44, 100), (43, 105), (42, 115), (41, 101), (40, 98), (39, 32), (38, 32), (37, 115), (36, 115), (35, 111), (34, 114), (33, 99), (32, 97), (31, 32), (30, 32), (29, 32), (28, 32), (27, 110), (26, 97), (25, 101), (24, 108), (23, 32), (22, 32), (21, 32), (20, 115), (19, 100), (18, 110), (17, 105), (16, 109), (15, 32), (14, 32), (13, 32), (12, 115), (11, 100), (10, 108), (9, 111), (8, 104), (7, 32), (6, 32), (5, 32), (4, 115), (3, 110), (2, 97), (1, 101), (0, 108)], [])]
def hm_148 : List e_cl := [((21, 35), [], [(17, 88), (16, 87), (15, 86), (14, 85), (13, 84), (12, 83), (8, 82), (7, 81), (5, 80), (3, 79), (2, 78), (1, 77)]), ((0, 6), [], []), ((0, 6), [], []), ((0, 24), [], []), ((0, 160), [], []), ((0, 1200), [], []), ((0, 24), [], []), ((0, 24), [], []), ((0, 3), [], []), ((0, 4), [(3, -1), (2, -1), (1, -1), (0, -1)], []), ((0, 4), [], []), ((0, 160), [], []), ((0, 44), [(43, 59), (42, 32), (41, 101), (40, 100), (39, 105), (38, 115), (37, 101), (36, 98), (35, 32), (34, 115), (33, 100), (32, 110), (31, 105), (30, 109), (29, 32), (28, 59), (27, 32), (26, 48), (25, 54), (24, 32), (23, 115), (22, 100), (21, 108), (20, 111), (19, 104), (18, 32), (17, 59), (16, 32), (15, 115), (14, 115), (13, 111), (12, 114), (11, 99), (10, 97), (9, 32), (8, 45), (7, 32), (6, 53), (5, 32), (4, 115), (3, 110), (2, 97), (1, 101), (0, 108)], []), ((0, 96), [(73, 114), (72, 111), (71, 32), (70, 32), (69, 32), (68, 32), (67, 101), (66, 114), (65, 111), (64, 109), (63, 32), (62, 115), (61, 114), (60, 101), (59, 107), (58, 111), (57, 111), (56, 108), (55, 32), (54, 32), (53, 32), (52, 32), (51, 32), (50, 121), (49, 97), (48, 100), (47, 32), (46, 32), (45, 101), (44, 100), (43, 105), (42, 115), (41, 101), (40, 98), (39, 32), (38, 32), (37, 115), (36, 115), (35, 111), (34, 114), (33, 99), (32, 97), (31, 32), (30, 32), (29, 32), (28, 32), (27, 110), (26, 97), (25, 101), (24, 108), (23, 32), (22, 32), (21, 32), (20, 115), (19, 100), (18, 110), (17, 105), (16, 109), (15, 32), (14, 32), (13, 32), (12, 115), (11, 100), (10, 108), (9, 111), (8, 104), (7, 32), (6, 32), (5, 32), (4, 115), (3, 110), (2, 97), (1, 101), (0, 108)], [])]
def hm_149 : List e_cl := [((21, 35), [], [(17, 88), (16, 87), (15, 86), (14, 85), (13, 84), (12, 83), (8, 82), (7, 81), (5, 80), (3, 79), (2, 78), (1, 77)]), ((0, 6), [], []), ((0, 6), [], []), ((0, 24), [], []), ((0, 160), [], []), ((0, 1200), [], []), ((0, 24), [], []), ((0, 24), [], []), ((0, 3), [], []), ((0, 4), [(3, -1), (2, -1), (1, -1), (0, -1)], []), ((0, 4), [], []), ((0, 160), [], []), ((0, 44), [(43, 59), (42, 32), (41, 101), (40, 100), (39, 105), (38, 115), (37, 101), (36, 98), (35, 32), (34, 115), (33, 100), (32, 110), (31, 105), (30, 109), (29, 32), (28, 59), (27, 32), (26, 48), (25, 54), (24, 32), (23, 115), (22, 100), (21, 108), (20, 111), (19, 104), (18, 32), (17, 59), (16, 32), (15, 115), (14, 115), (13, 111), (12, 114), (11, 99), (10, 97), (9, 32), (8, 45), (7, 32), (6, 53), (5, 32), (4, 115), (3, 110), (2, 97), (1, 101), (0, 108)], []), ((0, 96), [(74, 32), (73, 114), (72, 111), (71, 32), (70, 32), (69, 32), (68, 32), (67, 101), (66, 114), (65, 111), (64, 109), (63, 32), (62, 115), (61, 114), (60, 101), (59, 107), (58, 111), (57, 111), (56, 108), (55, 32), (54, 32), (53, 32), (52, 32), (51, 32), (50, 121), (49, 97), (48, 100), (47, 32), (46, 32), (45, 101), (44, 100), (43, 105), (42, 115), (41, 101), (40, 98), (39, 32), (38, 32), (37, 115), (36, 115), (35, 111), (34, 114), (33, 99), (32, 97), (31, 32), (30, 32), (29, 32), (28, 32), (27, 110), (26, 97), (25, 101), (24, 108), (23, 32), (22, 32), (21, 32), (20, 115), (19, 100), (18, 110), (17, 105), (16, 109), (15, 32), (14, 32), (13, 32), (12, 115), (11, 100), (10, 108), (9, 111), (8, 104), (7, 32), (6, 32), (5, 32), (4, 115), (3, 110), (2, 97), (1, 101), (0, 108)], [])]
def hm_150 : List e_cl := [((21, 35), [], [(17, 88), (16, 87), (15, 86), (14, 85), (13, 84), (12, 83), (8, 82), (7, 81), (5, 80), (3, 79), (2, 78), (1, 77)]), ((0, 6), [], []), ((0, 6), [], []), ((0, 24), [], []), ((0, 160), [], []), ((0, 1200), [], []), ((0, 24), [], []), ((0, 24), [], []), ((0, 3), [], []), ((0, 4), [(3, -1), (2, -1), (1, -1), (0, -1)], []), ((0, 4), [], []), ((0, 160), [], []), ((0, 44), [(43, 59), (42, 32), (41, 101), (40, 100), (39, 105), (38, 115), (37, 101), (36, 98), (35, 32), (34, 115), (33, 100), (32, 110), (31, 105), (30, 109), (29, 32), (28, 59), (27, 32), (26, 48), (25, 54), (24, 32), (23, 115), (22, 100), (21, 108), (20, 111), (19, 104), (18, 32), (17, 59), (16, 32), (15, 115), (14, 115), (13, 111), (12, 114), (11, 99), (10, 97), (9, 32), (8, 45), (7, 32), (6, 53), (5, 32), (4, 115), (3, 110), (2, 97), (1, 101), (0, 108)], []), ((0, 96), [(75, 32), (74, 32), (73, 114), (72, 111), (71, 32), (70, 32), (69, 32), (68, 32), (67, 101), (66, 114), (65, 111), (64, 109), (63, 32), (62, 115), (61, 114), (60, 101), (59, 107), (58, 111), (57, 111), (56, 108), (55, 32), (54, 32), (53, 32), (52, 32), (51, 32), (50, 121), (49, 97), (48, 100), (47, 32), (46, 32), (45, 101), (44, 100), (43, 105), (42, 115), (41, 101), (40, 98), (39, 32), (38, 32), (37, 115), (36, 115), (35, 111), (34, 114), (33, 99), (32, 97), (31, 32), (30, 32), (29, 32), (28, 32), (27, 110), (26, 97), (25, 101), (24, 108), (23, 32), (22, 32), (21, 32), (20, 115), (19, 100), (18, 110), (17, 105), (16, 109), (15, 32), (14, 32), (13, 32), (12, 115), (11, 100), (10, 108), (9, 111), (8, 104), (7, 32), (6, 32), (5, 32), (4, 115), (3, 110), (2, 97), (1, 101), (0, 108)], [])]
def hm_151 : List e_cl := [((21, 35), [], [(17, 88), (16, 87), (15, 86), (14, 85), (13, 84), (12, 83), (8, 82), (7, 81), (5, 80), (3, 79), (2, 78), (1, 77)]), ((0, 6), [], []), ((0, 6), [], []), ((0, 24), [], []), ((0, 160), [], []), ((0, 1200), [], []), ((0, 24), [], []), ((0, 24), [], []), ((0, 3), [], []), ((0, 4), [(3, -1), (2, -1), (1, -1), (0, -1)], []), ((0, 4), [], []), ((0, 160), [], []), ((0, 44), [(43, 59), (42, 32), (41, 101), (40, 100), (39, 105), (38, 115), (37, 101), (36, 98), (35, 32), (34, 115), (33, 100), (32, 110), (31, 105), (30, 109), (29, 32), (28, 59), (27, 32), (26, 48), (25, 54), (24, 32), (23, 115), (22, 100), (21, 108), (20, 111), (19, 104), (18, 32), (17, 59), (16, 32), (15, 115), (14, 115), (13, 111), (12, 114), (11, 99), (10, 97), (9, 32), (8, 45), (7, 32), (6, 53), (5, 32), (4, 115), (3, 110), (2, 97), (1, 101), (0, 108)], []), ((0, 96), [(76, 32), (75, 32), (74, 32), (73, 114), (72, 111), (71, 32), (70, 32), (69, 32), (68, 32), (67, 101), (66, 114), (65, 111), (64, 109), (63, 32), (62, 115), (61, 114), (60, 101), (59, 107), (58, 111), (57, 111), (56, 108), (55, 32), (54, 32), (53, 32), (52, 32), (51, 32), (50, 121), (49, 97), (48, 100), (47, 32), (46, 32), (45, 101), (44, 100), (43, 105), (42, 115), (41, 101), (40, 98), (39, 32), (38, 32), (37, 115), (36, 115), (35, 111), (34, 114), (33, 99), (32, 97), (31, 32), (30, 32), (29, 32), (28, 32), (27, 110), (26, 97), (25, 101), (24, 108), (23, 32), (22, 32), (21, 32), (20, 115), (19, 100), (18, 110), (17, 105), (16, 109), (15, 32), (14, 32), (13, 32), (12, 115), (11, 100), (10, 108), (9, 111), (8, 104), (7, 32), (6, 32), (5, 32), (4, 115), (3, 110), (2, 97), (1, 101), (0, 108)], [])]
def hm_152 : List e_cl := [((21, 35), [], [(17, 88), (16, 87), (15, 86), (14, 85), (13, 84), (12, 83), (8, 82), (7, 81), (5, 80), (3, 79), (2, 78), (1, 77)]), ((0, 6), [], []), ((0, 6), [], []), ((0, 24), [], []), ((0, 160), [], []), ((0, 1200), [], []), ((0, 24), [], []), ((0, 24), [], []), ((0, 3), [], []), ((0, 4), [(3, -1), (2, -1), (1, -1), (0, -1)], []), ((0, 4), [], []), ((0, 160), [], []), ((0, 44), [(43, 59), (42, 32), (41, 101), (40, 100), (39, 105), (38, 115), (37, 101), (36, 98), (35, 32), (34, 115), (33, 100), (32, 110), (31, 105), (30, 109), (29, 32), (28, 59), (27, 32), (26, 48), (25, 54), (24, 32), (23, 115), (22, 100), (21, 108), (20, 111), (19, 104), (18, 32), (17, 59), (16, 32), (15, 115), (14, 115), (13, 111), (12, 114), (11, 99), (10, 97), (9, 32), (8, 45), (7, 32), (6, 53), (5, 32), (4, 115), (3, 110), (2, 97), (1, 101), (0, 108)], []), ((0, 96), [(77, 32), (76, 32), (75, 32), (74, 32), (73, 114), (72, 111), (71, 32), (70, 32), (69, 32), (68, 32), (67, 101), (66, 114), (65, 111), (64, 109), (63, 32), (62, 115), (61, 114), (60, 101), (59, 107), (58, 111), (57, 111), (56, 108), (55, 32), (54, 32), (53, 32), (52, 32), (51, 32), (50, 121), (49, 97), (48, 100), (47, 32), (46, 32), (45, 101), (44, 100), (43, 105), (42, 115), (41, 101), (40, 98), (39, 32), (38, 32), (37, 115), (36, 115), (35, 111), (34, 114), (33, 99), (32, 97), (31, 32), (30, 32), (29, 32), (28, 32), (27, 110), (26, 97), (25, 101), (24, 108), (23, 32), (22, 32), (21, 32), (20, 115), (19, 100), (18, 110), (17, 105), (16, 109), (15, 32), (14, 32), (13, 32), (12, 115), (11, 100), (10, 108), (9, 111), (8, 104), (7, 32), (6, 32), (5, 32), (4, 115), (3, 110), (2, 97), (1, 101), (0, 108)], [])]
def hm_153 : List e_cl := [((21, 35), [], [(17, 88), (16, 87), (15, 86), (14, 85), (13, 84), (12, 83), (8, 82), (7, 81), (5, 80), (3, 79), (2, 78), (1, 77)]), ((0, 6), [], []), ((0, 6), [], []), ((0, 24), [], []), ((0, 160), [], []), ((0, 1200), [], []), ((0, 24), [], []), ((0, 24), [], []), ((0, 3), [], []), ((0, 4), [(3, -1), (2, -1), (1, -1), (0, -1)], []), ((0, 4), [], []), ((0, 160), [], []), ((0, 44), [(43, 59), (42, 32), (41, 101), (40, 100), (39, 105), (38, 115), (37, 101), (36, 98), (35, 32), (34, 115), (33, 100), (32, 110), (31, 105), (30, 109), (29, 32), (28, 59), (27, 32), (26, 48), (25, 54), (24, 32), (23, 115), (22, 100), (21, 108), (20, 111), (19, 104), (18, 32), (17, 59), (16, 32), (15, 115), (14, 115), (13, 111), (12, 114), (11, 99), (10, 97), (9, 32), (8, 45), (7, 32), (6, 53), (5, 32), (4, 115), (3, 110), (2, 97), (1, 101), (0, 108)], []), ((0, 96), [(78, 32), (77, 32), (76, 32), (75, 32), (74, 32), (73, 114), (72, 111), (71, 32), (70, 32), (69, 32), (68, 32), (67, 101), (66, 114), (65, 111), (64, 109), (63, 32), (62, 115), (61, 114), (60, 101), (59, 107), (58, 111), (57, 111), (56, 108), (55, 32), (54, 32), (53, 32), (52, 32), (51, 32), (50, 121), (49, 97), (48, 100), (47, 32), (46, 32), (45, 101), (44, 100), (43, 105), (42, 115), (41, 101), (40, 98), (39, 32), (38, 32), (37, 115), (36, 115), (35, 111), (34, 114), (33, 99), (32, 97), (31, 32), (30, 32), (29, 32), (28, 32), (27, 110), (26, 97), (25, 101), (24, 108), (23, 32), (22, 32), (21, 32), (20, 115), (19, 100), (18, 110), (17, 105), (16, 109), (15, 32), (14, 32), (13, 32), (12, 115), (11, 100), (10, 108), (9, 111), (8, 104), (7, 32), (6, 32), (5, 32), (4, 115), (3, 110), (2, 97), (1, 101), (0, 108)], [])]
def hm_154 : List e_cl := [((21, 35), [], [(17, 88), (16, 87), (15, 86), (14, 85), (13, 84), (12, 83), (8, 82), (7, 81), (5, 80), (3, 79), (2, 78), (1, 77)]), ((0, 6), [], []), ((0, 6), [], []), ((0, 24), [], []), ((0, 160), [], []), ((0, 1200), [], []), ((0, 24), [], []), ((0, 24), [], []), ((0, 3), [], []), ((0, 4), [(3, -1), (2, -1), (1, -1), (0, -1)], []), ((0, 4), [], []), ((0, 160), [], []), ((0, 44), [(43, 59), (42, 32), (41, 101), (40, 100), (39, 105), (38, 115), (37, 101), (36, 98), (35, 32), (34, 115), (33, 100), (32, 110), (31, 105), (30, 109), (29, 32), (28, 59), (27, 32), (26, 48), (25, 54), (24, 32), (23, 115), (22, 100), (21, 108), (20, 111), (19, 104), (18, 32), (17, 59), (16, 32), (15, 115), (14, 115), (13, 111), (12, 114), (11, 99), (10, 97), (9, 32), (8, 45), (7, 32), (6, 53), (5, 32), (4, 115), (3, 110), (2, 97), (1, 101), (0, 108)], []), ((0, 96), [(79, 32), (78, 32), (77, 32), (76, 32), (75, 32), (74, 32), (73, 114), (72, 111), (71, 32), (70, 32), (69, 32), (68, 32), (67, 101), (66, 114), (65, 111), (64, 109), (63, 32), (62, 115), (61, 114), (60, 101), (59, 107), (58, 111), (57, 111), (56, 108), (55, 32), (54, 32), (53, 32), (52, 32), (51, 32), (50, 121), (49, 97), (48, 100), (47, 32), (46, 32), (45, 101), (44, 100), (43, 105), (42, 115), (41, 101), (40, 98), (39, 32), (38, 32), (37, 115), (36, 115), (35, 111), (34, 114), (33, 99), (32, 97), (31, 32), (30, 32), (29, 32), (28, 32), (27, 110), (26, 97), (25, 101), (24, 108), (23, 32), (22, 32), (21, 32), (20, 115), (19, 100), (18, 110), (17, 105), (16, 109), (15, 32), (14, 32), (13, 32), (12, 115), (11, 100), (10, 108), (9, 111), (8, 104), (7, 32), (6, 32), (5, 32), (4, 115), (3, 110), (2, 97), (1, 101), (0, 108)], [])]
def hm_155 : List e_cl := [((21, 35), [], [(17, 88), (16, 87), (15, 86), (14, 85), (13, 84), (12, 83), (8, 82), (7, 81), (5, 80), (3, 79), (2, 78), (1, 77)]), ((0, 6), [], []), ((0, 6), [], []), ((0, 24), [], []), ((0, 160), [], []), ((0, 1200), [], []), ((0, 24), [], []), ((0, 24), [], []), ((0, 3), [], []), ((0, 4), [(3, -1), (2, -1), (1, -1), (0, -1)], []), ((0, 4), [], []), ((0, 160), [], []), ((0, 44), [(43, 59), (42, 32), (41, 101), (40, 100), (39, 105), (38, 115), (37, 101), (36, 98), (35, 32), (34, 115), (33, 100), (32, 110), (31, 105), (30, 109), (29, 32), (28, 59), (27, 32), (26, 48), (25, 54), (24, 32), (23, 115), (22, 100), (21, 108), (20, 111), (19, 104), (18, 32), (17, 59), (16, 32), (15, 115), (14, 115), (13, 111), (12, 114), (11, 99), (10, 97), (9, 32), (8, 45), (7, 32), (6, 53), (5, 32), (4, 115), (3, 110), (2, 97), (1, 101), (0, 108)], []), ((0, 96), [(80, 97), (79, 32), (78, 32), (77, 32), (76, 32), (75, 32), (74, 32), (73, 114), (72, 111), (71, 32), (70, 32), (69, 32), (68, 32), (67, 101), (66, 114), (65, 111), (64, 109), (63, 32), (62, 115), (61, 114), (60, 101), (59, 107), (58, 111), (57, 111), (56, 108), (55, 32), (54, 32), (53, 32), (52, 32), (51, 32), (50, 121), (49, 97), (48, 100), (47, 32), (46, 32), (45, 101), (44, 100), (43, 105), (42, 115), (41, 101), (40, 98), (39, 32), (38, 32), (37, 115), (36, 115), (35, 111), (34, 114), (33, 99), (32, 97), (31, 32), (30, 32), (29, 32), (28, 32), (27, 110), (26, 97), (25, 101), (24, 108), (23, 32), (22, 32), (21, 32), (20, 115), (19, 100), (18, 110), (17, 105), (16, 109), (15, 32), (14, 32), (13, 32), (12, 115), (11, 100), (10, 108), (9, 111), (8, 104), (7, 32), (6, 32), (5, 32), (4, 115), (3, 110), (2, 97), (1, 101), (0, 108)], [])]
def hm_156 : List e_cl := [((21, 35), [], [(17, 88), (16, 87), (15, 86), (14, 85), (13, 84), (12, 83), (8, 82), (7, 81), (5, 80), (3, 79), (2, 78), (1, 77)]), ((0, 6), [], []), ((0, 6), [], []), ((0, 24), [], []), ((0, 160), [], []), ((0, 1200), [], []), ((0, 24), [], []), ((0, 24), [], []), ((0, 3), [], []), ((0, 4), [(3, -1), (2, -1), (1, -1), (0, -1)], []), ((0, 4), [], []), ((0, 160), [], []), ((0, 44), [(43, 59), (42, 32), (41, 101), (40, 100), (39, 105), (38, 115), (37, 101), (36, 98), (35, 32), (34, 115), (33, 100), (32, 110), (31, 105), (30, 109), (29, 32), (28, 59), (27, 32), (26, 48), (25, 54), (24, 32), (23, 115), (22, 100), (21, 108), (20, 111), (19, 104), (18, 32), (17, 59), (16, 32), (15, 115), (14, 115), (13, 111), (12, 114), (11, 99), (10, 97), (9, 32), (8, 45), (7, 32), (6, 53), (5, 32), (4, 115), (3, 110), (2, 97), (1, 101), (0, 108)], []), ((0, 96), [(81, 110), (80, 97), (79, 32), (78, 32), (77, 32), (76, 32), (75, 32), (74, 32), (73, 114), (72, 111), (71, 32), (70, 32), (69, 32), (68, 32), (67, 101), (66, 114), (65, 111), (64, 109), (63, 32), (62, 115), (61, 114), (60, 101), (59, 107), (58, 111), (57, 111), (56, 108), (55, 32), (54, 32), (53, 32), (52, 32), (51, 32), (50, 121), (49, 97), (48, 100), (47, 32), (46, 32), (45, 101), (44, 100), (43, 105), (42, 115), (41, 101), (40, 98), (39, 32), (38, 32), (37, 115), (36, 115), (35, 111), (34, 114), (33, 99), (32, 97), (31, 32), (30, 32), (29, 32), (28, 32), (27, 110), (26, 97), (25, 101), (24, 108), (23, 32), (22, 32), (21, 32), (20, 115), (19, 100), (18, 110), (17, 105), (16, 109), (15, 32), (14, 32), (13, 32), (12, 115), (11, 100), (10, 108), (9, 111), (8, 104), (7, 32), (6, 32), (5, 32), (4, 115), (3, 110), (2, 97), (1, 101), (0, 108)], [])]
def hm_157 : List e_cl := [((21, 35), [], [(17, 88), (16, 87), (15, 86), (14, 85), (13, 84), (12, 83), (8, 82), (7, 81), (5, 80), (3, 79), (2, 78), (1, 77)]), ((0, 6), [], []), ((0, 6), [], []), ((0, 24), [], []), ((0, 160), [], []), ((0, 1200), [], []), ((0, 24), [], []), ((0, 24), [], []), ((0, 3), [], []), ((0, 4), [(3, -1), (2, -1), (1, -1), (0, -1)], []), ((0, 4), [], []), ((0, 160), [], []), ((0, 44), [(43, 59), (42, 32), (41, 101), (40, 100), (39, 105), (38, 115), (37, 101), (36, 98), (35, 32), (34, 115), (33, 100), (32, 110), (31, 105), (30, 109), (29, 32), (28, 59), (27, 32), (26, 48), (25, 54), (24, 32), (23, 115), (22, 100), (21, 108), (20, 111), (19, 104), (18, 32), (17, 59), (16, 32), (15, 115), (14, 115), (13, 111), (12, 114), (11, 99), (10, 97), (9, 32), (8, 45), (7, 32), (6, 53), (5, 32), (4, 115), (3, 110), (2, 97), (1, 101), (0, 108)], []), ((0, 96), [(82, 100), (81, 110), (80, 97), (79, 32), (78, 32), (77, 32), (76, 32), (75, 32), (74, 32), (73, 114), (72, 111), (71, 32), (70, 32), (69, 32), (68, 32), (67, 101), (66, 114), (65, 111), (64, 109), (63, 32), (62, 115), (61, 114), (60, 101), (59, 107), (58, 111), (57, 111), (56, 108), (55, 32), (54, 32), (53, 32), (52, 32), (51, 32), (50, 121), (49, 97), (48, 100), (47, 32), (46, 32), (45, 101), (44, 100), (43, 105), (42, 115), (41, 101), (40, 98), (39, 32), (38, 32), (37, 115), (36, 115), (35, 111), (34, 114), (33, 99), (32, 97), (31, 32), (30, 32), (29, 32), (28, 32), (27, 110), (26, 97), (25, 101), (24, 108), (23, 32), (22, 32), (21, 32), (20, 115), (19, 100), (18, 110), (17, 105), (16, 109), (15, 32), (14, 32), (13, 32), (12, 115), (11, 100), (10, 108), (9, 111), (8, 104), (7, 32), (6, 32), (5, 32), (4, 115), (3, 110), (2, 97), (1, 101), (0, 108)], [])]
def hm_158 : List e_cl := [((21, 35), [], [(17, 88), (16, 87), (15, 86), (14, 85), (13, 84), (12, 83), (8, 82), (7, 81), (5, 80), (3, 79), (2, 78), (1, 77)]), ((0, 6), [], []), ((0, 6), [], []), ((0, 24), [], []), ((0, 160), [], []), ((0, 1200), [], []), ((0, 24), [], []), ((0, 24), [], []), ((0, 3), [], []), ((0, 4), [(3, -1), (2, -1), (1, -1), (0, -1)], []), ((0, 4), [], []), ((0, 160), [], []), ((0, 44), [(43, 59), (42, 32), (41, 101), (40, 100), (39, 105), (38, 115), (37, 101), (36, 98), (35, 32), (34, 115), (33, 100), (32, 110), (31, 105), (30, 109), (29, 32), (28, 59), (27, 32), (26, 48), (25, 54), (24, 32), (23, 115), (22, 100), (21, 108), (20, 111), (19, 104), (18, 32), (17, 59), (16, 32), (15, 115), (14, 115), (13, 111), (12, 114), (11, 99), (10, 97), (9, 32), (8, 45), (7, 32), (6, 53), (5, 32), (4, 115), (3, 110), (2, 97), (1, 101), (0, 108)], []), ((0, 96), [(83, 32), (82, 100), (81, 110), (80, 97), (79, 32), (78, 32), (77, 32), (76, 32), (75, 32), (74, 32), (73, 114), (72, 111), (71, 32), (70, 32), (69, 32), (68, 32), (67, 101), (66, 114), (65, 111), (64, 109), (63, 32), (62, 115), (61, 114), (60, 101), (59, 107), (58, 111), (57, 111), (56, 108), (55, 32), (54, 32), (53, 32), (52, 32), (51, 32), (50, 121), (49, 97), (48, 100), (47, 32), (46, 32), (45, 101), (44, 100), (43, 105), (42, 115), (41, 101), (40, 98), (39, 32), (38, 32), (37, 115), (36, 115), (35, 111), (34, 114), (33, 99), (32, 97), (31, 32), (30, 32), (29, 32), (28, 32), (27, 110), (26, 97), (25, 101), (24, 108), (23, 32), (22, 32), (21, 32), (20, 115), (19, 100), (18, 110), (17, 105), (16, 109), (15, 32), (14, 32), (13, 32), (12, 115), (11, 100), (10, 108), (9, 111), (8, 104), (7, 32), (6, 32), (5, 32), (4, 115), (3, 110), (2, 97), (1, 101), (0, 108)], [])]
def hm_159 : List e_cl := [((21, 35), [], [(17, 88), (16, 87), (15, 86), (14, 85), (13, 84), (12, 83), (8, 82), (7, 81), (5, 80), (3, 79), (2, 78), (1, 77)]), ((0, 6), [], []), ((0, 6), [], []), ((0, 24), [], []), ((0, 160), [], []), ((0, 1200), [], []), ((0, 24), [], []), ((0, 24), [], []), ((0, 3), [], []), ((0, 4), [(3, -1), (2, -1), (1, -1), (0, -1)], []), ((0, 4), [], []), ((0, 160), [], []), ((0, 44), [(43, 59), (42, 32), (41, 101), (40, 100), (39, 105), (38, 115), (37, 101), (36, 98), (35, 32), (34, 115), (33, 100), (32, 110), (31, 105), (30, 109), (29, 32), (28, 59), (27, 32), (26, 48), (25, 54), (24, 32), (23, 115), (22, 100), (21, 108), (20, 111), (19, 104), (18, 32), (17, 59), (16, 32), (15, 115), (14, 115), (13, 111), (12, 114), (11, 99), (10, 97), (9, 32), (8, 45), (7, 32), (6, 53), (5, 32), (4, 115), (3, 110), (2, 97), (1, 101), (0, 108)], []), ((0, 96), [(84, 32), (83, 32), (82, 100), (81, 110), (80, 97), (79, 32), (78, 32), (77, 32), (76, 32), (75, 32), (74, 32), (73, 114), (72, 111), (71, 32), (70, 32), (69, 32), (68, 32), (67, 101), (66, 114), (65, 111), (64, 109), (63, 32), (62, 115), (61, 114), (60, 101), (59, 107), (58, 111), (57, 111), (56, 108), (55, 32), (54, 32), (53, 32), (52, 32), (51, 32), (50, 121), (49, 97), (48, 100), (47, 32), (46, 32), (45, 101), (44, 100), (43, 105), (42, 115), (41, 101), (40, 98), (39, 32), (38, 32), (37, 115), (36, 115), (35, 111), (34, 114), (33, 99), (32, 97), (31, 32), (30, 32), (29, 32), (28, 32), (27, 110), (26, 97), (25, 101), (24, 108), (23, 32), (22, 32), (21, 32), (20, 115), (19, 100), (18, 110), (17, 105), (16, 109), (15, 32), (14, 32), (13, 32), (12, 115), (11, 100), (10, 108), (9, 111), (8, 104), (7, 32), (6, 32), (5, 32), (4, 115), (3, 110), (2, 97), (1, 101), (0, 108)], [])]
def hm_160 : List e_cl := [((21, 35), [], [(17, 88), (16, 87), (15, 86), (14, 85), (13, 84), (12, 83), (8, 82), (7, 81), (5, 80), (3, 79), (2, 78), (1, 77)]), ((0, 6), [], []), ((0, 6), [], []), ((0, 24), [], []), ((0, 160), [], []), ((0, 1200), [], []), ((0, 24), [], []), ((0, 24), [], []), ((0, 3), [], []), ((0, 4), [(3, -1), (2, -1), (1, -1), (0, -1)], []), ((0, 4), [], []), ((0, 160), [], []), ((0, 44), [(43, 59), (42, 32), (41, 101), (40, 100), (39, 105), (38, 115), (37, 101), (36, 98), (35, 32), (34, 115), (33, 100), (32, 110), (31, 105), (30, 109), (29, 32), (28, 59), (27, 32), (26, 48), (25, 54), (24, 32), (23, 115), (22, 100), (21, 108), (20, 111), (19, 104), (18, 32), (17, 59), (16, 32), (15, 115), (14, 115), (13, 111), (12, 114), (11, 99), (10, 97), (9, 32), (8, 45), (7, 32), (6, 53), (5, 32), (4, 115), (3, 110), (2, 97), (1, 101), (0, 108)], []), ((0, 96), [(85, 32), (84, 32), (83, 32), (82, 100), (81, 110), (80, 97), (79, 32), (78, 32), (77, 32), (76, 32), (75, 32), (74, 32), (73, 114), (72, 111), (71, 32), (70, 32), (69, 32), (68, 32), (67, 101), (66, 114), (65, 111), (64, 109), (63, 32), (62, 115), (61, 114), (60, 101), (59, 107), (58, 111), (57, 111), (56, 108), (55, 32), (54, 32), (53, 32), (52, 32), (51, 32), (50, 121), (49, 97), (48, 100), (47, 32), (46, 32), (45, 101), (44, 100), (43, 105), (42, 115), (41, 101), (40, 98), (39, 32), (38, 32), (37, 115), (36, 115), (35, 111), (34, 114), (33, 99), (32, 97), (31, 32), (30, 32), (29, 32), (28, 32), (27, 110), (26, 97), (25, 101), (24, 108), (23, 32), (22, 32), (21, 32), (20, 115), (19, 100), (18, 110), (17, 105), (16, 109), (15, 32), (14, 32), (13, 32), (12, 115), (11, 100), (10, 108), (9, 111), (8, 104), (7, 32), (6, 32), (5, 32), (4, 115), (3, 110), (2, 97), (1, 101), (0, 108)], [])]
def hm_161 : List e_cl := [((21, 35), [], [(17, 88), (16, 87), (15, 86), (14, 85), (13, 84), (12, 83), (8, 82), (7, 81), (5, 80), (3, 79), (2, 78), (1, 77)]), ((0, 6), [], []), ((0, 6), [], []), ((0, 24), [], []), ((0, 160), [], []), ((0, 1200), [], []), ((0, 24), [], []), ((0, 24), [], []), ((0, 3), [], []), ((0, 4), [(3, -1), (2, -1), (1, -1), (0, -1)], []), ((0, 4), [], []), ((0, 160), [], []), ((0, 44), [(43, 59), (42, 32), (41, 101), (40, 100), (39, 105), (38, 115), (37, 101), (36, 98), (35, 32), (34, 115), (33, 100), (32, 110), (31, 105), (30, 109), (29, 32), (28, 59), (27, 32), (26, 48), (25, 54), (24, 32), (23, 115), (22, 100), (21, 108), (20, 111), (19, 104), (18, 32), (17, 59), (16, 32), (15, 115), (14, 115), (13, 111), (12, 114), (11, 99), (10, 97), (9, 32), (8, 45), (7, 32), (6, 53), (5, 32), (4, 115), (3, 110), (2, 97), (1, 101), (0, 108)], []), ((0, 96), [(86, 32), (85, 32), (84, 32), (83, 32), (82, 100), (81, 110), (80, 97), (79, 32), (78, 32), (77, 32), (76, 32), (75, 32), (74, 32), (73, 114), (72, 111), (71, 32), (70, 32), (69, 32), (68, 32), (67, 101), (66, 114), (65, 111), (64, 109), (63, 32), (62, 115), (61, 114), (60, 101), (59, 107), (58, 111), (57, 111), (56, 108), (55, 32), (54, 32), (53, 32), (52, 32), (51, 32), (50, 121), (49, 97), (48, 100), (47, 32), (46, 32), (45, 101), (44, 100), (43, 105), (42, 115), (41, 101), (40, 98), (39, 32), (38, 32), (37, 115), (36, 115), (35, 111), (34, 114), (33, 99), (32, 97), (31, 32), (30, 32), (29, 32), (28, 32), (27, 110), (26, 97), (25, 101), (24, 108), (23, 32), (22, 32), (21, 32), (20, 115), (19, 100), (18, 110), (17, 105), (16, 109), (15, 32), (14, 32), (13, 32), (12, 115), (11, 100), (10, 108), (9, 111), (8, 104), (7, 32), (6, 32), (5, 32), (4, 115), (3, 110), (2, 97), (1, 101), (0, 108)], [])]
def hm_162 : List e_cl := [((21, 35), [], [(17, 88), (16, 87), (15, 86), (14, 85), (13, 84), (12, 83), (8, 82), (7, 81), (5, 80), (3, 79), (2, 78), (1, 77)]), ((0, 6), [], []), ((0, 6), [], []), ((0, 24), [], []), ((0, 160), [], []), ((0, 1200), [], []), ((0, 24), [], []), ((0, 24), [], []), ((0, 3), [], []), ((0, 4), [(3, -1), (2, -1), (1, -1), (0, -1)], []), ((0, 4), [], []), ((0, 160), [], []), ((0, 44), [(43, 59), (42, 32), (41, 101), (40, 100), (39, 105), (38, 115), (37, 101), (36, 98), (35, 32), (34, 115), (33, 100), (32, 110), (31, 105), (30, 109), (29, 32), (28, 59), (27, 32), (26, 48), (25, 54), (24, 32), (23, 115), (22, 100), (21, 108), (20, 111), (19, 104), (18, 32), (17, 59), (16, 32), (15, 115), (14, 115), (13, 111), (12, 114), (11, 99), (10, 97), (9, 32), (8, 45), (7, 32), (6, 53), (5, 32), (4, 115), (3, 110), (2, 97), (1, 101), (0, 108)], []), ((0, 96), [(87, 32), (86, 32), (85, 32), (84, 32), (83, 32), (82, 100), (81, 110), (80, 97), (79, 32), (78, 32), (77, 32), (76, 32), (75, 32), (74, 32), (73, 114), (72, 111), (71, 32), (70, 32), (69, 32), (68, 32), (67, 101), (66, 114), (65, 111), (64, 109), (63, 32), (62, 115), (61, 114), (60, 101), (59, 107), (58, 111), (57, 111), (56, 108), (55, 32), (54, 32), (53, 32), (52, 32), (51, 32), (50, 121), (49, 97), (48, 100), (47, 32), (46, 32), (45, 101), (44, 100), (43, 105), (42, 115), (41, 101), (40, 98), (39, 32), (38, 32), (37, 115), (36, 115), (35, 111), (34, 114), (33, 99), (32, 97), (31, 32), (30, 32), (29, 32), (28, 32), (27, 110), (26, 97), (25, 101), (24, 108), (23, 32), (22, 32), (21, 32), (20, 115), (19, 100), (18, 110), (17, 105), (16, 109), (15, 32), (14, 32), (13, 32), (12, 115), (11, 100), (10, 108), (9, 111), (8, 104), (7, 32), (6, 32), (5, 32), (4, 115), (3, 110), (2, 97), (1, 101), (0, 108)], [])]
def hm_163 : List e_cl := [((21, 35), [], [(17, 88), (16, 87), (15, 86), (14, 85), (13, 84), (12, 83), (8, 82), (7, 81), (5, 80), (3, 79), (2, 78), (1, 77)]), ((0, 6), [], []), ((0, 6), [], []), ((0, 24), [], []), ((0, 160), [], []), ((0, 1200), [], []), ((0, 24), [], []), ((0, 24), [], []), ((0, 3), [], []), ((0, 4), [(3, -1), (2, -1), (1, -1), (0, -1)], []), ((0, 4), [], []), ((0, 160), [], []), ((0, 44), [(43, 59), (42, 32), (41, 101), (40, 100), (39, 105), (38, 115), (37, 101), (36, 98), (35, 32), (34, 115), (33, 100), (32, 110), (31, 105), (30, 109), (29, 32), (28, 59), (27, 32), (26, 48), (25, 54), (24, 32), (23, 115), (22, 100), (21, 108), (20, 111), (19, 104), (18, 32), (17, 59), (16, 32), (15, 115), (14, 115), (13, 111), (12, 114), (11, 99), (10, 97), (9, 32), (8, 45), (7, 32), (6, 53), (5, 32), (4, 115), (3, 110), (2, 97), (1, 101), (0, 108)], []), ((0, 96), [(88, 110), (87, 32), (86, 32), (85, 32), (84, 32), (83, 32), (82, 100), (81, 110), (80, 97), (79, 32), (78, 32), (77, 32), (76, 32), (75, 32), (74, 32), (73, 114), (72, 111), (71, 32), (70, 32), (69, 32), (68, 32), (67, 101), (66, 114), (65, 111), (64, 109), (63, 32), (62, 115), (61, 114), (60, 101), (59, 107), (58, 111), (57, 111), (56, 108), (55, 32), (54, 32), (53, 32), (52, 32), (51, 32), (50, 121), (49, 97), (48, 100), (47, 32), (46, 32), (45, 101), (44, 100), (43, 105), (42, 115), (41, 101), (40, 98), (39, 32), (38, 32), (37, 115), (36, 115), (35, 111), (34, 114), (33, 99), (32, 97), (31, 32), (30, 32), (29, 32), (28, 32), (27, 110), (26, 97), (25, 101), (24, 108), (23, 32), (22, 32), (21, 32), (20, 115), (19, 100), (18, 110), (17, 105), (16, 109), (15, 32), (14, 32), (13, 32), (12, 115), (11, 100), (10, 108), (9, 111), (8, 104), (7, 32), (6, 32), (5, 32), (4, 115), (3, 110), (2, 97), (1, 101), (0, 108)], [])]
def hm_164 : List e_cl := [((21, 35), [], [(17, 88), (16, 87), (15, 86), (14, 85), (13, 84), (12, 83), (8, 82), (7, 81), (5, 80), (3, 79), (2, 78), (1, 77)]), ((0, 6), [], []), ((0, 6), [], []), ((0, 24), [], []), ((0, 160), [], []), ((0, 1200), [], []), ((0, 24), [], []), ((0, 24), [], []), ((0, 3), [], []), ((0, 4), [(3, -1), (2, -1), (1, -1), (0, -1)], []), ((0, 4), [], []), ((0, 160), [], []), ((0, 44), [(43, 59), (42, 32), (41, 101), (40, 100), (39, 105), (38, 115), (37, 101), (36, 98), (35, 32), (34, 115), (33, 100), (32, 110), (31, 105), (30, 109), (29, 32), (28, 59), (27, 32), (26, 48), (25, 54), (24, 32), (23, 115), (22, 100), (21, 108), (20, 111), (19, 104), (18, 32), (17, 59), (16, 32), (15, 115), (14, 115), (13, 111), (12, 114), (11, 99), (10, 97), (9, 32), (8, 45), (7, 32), (6, 53), (5, 32), (4, 115), (3, 110), (2, 97), (1, 101), (0, 108)], []), ((0, 96), [(89, 111), (88, 110), (87, 32), (86, 32), (85, 32), (84, 32), (83, 32), (82, 100), (81, 110), (80, 97), (79, 32), (78, 32), (77, 32), (76, 32), (75, 32), (74, 32), (73, 114), (72, 111), (71, 32), (70, 32), (69, 32), (68, 32), (67, 101), (66, 114), (65, 111), (64, 109), (63, 32), (62, 115), (61, 114), (60, 101), (59, 107), (58, 111), (57, 111), (56, 108), (55, 32), (54, 32), (53, 32), (52, 32), (51, 32), (50, 121), (49, 97), (48, 100), (47, 32), (46, 32), (45, 101), (44, 100), (43, 105), (42, 115), (41, 101), (40, 98), (39, 32), (38, 32), (37, 115), (36, 115), (35, 111), (34, 114), (33, 99), (32, 97), (31, 32), (30, 32), (29, 32), (28, 32), (27, 110), (26, 97), (25, 101), (24, 108), (23, 32), (22, 32), (21, 32), (20, 115), (19, 100), (18, 110), (17, 105), (16, 109), (15, 32), (14, 32), (13, 32), (12, 115), (11, 100), (10, 108), (9, 111), (8, 104), (7, 32), (6, 32), (5, 32), (4, 115), (3, 110), (2, 97), (1, 101), (0, 108)], [])]
def hm_165 : List e_cl := [((21, 35), [], [(17, 88), (16, 87), (15, 86), (14, 85), (13, 84), (12, 83), (8, 82), (7, 81), (5, 80), (3, 79), (2, 78), (1, 77)]), ((0, 6), [], []), ((0, 6), [], []), ((0, 24), [], []), ((0, 160), [], []), ((0, 1200), [], []), ((0, 24), [], []), ((0, 24), [], []), ((0, 3), [], []), ((0, 4), [(3, -1), (2, -1), (1, -1), (0, -1)], []), ((0, 4), [], []), ((0, 160), [], []), ((0, 44), [(43, 59), (42, 32), (41, 101), (40, 100), (39, 105), (38, 115), (37, 101), (36, 98), (35, 32), (34, 115), (33, 100), (32, 110), (31, 105), (30, 109), (29, 32), (28, 59), (27, 32), (26, 48), (25, 54), (24, 32), (23, 115), (22, 100), (21, 108), (20, 111), (19, 104), (18, 32), (17, 59), (16, 32), (15, 115), (14, 115), (13, 111), (12, 114), (11, 99), (10, 97), (9, 32), (8, 45), (7, 32), (6, 53), (5, 32), (4, 115), (3, 110), (2, 97), (1, 101), (0, 108)], []), ((0, 96), [(90, 116), (89, 111), (88, 110), (87, 32), (86, 32), (85, 32), (84, 32), (83, 32), (82, 100), (81, 110), (80, 97), (79, 32), (78, 32), (77, 32), (76, 32), (75, 32), (74, 32), (73, 114), (72, 111), (71, 32), (70, 32), (69, 32), (68, 32), (67, 101), (66, 114), (65, 111), (64, 109), (63, 32), (62, 115), (61, 114), (60, 101), (59, 107), (58, 111), (57, 111), (56, 108), (55, 32), (54, 32), (53, 32), (52, 32), (51, 32), (50, 121), (49, 97), (48, 100), (47, 32), (46, 32), (45, 101), (44, 100), (43, 105), (42, 115), (41, 101), (40, 98), (39, 32), (38, 32), (37, 115), (36, 115), (35, 111), (34, 114), (33, 99), (32, 97), (31, 32), (30, 32), (29, 32), (28, 32), (27, 110), (26, 97), (25, 101), (24, 108), (23, 32), (22, 32), (21, 32), (20, 115), (19, 100), (18, 110), (17, 105), (16, 109), (15, 32), (14, 32), (13, 32), (12, 115), (11, 100), (10, 108), (9, 111), (8, 104), (7, 32), (6, 32), (5, 32), (4, 115), (3, 110), (2, 97), (1, 101), (0, 108)], [])]
def hm_166 : List e_cl := [((21, 35), [], [(17, 88), (16, 87), (15, 86), (14, 85), (13, 84), (12, 83), (8, 82), (7, 81), (5, 80), (3, 79), (2, 78), (1, 77)]), ((0, 6), [], []), ((0, 6), [], []), ((0, 24), [], []), ((0, 160), [], []), ((0, 1200), [], []), ((0, 24), [], []), ((0, 24), [], []), ((0, 3), [], []), ((0, 4), [(3, -1), (2, -1), (1, -1), (0, -1)], []), ((0, 4), [], []), ((0, 160), [], []), ((0, 44), [(43, 59), (42, 32), (41, 101), (40, 100), (39, 105), (38, 115), (37, 101), (36, 98), (35, 32), (34, 115), (33, 100), (32, 110), (31, 105), (30, 109), (29, 32), (28, 59), (27, 32), (26, 48), (25, 54), (24, 32), (23, 115), (22, 100), (21, 108), (20, 111), (19, 104), (18, 32), (17, 59), (16, 32), (15, 115), (14, 115), (13, 111), (12, 114), (11, 99), (10, 97), (9, 32), (8, 45), (7, 32), (6, 53), (5, 32), (4, 115), (3, 110), (2, 97), (1, 101), (0, 108)], []), ((0, 96), [(91, 32), (90, 116), (89, 111), (88, 110), (87, 32), (86, 32), (85, 32), (84, 32), (83, 32), (82, 100), (81, 110), (80, 97), (79, 32), (78, 32), (77, 32), (76, 32), (75, 32), (74, 32), (73, 114), (72, 111), (71, 32), (70, 32), (69, 32), (68, 32), (67, 101), (66, 114), (65, 111), (64, 109), (63, 32), (62, 115), (61, 114), (60, 101), (59, 107), (58, 111), (57, 111), (56, 108), (55, 32), (54, 32), (53, 32), (52, 32), (51, 32), (50, 121), (49, 97), (48, 100), (47, 32), (46, 32), (45, 101), (44, 100), (43, 105), (42, 115), (41, 101), (40, 98), (39, 32), (38, 32), (37, 115), (36, 115), (35, 111), (34, 114), (33, 99), (32, 97), (31, 32), (30, 32), (29, 32), (28, 32), (27, 110), (26, 97), (25, 101), (24, 108), (23, 32), (22, 32), (21, 32), (20, 115), (19, 100), (18, 110), (17, 105), (16, 109), (15, 32), (14, 32), (13, 32), (12, 115), (11, 100), (10, 108), (9, 111), (8, 104), (7, 32), (6, 32), (5, 32), (4, 115), (3, 110), (2, 97), (1, 101), (0, 108)], [])]
def hm_167 : List e_cl := [((21, 35), [], [(17, 88), (16, 87), (15, 86), (14, 85), (13, 84), (12, 83), (8, 82), (7, 81), (5, 80), (3, 79), (2, 78), (1, 77)]), ((0, 6), [], []), ((0, 6), [], []), ((0, 24), [], []), ((0, 160), [], []), ((0, 1200), [], []), ((0, 24), [], []), ((0, 24), [], []), ((0, 3), [], []), ((0, 4), [(3, -1), (2, -1), (1, -1), (0, -1)], []), ((0, 4), [], []), ((0, 160), [], []), ((0, 44), [(43, 59), (42, 32), (41, 101), (40, 100), (39, 105), (38, 115), (37, 101), (36, 98), (35, 32), (34, 115), (33, 100), (32, 110), (31, 105), (30, 109), (29, 32), (28, 59), (27, 32), (26, 48), (25, 54), (24, 32), (23, 115), (22, 100), (21, 108), (20, 111), (19, 104), (18, 32), (17, 59), (16, 32), (15, 115), (14, 115), (13, 111), (12, 114), (11, 99), (10, 97), (9, 32), (8, 45), (7, 32), (6, 53), (5, 32), (4, 115), (3, 110), (2, 97), (1, 101), (0, 108)], []), ((0, 96), [(92, 32), (91, 32), (90, 116), (89, 111), (88, 110), (87, 32), (86, 32), (85, 32), (84, 32), (83, 32), (82, 100), (81, 110), (80, 97), (79, 32), (78, 32), (77, 32), (76, 32), (75, 32), (74, 32), (73, 114), (72, 111), (71, 32), (70, 32), (69, 32), (68, 32), (67, 101), (66, 114), (65, 111), (64, 109), (63, 32), (62, 115), (61, 114), (60, 101), (59, 107), (58, 111), (57, 111), (56, 108), (55, 32), (54, 32), (53, 32), (52, 32), (51, 32), (50, 121), (49, 97), (48, 100), (47, 32), (46, 32), (45, 101), (44, 100), (43, 105), (42, 115), (41, 101), (40, 98), (39, 32), (38, 32), (37, 115), (36, 115), (35, 111), (34, 114), (33, 99), (32, 97), (31, 32), (30, 32), (29, 32), (28, 32), (27, 110), (26, 97), (25, 101), (24, 108), (23, 32), (22, 32), (21, 32), (20, 115), (19, 100), (18, 110), (17, 105), (16, 109), (15, 32), (14, 32), (13, 32), (12, 115), (11, 100), (10, 108), (9, 111), (8, 104), (7, 32), (6, 32), (5, 32), (4, 115), (3, 110), (2, 97), (1, 101), (0, 108)], [])]
def hm_168 : List e_cl := [((21, 35), [], [(17, 88), (16, 87), (15, 86), (14, 85), (13, 84), (12, 83), (8, 82), (7, 81), (5, 80), (3, 79), (2, 78), (1, 77)]), ((0, 6), [], []), ((0, 6), [], []), ((0, 24), [], []), ((0, 160), [], []), ((0, 1200), [], []), ((0, 24), [], []), ((0, 24), [], []), ((0, 3), [], []), ((0, 4), [(3, -1), (2, -1), (1, -1), (0, -1)], []), ((0, 4), [], []), ((0, 160), [], []), ((0, 44), [(43, 59), (42, 32), (41, 101), (40, 100), (39, 105), (38, 115), (37, 101), (36, 98), (35, 32), (34, 115), (33, 100), (32, 110), (31, 105), (30, 109), (29, 32), (28, 59), (27, 32), (26, 48), (25, 54), (24, 32), (23, 115), (22, 100), (21, 108), (20, 111), (19, 104), (18, 32), (17, 59), (16, 32), (15, 115), (14, 115), (13, 111), (12, 114), (11, 99), (10, 97), (9, 32), (8, 45), (7, 32), (6, 53), (5, 32), (4, 115), (3, 110), (2, 97), (1, 101), (0, 108)], []), ((0, 96), [(93, 32), (92, 32), (91, 32), (90, 116), (89, 111), (88, 110), (87, 32), (86, 32), (85, 32), (84, 32), (83, 32), (82, 100), (81, 110), (80, 97), (79, 32), (78, 32), (77, 32), (76, 32), (75, 32), (74, 32), (73, 114), (72, 111), (71, 32), (70, 32), (69, 32), (68, 32), (67, 101), (66, 114), (65, 111), (64, 109), (63, 32), (62, 115), (61, 114), (60, 101), (59, 107), (58, 111), (57, 111), (56, 108), (55, 32), (54, 32), (53, 32), (52, 32), (51, 32), (50, 121), (49, 97), (48, 100), (47, 32), (46, 32), (45, 101), (44, 100), (43, 105), (42, 115), (41, 101), (40, 98), (39, 32), (38, 32), (37, 115), (36, 115), (35, 111), (34, 114), (33, 99), (32, 97), (31, 32), (30, 32), (29, 32), (28, 32), (27, 110), (26, 97), (25, 101), (24, 108), (23, 32), (22, 32), (21, 32), (20, 115), (19, 100), (18, 110), (17, 105), (16, 109), (15, 32), (14, 32), (13, 32), (12, 115), (11, 100), (10, 108), (9, 111), (8, 104), (7, 32), (6, 32), (5, 32), (4, 115), (3, 110), (2, 97), (1, 101), (0, 108)], [])]
def hm_169 : List e_cl := [((21, 35), [], [(17, 88), (16, 87), (15, 86), (14, 85), (13, 84), (12, 83), (8, 82), (7, 81), (5, 80), (3, 79), (2, 78), (1, 77)]), ((0, 6), [], []), ((0, 6), [], []), ((0, 24), [], []), ((0, 160), [], []), ((0, 1200), [], []), ((0, 24), [], []), ((0, 24), [], []), ((0, 3), [], []), ((0, 4), [(3, -1), (2, -1), (1, -1), (0, -1)], []), ((0, 4), [], []), ((0, 160), [], []), ((0, 44), [(43, 59), (42, 32), (41, 101), (40, 100), (39, 105), (38, 115), (37, 101), (36, 98), (35, 32), (34, 115), (33, 100), (32, 110), (31, 105), (30, 109), (29, 32), (28, 59), (27, 32), (26, 48), (25, 54), (24, 32), (23, 115), (22, 100), (21, 108), (20, 111), (19, 104), (18, 32), (17, 59), (16, 32), (15, 115), (14, 115), (13, 111), (12, 114), (11, 99), (10, 97), (9, 32), (8, 45), (7, 32), (6, 53), (5, 32), (4, 115), (3, 110), (2, 97), (1, 101), (0, 108)], []), ((0, 96), [(94, 32), (93, 32), (92, 32), (91, 32), (90, 116), (89, 111), (88, 110), (87, 32), (86, 32), (85, 32), (84, 32), (83, 32), (82, 100), (81, 110), (80, 97), (79, 32), (78, 32), (77, 32), (76, 32), (75, 32), (74, 32), (73, 114), (72, 111), (71, 32), (70, 32), (69, 32), (68, 32), (67, 101), (66, 114), (65, 111), (64, 109), (63, 32), (62, 115), (61, 114), (60, 101), (59, 107), (58, 111), (57, 111), (56, 108), (55, 32), (54, 32), (53, 32), (52, 32), (51, 32), (50, 121), (49, 97), (48, 100), (47, 32), (46, 32), (45, 101), (44, 100), (43, 105), (42, 115), (41, 101), (40, 98), (39, 32), (38, 32), (37, 115), (36, 115), (35, 111), (34, 114), (33, 99), (32, 97), (31, 32), (30, 32), (29, 32), (28, 32), (27, 110), (26, 97), (25, 101), (24, 108), (23, 32), (22, 32), (21, 32), (20, 115), (19, 100), (18, 110), (17, 105), (16, 109), (15, 32), (14, 32), (13, 32), (12, 115), (11, 100), (10, 108), (9, 111), (8, 104), (7, 32), (6, 32), (5, 32), (4, 115), (3, 110), (2, 97), (1, 101), (0, 108)], [])]
def hm_170 : List e_cl := [((21, 35), [], [(17, 88), (16, 87), (15, 86), (14, 85), (13, 84), (12, 83), (8, 82), (7, 81), (5, 80), (3, 79), (2, 78), (1, 77)]), ((0, 6), [], []), ((0, 6), [], []), ((0, 24), [], []), ((0, 160), [], []), ((0, 1200), [], []), ((0, 24), [], []), ((0, 24), [], []), ((0, 3), [], []), ((0, 4), [(3, -1), (2, -1), (1, -1), (0, -1)], []), ((0, 4), [], []), ((0, 160), [], []), ((0, 44), [(43, 59), (42, 32), (41, 101), (40, 100), (39, 105), (38, 115), (37, 101), (36, 98), (35, 32), (34, 115), (33, 100), (32, 110), (31, 105), (30, 109), (29, 32), (28, 59), (27, 32), (26, 48), (25, 54), (24, 32), (23, 115), (22, 100), (21, 108), (20, 111), (19, 104), (18, 32), (17, 59), (16, 32), (15, 115), (14, 115), (13, 111), (12, 114), (11, 99), (10, 97), (9, 32), (8, 45), (7, 32), (6, 53), (5, 32), (4, 115), (3, 110), (2, 97), (1, 101), (0, 108)], []), ((0, 96), [(95, 32), (94, 32), (93, 32), (92, 32), (91, 32), (90, 116), (89, 111), (88, 110), (87, 32), (86, 32), (85, 32), (84, 32), (83, 32), (82, 100), (81, 110), (80, 97), (79, 32), (78, 32), (77, 32), (76, 32), (75, 32), (74, 32), (73, 114), (72, 111), (71, 32), (70, 32), (69, 32), (68, 32), (67, 101), (66, 114), (65, 111), (64, 109), (63, 32), (62, 115), (61, 114), (60, 101), (59, 107), (58, 111), (57, 111), (56, 108), (55, 32), (54, 32), (53, 32), (52, 32), (51, 32), (50, 121), (49, 97), (48, 100), (47, 32), (46, 32), (45, 101), (44, 100), (43, 105), (42, 115), (41, 101), (40, 98), (39, 32), (38, 32), (37, 115), (36, 115), (35, 111), (34, 114), (33, 99), (32, 97), (31, 32), (30, 32), (29, 32), (28, 32), (27, 110), (26, 97), (25, 101), (24, 108), (23, 32), (22, 32), (21, 32), (20, 115), (19, 100), (18, 110), (17, 105), (16, 109), (15, 32), (14, 32), (13, 32), (12, 115), (11, 100), (10, 108), (9, 111), (8, 104), (7, 32), (6, 32), (5, 32), (4, 115), (3, 110), (2, 97), (1, 101), (0, 108)], [])]
def hm_171 : List e_cl := [((21, 35), [], [(22, 89), (17, 88), (16, 87), (15, 86), (14, 85), (13, 84), (12, 83), (8, 82), (7, 81), (5, 80), (3, 79), (2, 78), (1, 77)]), ((0, 6), [], []), ((0, 6), [], []), ((0, 24), [], []), ((0, 160), [], []), ((0, 1200), [], []), ((0, 24), [], []), ((0, 24), [], []), ((0, 3), [], []), ((0, 4), [(3, -1), (2, -1), (1, -1), (0, -1)], []), ((0, 4), [], []), ((0, 160), [], []), ((0, 44), [(43, 59), (42, 32), (41, 101), (40, 100), (39, 105), (38, 115), (37, 101), (36, 98), (35, 32), (34, 115), (33, 100), (32, 110), (31, 105), (30, 109), (29, 32), (28, 59), (27, 32), (26, 48), (25, 54), (24, 32), (23, 115), (22, 100), (21, 108), (20, 111), (19, 104), (18, 32), (17, 59), (16, 32), (15, 115), (14, 115), (13, 111), (12, 114), (11, 99), (10, 97), (9, 32), (8, 45), (7, 32), (6, 53), (5, 32), (4, 115), (3, 110), (2, 97), (1, 101), (0, 108)], []), ((0, 96), [(95, 32), (94, 32), (93, 32), (92, 32), (91, 32), (90, 116), (89, 111), (88, 110), (87, 32), (86, 32), (85, 32), (84, 32), (83, 32), (82, 100), (81, 110), (80, 97), (79, 32), (78, 32), (77, 32), (76, 32), (75, 32), (74, 32), (73, 114), (72, 111), (71, 32), (70, 32), (69, 32), (68, 32), (67, 101), (66, 114), (65, 111), (64, 109), (63, 32), (62, 115), (61, 114), (60, 101), (59, 107), (58, 111), (57, 111), (56, 108), (55, 32), (54, 32), (53, 32), (52, 32), (51, 32), (50, 121), (49, 97), (48, 100), (47, 32), (46, 32), (45, 101), (44, 100), (43, 105), (42, 115), (41, 101), (40, 98), (39, 32), (38, 32), (37, 115), (36, 115), (35, 111), (34, 114), (33, 99), (32, 97), (31, 32), (30, 32), (29, 32), (28, 32), (27, 110), (26, 97), (25, 101), (24, 108), (23, 32), (22, 32), (21, 32), (20, 115), (19, 100), (18, 110), (17, 105), (16, 109), (15, 32), (14, 32), (13, 32), (12, 115), (11, 100), (10, 108), (9, 111), (8, 104), (7, 32), (6, 32), (5, 32), (4, 115), (3, 110), (2, 97), (1, 101), (0, 108)], [])]
def hm_172 : List e_cl := [((21, 35), [], [(22, 89), (17, 88), (16, 87), (15, 86), (14, 85), (13, 84), (12, 83), (8, 82), (7, 81), (5, 80), (3, 79), (2, 78), (1, 77)]), ((0, 6), [], []), ((0, 6), [], []), ((0, 24), [], []), ((0, 160), [], []), ((0, 1200), [], []), ((0, 24), [], []), ((0, 24), [], []), ((0, 3), [], []), ((0, 4), [(3, -1), (2, -1), (1, -1), (0, -1)], []), ((0, 4), [], []), ((0, 160), [], []), ((0, 44), [(43, 59), (42, 32), (41, 101), (40, 100), (39, 105), (38, 115), (37, 101), (36, 98), (35, 32), (34, 115), (33, 100), (32, 110), (31, 105), (30, 109), (29, 32), (28, 59), (27, 32), (26, 48), (25, 54), (24, 32), (23, 115), (22, 100), (21, 108), (20, 111), (19, 104), (18, 32), (17, 59), (16, 32), (15, 115), (14, 115), (13, 111), (12, 114), (11, 99), (10, 97), (9, 32), (8, 45), (7, 32), (6, 53), (5, 32), (4, 115), (3, 110), (2, 97), (1, 101), (0, 108)], []), ((0, 96), [(95, 32), (94, 32), (93, 32), (92, 32), (91, 32), (90, 116), (89, 111), (88, 110), (87, 32), (86, 32), (85, 32), (84, 32), (83, 32), (82, 100), (81, 110), (80, 97), (79, 32), (78, 32), (77, 32), (76, 32), (75, 32), (74, 32), (73, 114), (72, 111), (71, 32), (70, 32), (69, 32), (68, 32), (67, 101), (66, 114), (65, 111), (64, 109), (63, 32), (62, 115), (61, 114), (60, 101), (59, 107), (58, 111), (57, 111), (56, 108), (55, 32), (54, 32), (53, 32), (52, 32), (51, 32), (50, 121), (49, 97), (48, 100), (47, 32), (46, 32), (45, 101), (44, 100), (43, 105), (42, 115), (41, 101), (40, 98), (39, 32), (38, 32), (37, 115), (36, 115), (35, 111), (34, 114), (33, 99), (32, 97), (31, 32), (30, 32), (29, 32), (28, 32), (27, 110), (26, 97), (25, 101), (24, 108), (23, 32), (22, 32), (21, 32), (20, 115), (19, 100), (18, 110), (17, 105), (16, 109), (15, 32), (14, 32), (13, 32), (12, 115), (11, 100), (10, 108), (9, 111), (8, 104), (7, 32), (6, 32), (5, 32), (4, 115), (3, 110), (2, 97), (1, 101), (0, 108)], []), ((0, 200), [], [])]
def hm_173 : List e_cl := [((21, 35), [], [(23, 90), (22, 89), (17, 88), (16, 87), (15, 86), (14, 85), (13, 84), (12, 83), (8, 82), (7, 81), (5, 80), (3, 79), (2, 78), (1, 77)]), ((0, 6), [], []), ((0, 6), [], []), ((0, 24), [], []), ((0, 160), [], []), ((0, 1200), [], []), ((0, 24), [], []), ((0, 24), [], []), ((0, 3), [], []), ((0, 4), [(3, -1), (2, -1), (1, -1), (0, -1)], []), ((0, 4), [], []), ((0, 160), [], []), ((0, 44), [(43, 59), (42, 32), (41, 101), (40, 100), (39, 105), (38, 115), (37, 101), (36, 98), (35, 32), (34, 115), (33, 100), (32, 110), (31, 105), (30, 109), (29, 32), (28, 59), (27, 32), (26, 48), (25, 54), (24, 32), (23, 115), (22, 100), (21, 108), (20, 111), (19, 104), (18, 32), (17, 59), (16, 32), (15, 115), (14, 115), (13, 111), (12, 114), (11, 99), (10, 97), (9, 32), (8, 45), (7, 32), (6, 53), (5, 32), (4, 115), (3, 110), (2, 97), (1, 101), (0, 108)], []), ((0, 96), [(95, 32), (94, 32), (93, 32), (92, 32), (91, 32), (90, 116), (89, 111), (88, 110), (87, 32), (86, 32), (85, 32), (84, 32), (83, 32), (82, 100), (81, 110), (80, 97), (79, 32), (78, 32), (77, 32), (76, 32), (75, 32), (74, 32), (73, 114), (72, 111), (71, 32), (70, 32), (69, 32), (68, 32), (67, 101), (66, 114), (65, 111), (64, 109), (63, 32), (62, 115), (61, 114), (60, 101), (59, 107), (58, 111), (57, 111), (56, 108), (55, 32), (54, 32), (53, 32), (52, 32), (51, 32), (50, 121), (49, 97), (48, 100), (47, 32), (46, 32), (45, 101), (44, 100), (43, 105), (42, 115), (41, 101), (40, 98), (39, 32), (38, 32), (37, 115), (36, 115), (35, 111), (34, 114), (33, 99), (32, 97), (31, 32), (30, 32), (29, 32), (28, 32), (27, 110), (26, 97), (25, 101), (24, 108), (23, 32), (22, 32), (21, 32), (20, 115), (19, 100), (18, 110), (17, 105), (16, 109), (15, 32), (14, 32), (13, 32), (12, 115), (11, 100), (10, 108), (9, 111), (8, 104), (7, 32), (6, 32), (5, 32), (4, 115), (3, 110), (2, 97), (1, 101), (0, 108)], []), ((0, 200), [], [])]
def hm_174 : List e_cl := [((21, 35), [], [(23, 90), (22, 89), (17, 88), (16, 87), (15, 86), (14, 85), (13, 84), (12, 83), (8, 82), (7, 81), (5, 80), (3, 79), (2, 78), (1, 77)]), ((0, 6), [], []), ((0, 6), [], []), ((0, 24), [], []), ((0, 160), [], []), ((0, 1200), [], []), ((0, 24), [], []), ((0, 24), [], []), ((0, 3), [], []), ((0, 4), [(3, -1), (2, -1), (1, -1), (0, -1)], []), ((0, 4), [], []), ((0, 160), [], []), ((0, 44), [(43, 59), (42, 32), (41, 101), (40, 100), (39, 105), (38, 115), (37, 101), (36, 98), (35, 32), (34, 115), (33, 100), (32, 110), (31, 105), (30, 109), (29, 32), (28, 59), (27, 32), (26, 48), (25, 54), (24, 32), (23, 115), (22, 100), (21, 108), (20, 111), (19, 104), (18, 32), (17, 59), (16, 32), (15, 115), (14, 115), (13, 111), (12, 114), (11, 99), (10, 97), (9, 32), (8, 45), (7, 32), (6, 53), (5, 32), (4, 115), (3, 110), (2, 97), (1, 101), (0, 108)], []), ((0, 96), [(95, 32), (94, 32), (93, 32), (92, 32), (91, 32), (90, 116), (89, 111), (88, 110), (87, 32), (86, 32), (85, 32), (84, 32), (83, 32), (82, 100), (81, 110), (80, 97), (79, 32), (78, 32), (77, 32), (76, 32), (75, 32), (74, 32), (73, 114), (72, 111), (71, 32), (70, 32), (69, 32), (68, 32), (67, 101), (66, 114), (65, 111), (64, 109), (63, 32), (62, 115), (61, 114), (60, 101), (59, 107), (58, 111), (57, 111), (56, 108), (55, 32), (54, 32), (53, 32), (52, 32), (51, 32), (50, 121), (49, 97), (48, 100), (47, 32), (46, 32), (45, 101), (44, 100), (43, 105), (42, 115), (41, 101), (40, 98), (39, 32), (38, 32), (37, 115), (36, 115), (35, 111), (34, 114), (33, 99), (32, 97), (31, 32), (30, 32), (29, 32), (28, 32), (27, 110), (26, 97), (25, 101), (24, 108), (23, 32), (22, 32), (21, 32), (20, 115), (19, 100), (18, 110), (17, 105), (16, 109), (15, 32), (14, 32), (13, 32), (12, 115), (11, 100), (10, 108), (9, 111), (8, 104), (7, 32), (6, 32), (5, 32), (4, 115), (3, 110), (2, 97), (1, 101), (0, 108)], []), ((0, 200), [], []), ((0, 200), [], [])]
def hm_175 : List e_cl := [((21, 35), [], [(27, 91), (23, 90), (22, 89), (17, 88), (16, 87), (15, 86), (14, 85), (13, 84), (12, 83), (8, 82), (7, 81), (5, 80), (3, 79), (2, 78), (1, 77)]), ((0, 6), [], []), ((0, 6), [], []), ((0, 24), [], []), ((0, 160), [], []), ((0, 1200), [], []), ((0, 24), [], []), ((0, 24), [], []), ((0, 3), [], []), ((0, 4), [(3, -1), (2, -1), (1, -1), (0, -1)], []), ((0, 4), [], []), ((0, 160), [], []), ((0, 44), [(43, 59), (42, 32), (41, 101), (40, 100), (39, 105), (38, 115), (37, 101), (36, 98), (35, 32), (34, 115), (33, 100), (32, 110), (31, 105), (30, 109), (29, 32), (28, 59), (27, 32), (26, 48), (25, 54), (24, 32), (23, 115), (22, 100), (21, 108), (20, 111), (19, 104), (18, 32), (17, 59), (16, 32), (15, 115), (14, 115), (13, 111), (12, 114), (11, 99), (10, 97), (9, 32), (8, 45), (7, 32), (6, 53), (5, 32), (4, 115), (3, 110), (2, 97), (1, 101), (0, 108)], []), ((0, 96), [(95, 32), (94, 32), (93, 32), (92, 32), (91, 32), (90, 116), (89, 111), (88, 110), (87, 32), (86, 32), (85, 32), (84, 32), (83, 32), (82, 100), (81, 110), (80, 97), (79, 32), (78, 32), (77, 32), (76, 32), (75, 32), (74, 32), (73, 114), (72, 111), (71, 32), (70, 32), (69, 32), (68, 32), (67, 101), (66, 114), (65, 111), (64, 109), (63, 32), (62, 115), (61, 114), (60, 101), (59, 107), (58, 111), (57, 111), (56, 108), (55, 32), (54, 32), (53, 32), (52, 32), (51, 32), (50, 121), (49, 97), (48, 100), (47, 32), (46, 32), (45, 101), (44, 100), (43, 105), (42, 115), (41, 101), (40, 98), (39, 32), (38, 32), (37, 115), (36, 115), (35, 111), (34, 114), (33, 99), (32, 97), (31, 32), (30, 32), (29, 32), (28, 32), (27, 110), (26, 97), (25, 101), (24, 108), (23, 32), (22, 32), (21, 32), (20, 115), (19, 100), (18, 110), (17, 105), (16, 109), (15, 32), (14, 32), (13, 32), (12, 115), (11, 100), (10, 108), (9, 111), (8, 104), (7, 32), (6, 32), (5, 32), (4, 115), (3, 110), (2, 97), (1, 101), (0, 108)], []), ((0, 200), [], []), ((0, 200), [], [])]
def hm_176 : List e_cl := [((21, 35), [], [(27, 91), (23, 90), (22, 89), (17, 88), (16, 87), (15, 86), (14, 85), (13, 84), (12, 83), (8, 82), (7, 81), (5, 80), (3, 79), (2, 78), (1, 77)]), ((0, 6), [], []), ((0, 6), [], []), ((0, 24), [], []), ((0, 160), [], []), ((0, 1200), [], []), ((0, 24), [], []), ((0, 24), [], []), ((0, 3), [], []), ((0, 4), [(3, -1), (2, -1), (1, -1), (0, -1)], []), ((0, 4), [], []), ((0, 160), [], []), ((0, 44), [(43, 59), (42, 32), (41, 101), (40, 100), (39, 105), (38, 115), (37, 101), (36, 98), (35, 32), (34, 115), (33, 100), (32, 110), (31, 105), (30, 109), (29, 32), (28, 59), (27, 32), (26, 48), (25, 54), (24, 32), (23, 115), (22, 100), (21, 108), (20, 111), (19, 104), (18, 32), (17, 59), (16, 32), (15, 115), (14, 115), (13, 111), (12, 114), (11, 99), (10, 97), (9, 32), (8, 45), (7, 32), (6, 53), (5, 32), (4, 115), (3, 110), (2, 97), (1, 101), (0, 108)], []), ((0, 96), [(95, 32), (94, 32), (93, 32), (92, 32), (91, 32), (90, 116), (89, 111), (88, 110), (87, 32), (86, 32), (85, 32), (84, 32), (83, 32), (82, 100), (81, 110), (80, 97), (79, 32), (78, 32), (77, 32), (76, 32), (75, 32), (74, 32), (73, 114), (72, 111), (71, 32), (70, 32), (69, 32), (68, 32), (67, 101), (66, 114), (65, 111), (64, 109), (63, 32), (62, 115), (61, 114), (60, 101), (59, 107), (58, 111), (57, 111), (56, 108), (55, 32), (54, 32), (53, 32), (52, 32), (51, 32), (50, 121), (49, 97), (48, 100), (47, 32), (46, 32), (45, 101), (44, 100), (43, 105), (42, 115), (41, 101), (40, 98), (39, 32), (38, 32), (37, 115), (36, 115), (35, 111), (34, 114), (33, 99), (32, 97), (31, 32), (30, 32), (29, 32), (28, 32), (27, 110), (26, 97), (25, 101), (24, 108), (23, 32), (22, 32), (21, 32), (20, 115), (19, 100), (18, 110), (17, 105), (16, 109), (15, 32), (14, 32), (13, 32), (12, 115), (11, 100), (10, 108), (9, 111), (8, 104), (7, 32), (6, 32), (5, 32), (4, 115), (3, 110), (2, 97), (1, 101), (0, 108)], []), ((0, 200), [], []), ((0, 200), [], []), ((0, 6), [], [])]
def hm_177 : List e_cl := [((21, 35), [], [(28, 92), (27, 91), (23, 90), (22, 89), (17, 88), (16, 87), (15, 86), (14, 85), (13, 84), (12, 83), (8, 82), (7, 81), (5, 80), (3, 79), (2, 78), (1, 77)]), ((0, 6), [], []), ((0, 6), [], []), ((0, 24), [], []), ((0, 160), [], []), ((0, 1200), [], []), ((0, 24), [], []), ((0, 24), [], []), ((0, 3), [], []), ((0, 4), [(3, -1), (2, -1), (1, -1), (0, -1)], []), ((0, 4), [], []), ((0, 160), [], []), ((0, 44), [(43, 59), (42, 32), (41, 101), (40, 100), (39, 105), (38, 115), (37, 101), (36, 98), (35, 32), (34, 115), (33, 100), (32, 110), (31, 105), (30, 109), (29, 32), (28, 59), (27, 32), (26, 48), (25, 54), (24, 32), (23, 115), (22, 100), (21, 108), (20, 111), (19, 104), (18, 32), (17, 59), (16, 32), (15, 115), (14, 115), (13, 111), (12, 114), (11, 99), (10, 97), (9, 32), (8, 45), (7, 32), (6, 53), (5, 32), (4, 115), (3, 110), (2, 97), (1, 101), (0, 108)], []), ((0, 96), [(95, 32), (94, 32), (93, 32), (92, 32), (91, 32), (90, 116), (89, 111), (88, 110), (87, 32), (86, 32), (85, 32), (84, 32), (83, 32), (82, 100), (81, 110), (80, 97), (79, 32), (78, 32), (77, 32), (76, 32), (75, 32), (74, 32), (73, 114), (72, 111), (71, 32), (70, 32), (69, 32), (68, 32), (67, 101), (66, 114), (65, 111), (64, 109), (63, 32), (62, 115), (61, 114), (60, 101), (59, 107), (58, 111), (57, 111), (56, 108), (55, 32), (54, 32), (53, 32), (52, 32), (51, 32), (50, 121), (49, 97), (48, 100), (47, 32), (46, 32), (45, 101), (44, 100), (43, 105), (42, 115), (41, 101), (40, 98), (39, 32), (38, 32), (37, 115), (36, 115), (35, 111), (34, 114), (33, 99), (32, 97), (31, 32), (30, 32), (29, 32), (28, 32), (27, 110), (26, 97), (25, 101), (24, 108), (23, 32), (22, 32), (21, 32), (20, 115), (19, 100), (18, 110), (17, 105), (16, 109), (15, 32), (14, 32), (13, 32), (12, 115), (11, 100), (10, 108), (9, 111), (8, 104), (7, 32), (6, 32), (5, 32), (4, 115), (3, 110), (2, 97), (1, 101), (0, 108)], []), ((0, 200), [], []), ((0, 200), [], []), ((0, 6), [], [])]
def hm_178 : List e_cl := [((21, 35), [], [(28, 92), (27, 91), (23, 90), (22, 89), (17, 88), (16, 87), (15, 86), (14, 85), (13, 84), (12, 83), (8, 82), (7, 81), (5, 80), (3, 79), (2, 78), (1, 77)]), ((0, 6), [], []), ((0, 6), [], []), ((0, 24), [], []), ((0, 160), [], []), ((0, 1200), [], []), ((0, 24), [], []), ((0, 24), [], []), ((0, 3), [], []), ((0, 4), [(3, -1), (2, -1), (1, -1), (0, -1)], []), ((0, 4), [], []), ((0, 160), [], []), ((0, 44), [(43, 59), (42, 32), (41, 101), (40, 100), (39, 105), (38, 115), (37, 101), (36, 98), (35, 32), (34, 115), (33, 100), (32, 110), (31, 105), (30, 109), (29, 32), (28, 59), (27, 32), (26, 48), (25, 54), (24, 32), (23, 115), (22, 100), (21, 108), (20, 111), (19, 104), (18, 32), (17, 59), (16, 32), (15, 115), (14, 115), (13, 111), (12, 114), (11, 99), (10, 97), (9, 32), (8, 45), (7, 32), (6, 53), (5, 32), (4, 115), (3, 110), (2, 97), (1, 101), (0, 108)], []), ((0, 96), [(95, 32), (94, 32), (93, 32), (92, 32), (91, 32), (90, 116), (89, 111), (88, 110), (87, 32), (86, 32), (85, 32), (84, 32), (83, 32), (82, 100), (81, 110), (80, 97), (79, 32), (78, 32), (77, 32), (76, 32), (75, 32), (74, 32), (73, 114), (72, 111), (71, 32), (70, 32), (69, 32), (68, 32), (67, 101), (66, 114), (65, 111), (64, 109), (63, 32), (62, 115), (61, 114), (60, 101), (59, 107), (58, 111), (57, 111), (56, 108), (55, 32), (54, 32), (53, 32), (52, 32), (51, 32), (50, 121), (49, 97), (48, 100), (47, 32), (46, 32), (45, 101), (44, 100), (43, 105), (42, 115), (41, 101), (40, 98), (39, 32), (38, 32), (37, 115), (36, 115), (35, 111), (34, 114), (33, 99), (32, 97), (31, 32), (30, 32), (29, 32), (28, 32), (27, 110), (26, 97), (25, 101), (24, 108), (23, 32), (22, 32), (21, 32), (20, 115), (19, 100), (18, 110), (17, 105), (16, 109), (15, 32), (14, 32), (13, 32), (12, 115), (11, 100), (10, 108), (9, 111), (8, 104), (7, 32), (6, 32), (5, 32), (4, 115), (3, 110), (2, 97), (1, 101), (0, 108)], []), ((0, 200), [], []), ((0, 200), [], []), ((0, 6), [], []), ((0, 25), [], [])]
def hm_179 : List e_cl := [((21, 35), [], [(29, 93), (28, 92), (27, 91), (23, 90), (22, 89), (17, 88), (16, 87), (15, 86), (14, 85), (13, 84), (12, 83), (8, 82), (7, 81), (5, 80), (3, 79), (2, 78), (1, 77)]), ((0, 6), [], []), ((0, 6), [], []), ((0, 24), [], []), ((0, 160), [], []), ((0, 1200), [], []), ((0, 24), [], []), ((0, 24), [], []), ((0, 3), [], []), ((0, 4), [(3, -1), (2, -1), (1, -1), (0, -1)], []), ((0, 4), [], []), ((0, 160), [], []), ((0, 44), [(43, 59), (42, 32), (41, 101), (40, 100), (39, 105), (38, 115), (37, 101), (36, 98), (35, 32), (34, 115), (33, 100), (32, 110), (31, 105), (30, 109), (29, 32), (28, 59), (27, 32), (26, 48), (25, 54), (24, 32), (23, 115), (22, 100), (21, 108), (20, 111), (19, 104), (18, 32), (17, 59), (16, 32), (15, 115), (14, 115), (13, 111), (12, 114), (11, 99), (10, 97), (9, 32), (8, 45), (7, 32), (6, 53), (5, 32), (4, 115), (3, 110), (2, 97), (1, 101), (0, 108)], []), ((0, 96), [(95, 32), (94, 32), (93, 32), (92, 32), (91, 32), (90, 116), (89, 111), (88, 110), (87, 32), (86, 32), (85, 32), (84, 32), (83, 32), (82, 100), (81, 110), (80, 97), (79, 32), (78, 32), (77, 32), (76, 32), (75, 32), (74, 32), (73, 114), (72, 111), (71, 32), (70, 32), (69, 32), (68, 32), (67, 101), (66, 114), (65, 111), (64, 109), (63, 32), (62, 115), (61, 114), (60, 101), (59, 107), (58, 111), (57, 111), (56, 108), (55, 32), (54, 32), (53, 32), (52, 32), (51, 32), (50, 121), (49, 97), (48, 100), (47, 32), (46, 32), (45, 101), (44, 100), (43, 105), (42, 115), (41, 101), (40, 98), (39, 32), (38, 32), (37, 115), (36, 115), (35, 111), (34, 114), (33, 99), (32, 97), (31, 32), (30, 32), (29, 32), (28, 32), (27, 110), (26, 97), (25, 101), (24, 108), (23, 32), (22, 32), (21, 32), (20, 115), (19, 100), (18, 110), (17, 105), (16, 109), (15, 32), (14, 32), (13, 32), (12, 115), (11, 100), (10, 108), (9, 111), (8, 104), (7, 32), (6, 32), (5, 32), (4, 115), (3, 110), (2, 97), (1, 101), (0, 108)], []), ((0, 200), [], []), ((0, 200), [], []), ((0, 6), [], []), ((0, 25), [], [])]
def hm_180 : List e_cl := [((21, 35), [], [(29, 93), (28, 92), (27, 91), (23, 90), (22, 89), (17, 88), (16, 87), (15, 86), (14, 85), (13, 84), (12, 83), (8, 82), (7, 81), (5, 80), (3, 79), (2, 78), (1, 77)]), ((0, 6), [], []), ((0, 6), [], []), ((0, 24), [], []), ((0, 160), [], []), ((0, 1200), [], []), ((0, 24), [], []), ((0, 24), [], []), ((0, 3), [], []), ((0, 4), [(3, -1), (2, -1), (1, -1), (0, -1)], []), ((0, 4), [], []), ((0, 160), [], []), ((0, 44), [(43, 59), (42, 32), (41, 101), (40, 100), (39, 105), (38, 115), (37, 101), (36, 98), (35, 32), (34, 115), (33, 100), (32, 110), (31, 105), (30, 109), (29, 32), (28, 59), (27, 32), (26, 48), (25, 54), (24, 32), (23, 115), (22, 100), (21, 108), (20, 111), (19, 104), (18, 32), (17, 59), (16, 32), (15, 115), (14, 115), (13, 111), (12, 114), (11, 99), (10, 97), (9, 32), (8, 45), (7, 32), (6, 53), (5, 32), (4, 115), (3, 110), (2, 97), (1, 101), (0, 108)], []), ((0, 96), [(95, 32), (94, 32), (93, 32), (92, 32), (91, 32), (90, 116), (89, 111), (88, 110), (87, 32), (86, 32), (85, 32), (84, 32), (83, 32), (82, 100), (81, 110), (80, 97), (79, 32), (78, 32), (77, 32), (76, 32), (75, 32), (74, 32), (73, 114), (72, 111), (71, 32), (70, 32), (69, 32), (68, 32), (67, 101), (66, 114), (65, 111), (64, 109), (63, 32), (62, 115), (61, 114), (60, 101), (59, 107), (58, 111), (57, 111), (56, 108), (55, 32), (54, 32), (53, 32), (52, 32), (51, 32), (50, 121), (49, 97), (48, 100), (47, 32), (46, 32), (45, 101), (44, 100), (43, 105), (42, 115), (41, 101), (40, 98), (39, 32), (38, 32), (37, 115), (36, 115), (35, 111), (34, 114), (33, 99), (32, 97), (31, 32), (30, 32), (29, 32), (28, 32), (27, 110), (26, 97), (25, 101), (24, 108), (23, 32), (22, 32), (21, 32), (20, 115), (19, 100), (18, 110), (17, 105), (16, 109), (15, 32), (14, 32), (13, 32), (12, 115), (11, 100), (10, 108), (9, 111), (8, 104), (7, 32), (6, 32), (5, 32), (4, 115), (3, 110), (2, 97), (1, 101), (0, 108)], []), ((0, 200), [], []), ((0, 200), [], []), ((0, 6), [], []), ((0, 25), [], []), ((0, 6), [], [])]
def hm_181 : List e_cl := [((21, 35), [], [(30, 94), (29, 93), (28, 92), (27, 91), (23, 90), (22, 89), (17, 88), (16, 87), (15, 86), (14, 85), (13, 84), (12, 83), (8, 82), (7, 81), (5, 80), (3, 79), (2, 78), (1, 77)]), ((0, 6), [], []), ((0, 6), [], []), ((0, 24), [], []), ((0, 160), [], []), ((0, 1200), [], []), ((0, 24), [], []), ((0, 24), [], []), ((0, 3), [], []), ((0, 4), [(3, -1), (2, -1), (1, -1), (0, -1)], []), ((0, 4), [], []), ((0, 160), [], []), ((0, 44), [(43, 59), (42, 32), (41, 101), (40, 100), (39, 105), (38, 115), (37, 101), (36, 98), (35, 32), (34, 115), (33, 100), (32, 110), (31, 105), (30, 109), (29, 32), (28, 59), (27, 32), (26, 48), (25, 54), (24, 32), (23, 115), (22, 100), (21, 108), (20, 111), (19, 104), (18, 32), (17, 59), (16, 32), (15, 115), (14, 115), (13, 111), (12, 114), (11, 99), (10, 97), (9, 32), (8, 45), (7, 32), (6, 53), (5, 32), (4, 115), (3, 110), (2, 97), (1, 101), (0, 108)], []), ((0, 96), [(95, 32), (94, 32), (93, 32), (92, 32), (91, 32), (90, 116), (89, 111), (88, 110), (87, 32), (86, 32), (85, 32), (84, 32), (83, 32), (82, 100), (81, 110), (80, 97), (79, 32), (78, 32), (77, 32), (76, 32), (75, 32), (74, 32), (73, 114), (72, 111), (71, 32), (70, 32), (69, 32), (68, 32), (67, 101), (66, 114), (65, 111), (64, 109), (63, 32), (62, 115), (61, 114), (60, 101), (59, 107), (58, 111), (57, 111), (56, 108), (55, 32), (54, 32), (53, 32), (52, 32), (51, 32), (50, 121), (49, 97), (48, 100), (47, 32), (46, 32), (45, 101), (44, 100), (43, 105), (42, 115), (41, 101), (40, 98), (39, 32), (38, 32), (37, 115), (36, 115), (35, 111), (34, 114), (33, 99), (32, 97), (31, 32), (30, 32), (29, 32), (28, 32), (27, 110), (26, 97), (25, 101), (24, 108), (23, 32), (22, 32), (21, 32), (20, 115), (19, 100), (18, 110), (17, 105), (16, 109), (15, 32), (14, 32), (13, 32), (12, 115), (11, 100), (10, 108), (9, 111), (8, 104), (7, 32), (6, 32), (5, 32), (4, 115), (3, 110), (2, 97), (1, 101), (0, 108)], []), ((0, 200), [], []), ((0, 200), [], []), ((0, 6), [], []), ((0, 25), [], []), ((0, 6), [], [])]
def hm_182 : List e_cl := [((21, 35), [], [(30, 94), (29, 93), (28, 92), (27, 91), (23, 90), (22, 89), (17, 88), (16, 87), (15, 86), (14, 85), (13, 84), (12, 83), (8, 82), (7, 81), (5, 80), (3, 79), (2, 78), (1, 77)]), ((0, 6), [], []), ((0, 6), [], []), ((0, 24), [], []), ((0, 160), [], []), ((0, 1200), [], []), ((0, 24), [], []), ((0, 24), [], []), ((0, 3), [], []), ((0, 4), [(3, -1), (2, -1), (1, -1), (0, -1)], []), ((0, 4), [], []), ((0, 160), [], []), ((0, 44), [(43, 59), (42, 32), (41, 101), (40, 100), (39, 105), (38, 115), (37, 101), (36, 98), (35, 32), (34, 115), (33, 100), (32, 110), (31, 105), (30, 109), (29, 32), (28, 59), (27, 32), (26, 48), (25, 54), (24, 32), (23, 115), (22, 100), (21, 108), (20, 111), (19, 104), (18, 32), (17, 59), (16, 32), (15, 115), (14, 115), (13, 111), (12, 114), (11, 99), (10, 97), (9, 32), (8, 45), (7, 32), (6, 53), (5, 32), (4, 115), (3, 110), (2, 97), (1, 101), (0, 108)], []), ((0, 96), [(95, 32), (94, 32), (93, 32), (92, 32), (91, 32), (90, 116), (89, 111), (88, 110), (87, 32), (86, 32), (85, 32), (84, 32), (83, 32), (82, 100), (81, 110), (80, 97), (79, 32), (78, 32), (77, 32), (76, 32), (75, 32), (74, 32), (73, 114), (72, 111), (71, 32), (70, 32), (69, 32), (68, 32), (67, 101), (66, 114), (65, 111), (64, 109), (63, 32), (62, 115), (61, 114), (60, 101), (59, 107), (58, 111), (57, 111), (56, 108), (55, 32), (54, 32), (53, 32), (52, 32), (51, 32), (50, 121), (49, 97), (48, 100), (47, 32), (46, 32), (45, 101), (44, 100), (43, 105), (42, 115), (41, 101), (40, 98), (39, 32), (38, 32), (37, 115), (36, 115), (35, 111), (34, 114), (33, 99), (32, 97), (31, 32), (30, 32), (29, 32), (28, 32), (27, 110), (26, 97), (25, 101), (24, 108), (23, 32), (22, 32), (21, 32), (20, 115), (19, 100), (18, 110), (17, 105), (16, 109), (15, 32), (14, 32), (13, 32), (12, 115), (11, 100), (10, 108), (9, 111), (8, 104), (7, 32), (6, 32), (5, 32), (4, 115), (3, 110), (2, 97), (1, 101), (0, 108)], []), ((0, 200), [], []), ((0, 200), [], []), ((0, 6), [], []), ((0, 25), [], []), ((0, 6), [], []), ((0, 6), [], [])]
def hm_183 : List e_cl := [((21, 35), [], [(31, 95), (30, 94), (29, 93), (28, 92), (27, 91), (23, 90), (22, 89), (17, 88), (16, 87), (15, 86), (14, 85), (13, 84), (12, 83), (8, 82), (7, 81), (5, 80), (3, 79), (2, 78), (1, 77)]), ((0, 6), [], []), ((0, 6), [], []), ((0, 24), [], []), ((0, 160), [], []), ((0, 1200), [], []), ((0, 24), [], []), ((0, 24), [], []), ((0, 3), [], []), ((0, 4), [(3, -1), (2, -1), (1, -1), (0, -1)], []), ((0, 4), [], []), ((0, 160), [], []), ((0, 44), [(43, 59), (42, 32), (41, 101), (40, 100), (39, 105), (38, 115), (37, 101), (36, 98), (35, 32), (34, 115), (33, 100), (32, 110), (31, 105), (30, 109), (29, 32), (28, 59), (27, 32), (26, 48), (25, 54), (24, 32), (23, 115), (22, 100), (21, 108), (20, 111), (19, 104), (18, 32), (17, 59), (16, 32), (15, 115), (14, 115), (13, 111), (12, 114), (11, 99), (10, 97), (9, 32), (8, 45), (7, 32), (6, 53), (5, 32), (4, 115), (3, 110), (2, 97), (1, 101), (0, 108)], []), ((0, 96), [(95, 32), (94, 32), (93, 32), (92, 32), (91, 32), (90, 116), (89, 111), (88, 110), (87, 32), (86, 32), (85, 32), (84, 32), (83, 32), (82, 100), (81, 110), (80, 97), (79, 32), (78, 32), (77, 32), (76, 32), (75, 32), (74, 32), (73, 114), (72, 111), (71, 32), (70, 32), (69, 32), (68, 32), (67, 101), (66, 114), (65, 111), (64, 109), (63, 32), (62, 115), (61, 114), (60, 101), (59, 107), (58, 111), (57, 111), (56, 108), (55, 32), (54, 32), (53, 32), (52, 32), (51, 32), (50, 121), (49, 97), (48, 100), (47, 32), (46, 32), (45, 101), (44, 100), (43, 105), (42, 115), (41, 101), (40, 98), (39, 32), (38, 32), (37, 115), (36, 115), (35, 111), (34, 114), (33, 99), (32, 97), (31, 32), (30, 32), (29, 32), (28, 32), (27, 110), (26, 97), (25, 101), (24, 108), (23, 32), (22, 32), (21, 32), (20, 115), (19, 100), (18, 110), (17, 105), (16, 109), (15, 32), (14, 32), (13, 32), (12, 115), (11, 100), (10, 108), (9, 111), (8, 104), (7, 32), (6, 32), (5, 32), (4, 115), (3, 110), (2, 97), (1, 101), (0, 108)], []), ((0, 200), [], []), ((0, 200), [], []), ((0, 6), [], []), ((0, 25), [], []), ((0, 6), [], []), ((0, 6), [], [])]
def L_X11_init_1004 : Nat → e_S → Nat → Int32 → e_G → Option (e_G)
  | 0, _, _, _, _ => none
  | n + 1, S, l0, l1, g =>
  if (44 : Int32) ≤ l1 then
    (e_sI S g 11 l0 6 (44 : Int32)).bind fun g1 =>
    (f_X11_text S l0 g1).bind fun q4 =>
    some q4.2
  else
    (e_gR S g 11 l0 5).bind fun v5 =>
    (e_gR S g 11 l0 17).bind fun v7 =>
    (e_aI S g 0 v7 l1).bind fun v9 =>
    (e_aS S g 0 v5 l1 v9).bind fun g11 =>
    L_X11_init_1004 n S l0 (l1 + (1 : Int32)) g11
def J_X11_init_1002 (S : e_S) (l0 : Nat) (g : e_G) : Option (e_G) :=
  L_X11_init_1004 50000 S l0 (0 : Int32) g
theorem x_L_X11_init_1004 {l : Launch} {D : va_G} {S : e_S} {k : e_G} : ∀ (n : Nat) (l0 : Nat) (l1 : Int32) (g : e_G), L_X11_init_1004 n S l0 l1 g = some k → X l D (e_RR 6 19 2198) M_X11_init 0 0 1004 [(0, .ref l0), (1, .int l1)] [] (S, g) none (S, k) := by
  intro n
  induction n with
  | zero =>
    intro l0 l1 g hf
    cases hf
  | succ n ih =>
    intro l0 l1 g hf
    rw [L_X11_init_1004] at hf
    refine X.iload_n dX11_init_1004 rfl (j := 1) rfl ?_
    refine X.bipush dX11_init_1005 kB_44 ?_
    refine X.icmp_ge dX11_init_1007 (tgt := 1028) rfl (fun hc => ?_) (fun hc => ?_)
    · rw [if_pos hc] at hf
      refine X.aload_n dX11_init_1028 rfl (j := 0) rfl ?_
      refine X.bipush dX11_init_1029 kB_44 ?_
      obtain ⟨g1, h2, hf⟩ := ob hf
      refine Y.putI dX11_init_1031 fl_X11_67 rfl rfl rfl rfl h2 ?_
      refine X.aload_n dX11_init_1034 rfl (j := 0) rfl ?_
      obtain ⟨q4, h3, hf⟩ := ob hf
      refine Y.callV (av := []) (ci := 11) dX11_init_1035 (c_X11_text (l := l) (D := D) (w := q4.1) (k := q4.2) h3) cw_X11_71 (by decide) rfl mk_X11_text (o_X11_text (w := q4.1) (k := q4.2) h3) (e_R_ok (Nat.le_of_ble_eq_true rfl) (Nat.le_of_ble_eq_true rfl)) ⟨rfl, rfl⟩ (by simp [Value.category]) ?_
      refine X.pop dX11_init_1038 rfl ?_
      have e1 := Option.some.inj hf
      subst e1
      exact X.vret dX11_init_1039 rfl
    · rw [if_neg hc] at hf
      refine X.aload_n dX11_init_1010 rfl (j := 0) rfl ?_
      obtain ⟨v5, h6, hf⟩ := ob hf
      refine Y.getR dX11_init_1011 fl_X11_19 rfl h6 ?_
      refine X.iload_n dX11_init_1014 rfl (j := 1) rfl ?_
      refine X.aload_n dX11_init_1015 rfl (j := 0) rfl ?_
      obtain ⟨v7, h8, hf⟩ := ob hf
      refine Y.getR dX11_init_1016 fl_X11_43 rfl h8 ?_
      refine X.iload_n dX11_init_1019 rfl (j := 1) rfl ?_
      obtain ⟨v9, h10, hf⟩ := ob hf
      refine Y.iald dX11_init_1020 h10 ?_
      obtain ⟨g11, h12, hf⟩ := ob hf
      refine Y.iast dX11_init_1021 h12 ?_
      refine X.iinc (j := 1) dX11_init_1022 rfl (v := l1 + (1 : Int32)) (by rw [kI_1]) (Nat.le_of_ble_eq_true rfl) (lc' := [(1, .int (l1 + (1 : Int32))), (0, .ref l0)]) rfl ?_
      refine X.goto dX11_init_1025 (tgt := 1004) rfl ?_
      refine X.sub [1, 0] rfl ?_
      exact ih _ _ _ hf
theorem x_J_X11_init_1002 {l : Launch} {D : va_G} {S : e_S} {k : e_G} {l0 : Nat} {g : e_G} (hf : J_X11_init_1002 S l0 g = some k) : X l D (e_RR 6 19 2198) M_X11_init 0 0 1002 [(0, .ref l0)] [] (S, g) none (S, k) := by
  unfold J_X11_init_1002 at hf
  refine X.iconst dX11_init_1002 kI_0 ?_
  refine X.istore_n dX11_init_1003 rfl (Nat.le_of_ble_eq_true rfl) (lc' := [(1, .int (0 : Int32)), (0, .ref l0)]) rfl ?_
  refine X.sub [1, 0] rfl ?_
  exact x_L_X11_init_1004 50000 _ _ _ hf
theorem c_X11_init {l : Launch} {D : va_G} {S0 : e_S} {g0 k : e_G} (hn0 : S0.1 = 76) (hf : J_X11_init_1002 (e_of S0 g0 hm_183).1 76 (e_of S0 g0 hm_183).2 = some k) : CT l D (e_RR 6 19 2198) M_X11_init [.ref 76] (e_of S0 g0 hm_1) none ((e_of S0 g0 hm_183).1, k) := by
  refine CT.of (by decide +kernel) (Nat.le_of_ble_eq_true rfl) ?_
  show X l D (e_RR 6 19 2198) M_X11_init 19 2198 0 [(0, .ref 76)] [] (e_of S0 g0 hm_1) none _
  refine X.aload_n dX11_init_0 rfl (j := 0) rfl ?_
  refine X.objInit dX11_init_1 ww_913 ww_98 ww_obj ⟨Nat.le_of_ble_eq_true rfl, Nat.le_of_ble_eq_true rfl⟩ (by simp [Value.category]) ?_
  refine X.aload_n dX11_init_4 rfl (j := 0) rfl ?_
  refine X.bipush dX11_init_5 kB_6 ?_
  refine ZZ.newarr (at' := .int) (bc := 18) (bs := 2192) (kd := 0) (n0 := 77) (len := 6) dX11_init_7 (Or.inl ⟨rfl, rfl⟩) ww_156 (by decide) (by decide +kernel) (Nat.le_of_ble_eq_true rfl) (by rw [hn0]; decide +kernel) (by omega) rfl (cs' := hm_2) (by decide +kernel) ?_ rfl rfl
  refine Z.putF (i := 0) dX11_init_9 fl_X11_7 rfl rfl rfl rfl (by omega) (by decide +kernel) (by rw [hn0]; decide +kernel) (cs' := hm_3) (by decide +kernel) ?_
  refine X.aload_n dX11_init_12 rfl (j := 0) rfl ?_
  refine X.bipush dX11_init_13 kB_6 ?_
  refine ZZ.newarr (at' := .int) (bc := 17) (bs := 2186) (kd := 0) (n0 := 78) (len := 6) dX11_init_15 (Or.inl ⟨rfl, rfl⟩) ww_156 (by decide) (by decide +kernel) (Nat.le_of_ble_eq_true rfl) (by rw [hn0]; decide +kernel) (by omega) rfl (cs' := hm_4) (by decide +kernel) ?_ rfl rfl
  refine Z.putF (i := 0) dX11_init_17 fl_X11_13 rfl rfl rfl rfl (by omega) (by decide +kernel) (by rw [hn0]; decide +kernel) (cs' := hm_5) (by decide +kernel) ?_
  refine X.aload_n dX11_init_20 rfl (j := 0) rfl ?_
  refine X.bipush dX11_init_21 kB_24 ?_
  refine ZZ.newarr (at' := .int) (bc := 16) (bs := 2162) (kd := 0) (n0 := 79) (len := 24) dX11_init_23 (Or.inl ⟨rfl, rfl⟩) ww_156 (by decide) (by decide +kernel) (Nat.le_of_ble_eq_true rfl) (by rw [hn0]; decide +kernel) (by omega) rfl (cs' := hm_6) (by decide +kernel) ?_ rfl rfl
  refine Z.putF (i := 0) dX11_init_25 fl_X11_16 rfl rfl rfl rfl (by omega) (by decide +kernel) (by rw [hn0]; decide +kernel) (cs' := hm_7) (by decide +kernel) ?_
  refine X.aload_n dX11_init_28 rfl (j := 0) rfl ?_
  refine X.sipush dX11_init_29 kS_160 ?_
  refine ZZ.newarr (at' := .int) (bc := 15) (bs := 2002) (kd := 0) (n0 := 80) (len := 160) dX11_init_32 (Or.inl ⟨rfl, rfl⟩) ww_156 (by decide) (by decide +kernel) (Nat.le_of_ble_eq_true rfl) (by rw [hn0]; decide +kernel) (by omega) rfl (cs' := hm_8) (by decide +kernel) ?_ rfl rfl
  refine Z.putF (i := 0) dX11_init_34 fl_X11_19 rfl rfl rfl rfl (by omega) (by decide +kernel) (by rw [hn0]; decide +kernel) (cs' := hm_9) (by decide +kernel) ?_
  refine X.aload_n dX11_init_37 rfl (j := 0) rfl ?_
  refine X.sipush dX11_init_38 kS_1200 ?_
  refine ZZ.newarr (at' := .int) (bc := 14) (bs := 802) (kd := 0) (n0 := 81) (len := 1200) dX11_init_41 (Or.inl ⟨rfl, rfl⟩) ww_156 (by decide) (by decide +kernel) (Nat.le_of_ble_eq_true rfl) (by rw [hn0]; decide +kernel) (by omega) rfl (cs' := hm_10) (by decide +kernel) ?_ rfl rfl
  refine Z.putF (i := 0) dX11_init_43 fl_X11_22 rfl rfl rfl rfl (by omega) (by decide +kernel) (by rw [hn0]; decide +kernel) (cs' := hm_11) (by decide +kernel) ?_
  refine X.aload_n dX11_init_46 rfl (j := 0) rfl ?_
  refine X.bipush dX11_init_47 kB_24 ?_
  refine ZZ.newarr (at' := .int) (bc := 13) (bs := 778) (kd := 0) (n0 := 82) (len := 24) dX11_init_49 (Or.inl ⟨rfl, rfl⟩) ww_156 (by decide) (by decide +kernel) (Nat.le_of_ble_eq_true rfl) (by rw [hn0]; decide +kernel) (by omega) rfl (cs' := hm_12) (by decide +kernel) ?_ rfl rfl
  refine Z.putF (i := 0) dX11_init_51 fl_X11_25 rfl rfl rfl rfl (by omega) (by decide +kernel) (by rw [hn0]; decide +kernel) (cs' := hm_13) (by decide +kernel) ?_
  refine X.aload_n dX11_init_54 rfl (j := 0) rfl ?_
  refine X.bipush dX11_init_55 kB_24 ?_
  refine ZZ.newarr (at' := .int) (bc := 12) (bs := 754) (kd := 0) (n0 := 83) (len := 24) dX11_init_57 (Or.inl ⟨rfl, rfl⟩) ww_156 (by decide) (by decide +kernel) (Nat.le_of_ble_eq_true rfl) (by rw [hn0]; decide +kernel) (by omega) rfl (cs' := hm_14) (by decide +kernel) ?_ rfl rfl
  refine Z.putF (i := 0) dX11_init_59 fl_X11_28 rfl rfl rfl rfl (by omega) (by decide +kernel) (by rw [hn0]; decide +kernel) (cs' := hm_15) (by decide +kernel) ?_
  refine X.aload_n dX11_init_62 rfl (j := 0) rfl ?_
  refine X.iconst dX11_init_63 kI_3 ?_
  refine ZZ.newarr (at' := .int) (bc := 11) (bs := 751) (kd := 0) (n0 := 84) (len := 3) dX11_init_64 (Or.inl ⟨rfl, rfl⟩) ww_156 (by decide) (by decide +kernel) (Nat.le_of_ble_eq_true rfl) (by rw [hn0]; decide +kernel) (by omega) rfl (cs' := hm_16) (by decide +kernel) ?_ rfl rfl
  refine Z.putF (i := 0) dX11_init_66 fl_X11_31 rfl rfl rfl rfl (by omega) (by decide +kernel) (by rw [hn0]; decide +kernel) (cs' := hm_17) (by decide +kernel) ?_
  refine X.aload_n dX11_init_69 rfl (j := 0) rfl ?_
  refine X.iconst dX11_init_70 kI_4 ?_
  refine ZZ.newarr (at' := .int) (bc := 10) (bs := 747) (kd := 0) (n0 := 85) (len := 4) dX11_init_71 (Or.inl ⟨rfl, rfl⟩) ww_156 (by decide) (by decide +kernel) (Nat.le_of_ble_eq_true rfl) (by rw [hn0]; decide +kernel) (by omega) rfl (cs' := hm_18) (by decide +kernel) ?_ rfl rfl
  refine X.dup dX11_init_73 rfl ?_
  refine X.iconst dX11_init_74 kI_0 ?_
  refine X.iconst dX11_init_75 kI_m1 ?_
  refine Z.iast (i := 9) (len := 4) (jn := 0) dX11_init_76 (by omega) (by decide +kernel) (by decide +kernel) (by decide +kernel) (cs' := hm_19) (by decide +kernel) ?_
  refine X.dup dX11_init_77 rfl ?_
  refine X.iconst dX11_init_78 kI_1 ?_
  refine X.iconst dX11_init_79 kI_m1 ?_
  refine Z.iast (i := 9) (len := 4) (jn := 1) dX11_init_80 (by omega) (by decide +kernel) (by decide +kernel) (by decide +kernel) (cs' := hm_20) (by decide +kernel) ?_
  refine X.dup dX11_init_81 rfl ?_
  refine X.iconst dX11_init_82 kI_2 ?_
  refine X.iconst dX11_init_83 kI_m1 ?_
  refine Z.iast (i := 9) (len := 4) (jn := 2) dX11_init_84 (by omega) (by decide +kernel) (by decide +kernel) (by decide +kernel) (cs' := hm_21) (by decide +kernel) ?_
  refine X.dup dX11_init_85 rfl ?_
  refine X.iconst dX11_init_86 kI_3 ?_
  refine X.iconst dX11_init_87 kI_m1 ?_
  refine Z.iast (i := 9) (len := 4) (jn := 3) dX11_init_88 (by omega) (by decide +kernel) (by decide +kernel) (by decide +kernel) (cs' := hm_22) (by decide +kernel) ?_
  refine Z.putF (i := 0) dX11_init_89 fl_X11_34 rfl rfl rfl rfl (by omega) (by decide +kernel) (by rw [hn0]; decide +kernel) (cs' := hm_23) (by decide +kernel) ?_
  refine X.aload_n dX11_init_92 rfl (j := 0) rfl ?_
  refine X.iconst dX11_init_93 kI_4 ?_
  refine ZZ.newarr (at' := .int) (bc := 9) (bs := 743) (kd := 0) (n0 := 86) (len := 4) dX11_init_94 (Or.inl ⟨rfl, rfl⟩) ww_156 (by decide) (by decide +kernel) (Nat.le_of_ble_eq_true rfl) (by rw [hn0]; decide +kernel) (by omega) rfl (cs' := hm_24) (by decide +kernel) ?_ rfl rfl
  refine Z.putF (i := 0) dX11_init_96 fl_X11_37 rfl rfl rfl rfl (by omega) (by decide +kernel) (by rw [hn0]; decide +kernel) (cs' := hm_25) (by decide +kernel) ?_
  refine X.aload_n dX11_init_99 rfl (j := 0) rfl ?_
  refine X.sipush dX11_init_100 kS_160 ?_
  refine ZZ.newarr (at' := .int) (bc := 8) (bs := 583) (kd := 0) (n0 := 87) (len := 160) dX11_init_103 (Or.inl ⟨rfl, rfl⟩) ww_156 (by decide) (by decide +kernel) (Nat.le_of_ble_eq_true rfl) (by rw [hn0]; decide +kernel) (by omega) rfl (cs' := hm_26) (by decide +kernel) ?_ rfl rfl
  refine Z.putF (i := 0) dX11_init_105 fl_X11_40 rfl rfl rfl rfl (by omega) (by decide +kernel) (by rw [hn0]; decide +kernel) (cs' := hm_27) (by decide +kernel) ?_
  refine X.aload_n dX11_init_108 rfl (j := 0) rfl ?_
  refine X.bipush dX11_init_109 kB_44 ?_
  refine ZZ.newarr (at' := .int) (bc := 7) (bs := 539) (kd := 0) (n0 := 88) (len := 44) dX11_init_111 (Or.inl ⟨rfl, rfl⟩) ww_156 (by decide) (by decide +kernel) (Nat.le_of_ble_eq_true rfl) (by rw [hn0]; decide +kernel) (by omega) rfl (cs' := hm_28) (by decide +kernel) ?_ rfl rfl
  refine X.dup dX11_init_113 rfl ?_
  refine X.iconst dX11_init_114 kI_0 ?_
  refine X.bipush dX11_init_115 kB_108 ?_
  refine Z.iast (i := 12) (len := 44) (jn := 0) dX11_init_117 (by omega) (by decide +kernel) (by decide +kernel) (by decide +kernel) (cs' := hm_29) (by decide +kernel) ?_
  refine X.dup dX11_init_118 rfl ?_
  refine X.iconst dX11_init_119 kI_1 ?_
  refine X.bipush dX11_init_120 kB_101 ?_
  refine Z.iast (i := 12) (len := 44) (jn := 1) dX11_init_122 (by omega) (by decide +kernel) (by decide +kernel) (by decide +kernel) (cs' := hm_30) (by decide +kernel) ?_
  refine X.dup dX11_init_123 rfl ?_
  refine X.iconst dX11_init_124 kI_2 ?_
  refine X.bipush dX11_init_125 kB_97 ?_
  refine Z.iast (i := 12) (len := 44) (jn := 2) dX11_init_127 (by omega) (by decide +kernel) (by decide +kernel) (by decide +kernel) (cs' := hm_31) (by decide +kernel) ?_
  refine X.dup dX11_init_128 rfl ?_
  refine X.iconst dX11_init_129 kI_3 ?_
  refine X.bipush dX11_init_130 kB_110 ?_
  refine Z.iast (i := 12) (len := 44) (jn := 3) dX11_init_132 (by omega) (by decide +kernel) (by decide +kernel) (by decide +kernel) (cs' := hm_32) (by decide +kernel) ?_
  refine X.dup dX11_init_133 rfl ?_
  refine X.iconst dX11_init_134 kI_4 ?_
  refine X.bipush dX11_init_135 kB_115 ?_
  refine Z.iast (i := 12) (len := 44) (jn := 4) dX11_init_137 (by omega) (by decide +kernel) (by decide +kernel) (by decide +kernel) (cs' := hm_33) (by decide +kernel) ?_
  refine X.dup dX11_init_138 rfl ?_
  refine X.iconst dX11_init_139 kI_5 ?_
  refine X.bipush dX11_init_140 kB_32 ?_
  refine Z.iast (i := 12) (len := 44) (jn := 5) dX11_init_142 (by omega) (by decide +kernel) (by decide +kernel) (by decide +kernel) (cs' := hm_34) (by decide +kernel) ?_
  refine X.dup dX11_init_143 rfl ?_
  refine X.bipush dX11_init_144 kB_6 ?_
  refine X.bipush dX11_init_146 kB_53 ?_
  refine Z.iast (i := 12) (len := 44) (jn := 6) dX11_init_148 (by omega) (by decide +kernel) (by decide +kernel) (by decide +kernel) (cs' := hm_35) (by decide +kernel) ?_
  refine X.dup dX11_init_149 rfl ?_
  refine X.bipush dX11_init_150 kB_7 ?_
  refine X.bipush dX11_init_152 kB_32 ?_
  refine Z.iast (i := 12) (len := 44) (jn := 7) dX11_init_154 (by omega) (by decide +kernel) (by decide +kernel) (by decide +kernel) (cs' := hm_36) (by decide +kernel) ?_
  refine X.dup dX11_init_155 rfl ?_
  refine X.bipush dX11_init_156 kB_8 ?_
  refine X.bipush dX11_init_158 kB_45 ?_
  refine Z.iast (i := 12) (len := 44) (jn := 8) dX11_init_160 (by omega) (by decide +kernel) (by decide +kernel) (by decide +kernel) (cs' := hm_37) (by decide +kernel) ?_
  refine X.dup dX11_init_161 rfl ?_
  refine X.bipush dX11_init_162 kB_9 ?_
  refine X.bipush dX11_init_164 kB_32 ?_
  refine Z.iast (i := 12) (len := 44) (jn := 9) dX11_init_166 (by omega) (by decide +kernel) (by decide +kernel) (by decide +kernel) (cs' := hm_38) (by decide +kernel) ?_
  refine X.dup dX11_init_167 rfl ?_
  refine X.bipush dX11_init_168 kB_10 ?_
  refine X.bipush dX11_init_170 kB_97 ?_
  refine Z.iast (i := 12) (len := 44) (jn := 10) dX11_init_172 (by omega) (by decide +kernel) (by decide +kernel) (by decide +kernel) (cs' := hm_39) (by decide +kernel) ?_
  refine X.dup dX11_init_173 rfl ?_
  refine X.bipush dX11_init_174 kB_11 ?_
  refine X.bipush dX11_init_176 kB_99 ?_
  refine Z.iast (i := 12) (len := 44) (jn := 11) dX11_init_178 (by omega) (by decide +kernel) (by decide +kernel) (by decide +kernel) (cs' := hm_40) (by decide +kernel) ?_
  refine X.dup dX11_init_179 rfl ?_
  refine X.bipush dX11_init_180 kB_12 ?_
  refine X.bipush dX11_init_182 kB_114 ?_
  refine Z.iast (i := 12) (len := 44) (jn := 12) dX11_init_184 (by omega) (by decide +kernel) (by decide +kernel) (by decide +kernel) (cs' := hm_41) (by decide +kernel) ?_
  refine X.dup dX11_init_185 rfl ?_
  refine X.bipush dX11_init_186 kB_13 ?_
  refine X.bipush dX11_init_188 kB_111 ?_
  refine Z.iast (i := 12) (len := 44) (jn := 13) dX11_init_190 (by omega) (by decide +kernel) (by decide +kernel) (by decide +kernel) (cs' := hm_42) (by decide +kernel) ?_
  refine X.dup dX11_init_191 rfl ?_
  refine X.bipush dX11_init_192 kB_14 ?_
  refine X.bipush dX11_init_194 kB_115 ?_
  refine Z.iast (i := 12) (len := 44) (jn := 14) dX11_init_196 (by omega) (by decide +kernel) (by decide +kernel) (by decide +kernel) (cs' := hm_43) (by decide +kernel) ?_
  refine X.dup dX11_init_197 rfl ?_
  refine X.bipush dX11_init_198 kB_15 ?_
  refine X.bipush dX11_init_200 kB_115 ?_
  refine Z.iast (i := 12) (len := 44) (jn := 15) dX11_init_202 (by omega) (by decide +kernel) (by decide +kernel) (by decide +kernel) (cs' := hm_44) (by decide +kernel) ?_
  refine X.dup dX11_init_203 rfl ?_
  refine X.bipush dX11_init_204 kB_16 ?_
  refine X.bipush dX11_init_206 kB_32 ?_
  refine Z.iast (i := 12) (len := 44) (jn := 16) dX11_init_208 (by omega) (by decide +kernel) (by decide +kernel) (by decide +kernel) (cs' := hm_45) (by decide +kernel) ?_
  refine X.dup dX11_init_209 rfl ?_
  refine X.bipush dX11_init_210 kB_17 ?_
  refine X.bipush dX11_init_212 kB_59 ?_
  refine Z.iast (i := 12) (len := 44) (jn := 17) dX11_init_214 (by omega) (by decide +kernel) (by decide +kernel) (by decide +kernel) (cs' := hm_46) (by decide +kernel) ?_
  refine X.dup dX11_init_215 rfl ?_
  refine X.bipush dX11_init_216 kB_18 ?_
  refine X.bipush dX11_init_218 kB_32 ?_
  refine Z.iast (i := 12) (len := 44) (jn := 18) dX11_init_220 (by omega) (by decide +kernel) (by decide +kernel) (by decide +kernel) (cs' := hm_47) (by decide +kernel) ?_
  refine X.dup dX11_init_221 rfl ?_
  refine X.bipush dX11_init_222 kB_19 ?_
  refine X.bipush dX11_init_224 kB_104 ?_
  refine Z.iast (i := 12) (len := 44) (jn := 19) dX11_init_226 (by omega) (by decide +kernel) (by decide +kernel) (by decide +kernel) (cs' := hm_48) (by decide +kernel) ?_
  refine X.dup dX11_init_227 rfl ?_
  refine X.bipush dX11_init_228 kB_20 ?_
  refine X.bipush dX11_init_230 kB_111 ?_
  refine Z.iast (i := 12) (len := 44) (jn := 20) dX11_init_232 (by omega) (by decide +kernel) (by decide +kernel) (by decide +kernel) (cs' := hm_49) (by decide +kernel) ?_
  refine X.dup dX11_init_233 rfl ?_
  refine X.bipush dX11_init_234 kB_21 ?_
  refine X.bipush dX11_init_236 kB_108 ?_
  refine Z.iast (i := 12) (len := 44) (jn := 21) dX11_init_238 (by omega) (by decide +kernel) (by decide +kernel) (by decide +kernel) (cs' := hm_50) (by decide +kernel) ?_
  refine X.dup dX11_init_239 rfl ?_
  refine X.bipush dX11_init_240 kB_22 ?_
  refine X.bipush dX11_init_242 kB_100 ?_
  refine Z.iast (i := 12) (len := 44) (jn := 22) dX11_init_244 (by omega) (by decide +kernel) (by decide +kernel) (by decide +kernel) (cs' := hm_51) (by decide +kernel) ?_
  refine X.dup dX11_init_245 rfl ?_
  refine X.bipush dX11_init_246 kB_23 ?_
  refine X.bipush dX11_init_248 kB_115 ?_
  refine Z.iast (i := 12) (len := 44) (jn := 23) dX11_init_250 (by omega) (by decide +kernel) (by decide +kernel) (by decide +kernel) (cs' := hm_52) (by decide +kernel) ?_
  refine X.dup dX11_init_251 rfl ?_
  refine X.bipush dX11_init_252 kB_24 ?_
  refine X.bipush dX11_init_254 kB_32 ?_
  refine Z.iast (i := 12) (len := 44) (jn := 24) dX11_init_256 (by omega) (by decide +kernel) (by decide +kernel) (by decide +kernel) (cs' := hm_53) (by decide +kernel) ?_
  refine X.dup dX11_init_257 rfl ?_
  refine X.bipush dX11_init_258 kB_25 ?_
  refine X.bipush dX11_init_260 kB_54 ?_
  refine Z.iast (i := 12) (len := 44) (jn := 25) dX11_init_262 (by omega) (by decide +kernel) (by decide +kernel) (by decide +kernel) (cs' := hm_54) (by decide +kernel) ?_
  refine X.dup dX11_init_263 rfl ?_
  refine X.bipush dX11_init_264 kB_26 ?_
  refine X.bipush dX11_init_266 kB_48 ?_
  refine Z.iast (i := 12) (len := 44) (jn := 26) dX11_init_268 (by omega) (by decide +kernel) (by decide +kernel) (by decide +kernel) (cs' := hm_55) (by decide +kernel) ?_
  refine X.dup dX11_init_269 rfl ?_
  refine X.bipush dX11_init_270 kB_27 ?_
  refine X.bipush dX11_init_272 kB_32 ?_
  refine Z.iast (i := 12) (len := 44) (jn := 27) dX11_init_274 (by omega) (by decide +kernel) (by decide +kernel) (by decide +kernel) (cs' := hm_56) (by decide +kernel) ?_
  refine X.dup dX11_init_275 rfl ?_
  refine X.bipush dX11_init_276 kB_28 ?_
  refine X.bipush dX11_init_278 kB_59 ?_
  refine Z.iast (i := 12) (len := 44) (jn := 28) dX11_init_280 (by omega) (by decide +kernel) (by decide +kernel) (by decide +kernel) (cs' := hm_57) (by decide +kernel) ?_
  refine X.dup dX11_init_281 rfl ?_
  refine X.bipush dX11_init_282 kB_29 ?_
  refine X.bipush dX11_init_284 kB_32 ?_
  refine Z.iast (i := 12) (len := 44) (jn := 29) dX11_init_286 (by omega) (by decide +kernel) (by decide +kernel) (by decide +kernel) (cs' := hm_58) (by decide +kernel) ?_
  refine X.dup dX11_init_287 rfl ?_
  refine X.bipush dX11_init_288 kB_30 ?_
  refine X.bipush dX11_init_290 kB_109 ?_
  refine Z.iast (i := 12) (len := 44) (jn := 30) dX11_init_292 (by omega) (by decide +kernel) (by decide +kernel) (by decide +kernel) (cs' := hm_59) (by decide +kernel) ?_
  refine X.dup dX11_init_293 rfl ?_
  refine X.bipush dX11_init_294 kB_31 ?_
  refine X.bipush dX11_init_296 kB_105 ?_
  refine Z.iast (i := 12) (len := 44) (jn := 31) dX11_init_298 (by omega) (by decide +kernel) (by decide +kernel) (by decide +kernel) (cs' := hm_60) (by decide +kernel) ?_
  refine X.dup dX11_init_299 rfl ?_
  refine X.bipush dX11_init_300 kB_32 ?_
  refine X.bipush dX11_init_302 kB_110 ?_
  refine Z.iast (i := 12) (len := 44) (jn := 32) dX11_init_304 (by omega) (by decide +kernel) (by decide +kernel) (by decide +kernel) (cs' := hm_61) (by decide +kernel) ?_
  refine X.dup dX11_init_305 rfl ?_
  refine X.bipush dX11_init_306 kB_33 ?_
  refine X.bipush dX11_init_308 kB_100 ?_
  refine Z.iast (i := 12) (len := 44) (jn := 33) dX11_init_310 (by omega) (by decide +kernel) (by decide +kernel) (by decide +kernel) (cs' := hm_62) (by decide +kernel) ?_
  refine X.dup dX11_init_311 rfl ?_
  refine X.bipush dX11_init_312 kB_34 ?_
  refine X.bipush dX11_init_314 kB_115 ?_
  refine Z.iast (i := 12) (len := 44) (jn := 34) dX11_init_316 (by omega) (by decide +kernel) (by decide +kernel) (by decide +kernel) (cs' := hm_63) (by decide +kernel) ?_
  refine X.dup dX11_init_317 rfl ?_
  refine X.bipush dX11_init_318 kB_35 ?_
  refine X.bipush dX11_init_320 kB_32 ?_
  refine Z.iast (i := 12) (len := 44) (jn := 35) dX11_init_322 (by omega) (by decide +kernel) (by decide +kernel) (by decide +kernel) (cs' := hm_64) (by decide +kernel) ?_
  refine X.dup dX11_init_323 rfl ?_
  refine X.bipush dX11_init_324 kB_36 ?_
  refine X.bipush dX11_init_326 kB_98 ?_
  refine Z.iast (i := 12) (len := 44) (jn := 36) dX11_init_328 (by omega) (by decide +kernel) (by decide +kernel) (by decide +kernel) (cs' := hm_65) (by decide +kernel) ?_
  refine X.dup dX11_init_329 rfl ?_
  refine X.bipush dX11_init_330 kB_37 ?_
  refine X.bipush dX11_init_332 kB_101 ?_
  refine Z.iast (i := 12) (len := 44) (jn := 37) dX11_init_334 (by omega) (by decide +kernel) (by decide +kernel) (by decide +kernel) (cs' := hm_66) (by decide +kernel) ?_
  refine X.dup dX11_init_335 rfl ?_
  refine X.bipush dX11_init_336 kB_38 ?_
  refine X.bipush dX11_init_338 kB_115 ?_
  refine Z.iast (i := 12) (len := 44) (jn := 38) dX11_init_340 (by omega) (by decide +kernel) (by decide +kernel) (by decide +kernel) (cs' := hm_67) (by decide +kernel) ?_
  refine X.dup dX11_init_341 rfl ?_
  refine X.bipush dX11_init_342 kB_39 ?_
  refine X.bipush dX11_init_344 kB_105 ?_
  refine Z.iast (i := 12) (len := 44) (jn := 39) dX11_init_346 (by omega) (by decide +kernel) (by decide +kernel) (by decide +kernel) (cs' := hm_68) (by decide +kernel) ?_
  refine X.dup dX11_init_347 rfl ?_
  refine X.bipush dX11_init_348 kB_40 ?_
  refine X.bipush dX11_init_350 kB_100 ?_
  refine Z.iast (i := 12) (len := 44) (jn := 40) dX11_init_352 (by omega) (by decide +kernel) (by decide +kernel) (by decide +kernel) (cs' := hm_69) (by decide +kernel) ?_
  refine X.dup dX11_init_353 rfl ?_
  refine X.bipush dX11_init_354 kB_41 ?_
  refine X.bipush dX11_init_356 kB_101 ?_
  refine Z.iast (i := 12) (len := 44) (jn := 41) dX11_init_358 (by omega) (by decide +kernel) (by decide +kernel) (by decide +kernel) (cs' := hm_70) (by decide +kernel) ?_
  refine X.dup dX11_init_359 rfl ?_
  refine X.bipush dX11_init_360 kB_42 ?_
  refine X.bipush dX11_init_362 kB_32 ?_
  refine Z.iast (i := 12) (len := 44) (jn := 42) dX11_init_364 (by omega) (by decide +kernel) (by decide +kernel) (by decide +kernel) (cs' := hm_71) (by decide +kernel) ?_
  refine X.dup dX11_init_365 rfl ?_
  refine X.bipush dX11_init_366 kB_43 ?_
  refine X.bipush dX11_init_368 kB_59 ?_
  refine Z.iast (i := 12) (len := 44) (jn := 43) dX11_init_370 (by omega) (by decide +kernel) (by decide +kernel) (by decide +kernel) (cs' := hm_72) (by decide +kernel) ?_
  refine Z.putF (i := 0) dX11_init_371 fl_X11_43 rfl rfl rfl rfl (by omega) (by decide +kernel) (by rw [hn0]; decide +kernel) (cs' := hm_73) (by decide +kernel) ?_
  refine X.aload_n dX11_init_374 rfl (j := 0) rfl ?_
  refine X.bipush dX11_init_375 kB_96 ?_
  refine ZZ.newarr (at' := .int) (bc := 6) (bs := 443) (kd := 0) (n0 := 89) (len := 96) dX11_init_377 (Or.inl ⟨rfl, rfl⟩) ww_156 (by decide) (by decide +kernel) (Nat.le_of_ble_eq_true rfl) (by rw [hn0]; decide +kernel) (by omega) rfl (cs' := hm_74) (by decide +kernel) ?_ rfl rfl
  refine X.dup dX11_init_379 rfl ?_
  refine X.iconst dX11_init_380 kI_0 ?_
  refine X.bipush dX11_init_381 kB_108 ?_
  refine Z.iast (i := 13) (len := 96) (jn := 0) dX11_init_383 (by omega) (by decide +kernel) (by decide +kernel) (by decide +kernel) (cs' := hm_75) (by decide +kernel) ?_
  refine X.dup dX11_init_384 rfl ?_
  refine X.iconst dX11_init_385 kI_1 ?_
  refine X.bipush dX11_init_386 kB_101 ?_
  refine Z.iast (i := 13) (len := 96) (jn := 1) dX11_init_388 (by omega) (by decide +kernel) (by decide +kernel) (by decide +kernel) (cs' := hm_76) (by decide +kernel) ?_
  refine X.dup dX11_init_389 rfl ?_
  refine X.iconst dX11_init_390 kI_2 ?_
  refine X.bipush dX11_init_391 kB_97 ?_
  refine Z.iast (i := 13) (len := 96) (jn := 2) dX11_init_393 (by omega) (by decide +kernel) (by decide +kernel) (by decide +kernel) (cs' := hm_77) (by decide +kernel) ?_
  refine X.dup dX11_init_394 rfl ?_
  refine X.iconst dX11_init_395 kI_3 ?_
  refine X.bipush dX11_init_396 kB_110 ?_
  refine Z.iast (i := 13) (len := 96) (jn := 3) dX11_init_398 (by omega) (by decide +kernel) (by decide +kernel) (by decide +kernel) (cs' := hm_78) (by decide +kernel) ?_
  refine X.dup dX11_init_399 rfl ?_
  refine X.iconst dX11_init_400 kI_4 ?_
  refine X.bipush dX11_init_401 kB_115 ?_
  refine Z.iast (i := 13) (len := 96) (jn := 4) dX11_init_403 (by omega) (by decide +kernel) (by decide +kernel) (by decide +kernel) (cs' := hm_79) (by decide +kernel) ?_
  refine X.dup dX11_init_404 rfl ?_
  refine X.iconst dX11_init_405 kI_5 ?_
  refine X.bipush dX11_init_406 kB_32 ?_
  refine Z.iast (i := 13) (len := 96) (jn := 5) dX11_init_408 (by omega) (by decide +kernel) (by decide +kernel) (by decide +kernel) (cs' := hm_80) (by decide +kernel) ?_
  refine X.dup dX11_init_409 rfl ?_
  refine X.bipush dX11_init_410 kB_6 ?_
  refine X.bipush dX11_init_412 kB_32 ?_
  refine Z.iast (i := 13) (len := 96) (jn := 6) dX11_init_414 (by omega) (by decide +kernel) (by decide +kernel) (by decide +kernel) (cs' := hm_81) (by decide +kernel) ?_
  refine X.dup dX11_init_415 rfl ?_
  refine X.bipush dX11_init_416 kB_7 ?_
  refine X.bipush dX11_init_418 kB_32 ?_
  refine Z.iast (i := 13) (len := 96) (jn := 7) dX11_init_420 (by omega) (by decide +kernel) (by decide +kernel) (by decide +kernel) (cs' := hm_82) (by decide +kernel) ?_
  refine X.dup dX11_init_421 rfl ?_
  refine X.bipush dX11_init_422 kB_8 ?_
  refine X.bipush dX11_init_424 kB_104 ?_
  refine Z.iast (i := 13) (len := 96) (jn := 8) dX11_init_426 (by omega) (by decide +kernel) (by decide +kernel) (by decide +kernel) (cs' := hm_83) (by decide +kernel) ?_
  refine X.dup dX11_init_427 rfl ?_
  refine X.bipush dX11_init_428 kB_9 ?_
  refine X.bipush dX11_init_430 kB_111 ?_
  refine Z.iast (i := 13) (len := 96) (jn := 9) dX11_init_432 (by omega) (by decide +kernel) (by decide +kernel) (by decide +kernel) (cs' := hm_84) (by decide +kernel) ?_
  refine X.dup dX11_init_433 rfl ?_
  refine X.bipush dX11_init_434 kB_10 ?_
  refine X.bipush dX11_init_436 kB_108 ?_
  refine Z.iast (i := 13) (len := 96) (jn := 10) dX11_init_438 (by omega) (by decide +kernel) (by decide +kernel) (by decide +kernel) (cs' := hm_85) (by decide +kernel) ?_
  refine X.dup dX11_init_439 rfl ?_
  refine X.bipush dX11_init_440 kB_11 ?_
  refine X.bipush dX11_init_442 kB_100 ?_
  refine Z.iast (i := 13) (len := 96) (jn := 11) dX11_init_444 (by omega) (by decide +kernel) (by decide +kernel) (by decide +kernel) (cs' := hm_86) (by decide +kernel) ?_
  refine X.dup dX11_init_445 rfl ?_
  refine X.bipush dX11_init_446 kB_12 ?_
  refine X.bipush dX11_init_448 kB_115 ?_
  refine Z.iast (i := 13) (len := 96) (jn := 12) dX11_init_450 (by omega) (by decide +kernel) (by decide +kernel) (by decide +kernel) (cs' := hm_87) (by decide +kernel) ?_
  refine X.dup dX11_init_451 rfl ?_
  refine X.bipush dX11_init_452 kB_13 ?_
  refine X.bipush dX11_init_454 kB_32 ?_
  refine Z.iast (i := 13) (len := 96) (jn := 13) dX11_init_456 (by omega) (by decide +kernel) (by decide +kernel) (by decide +kernel) (cs' := hm_88) (by decide +kernel) ?_
  refine X.dup dX11_init_457 rfl ?_
  refine X.bipush dX11_init_458 kB_14 ?_
  refine X.bipush dX11_init_460 kB_32 ?_
  refine Z.iast (i := 13) (len := 96) (jn := 14) dX11_init_462 (by omega) (by decide +kernel) (by decide +kernel) (by decide +kernel) (cs' := hm_89) (by decide +kernel) ?_
  refine X.dup dX11_init_463 rfl ?_
  refine X.bipush dX11_init_464 kB_15 ?_
  refine X.bipush dX11_init_466 kB_32 ?_
  refine Z.iast (i := 13) (len := 96) (jn := 15) dX11_init_468 (by omega) (by decide +kernel) (by decide +kernel) (by decide +kernel) (cs' := hm_90) (by decide +kernel) ?_
  refine X.dup dX11_init_469 rfl ?_
  refine X.bipush dX11_init_470 kB_16 ?_
  refine X.bipush dX11_init_472 kB_109 ?_
  refine Z.iast (i := 13) (len := 96) (jn := 16) dX11_init_474 (by omega) (by decide +kernel) (by decide +kernel) (by decide +kernel) (cs' := hm_91) (by decide +kernel) ?_
  refine X.dup dX11_init_475 rfl ?_
  refine X.bipush dX11_init_476 kB_17 ?_
  refine X.bipush dX11_init_478 kB_105 ?_
  refine Z.iast (i := 13) (len := 96) (jn := 17) dX11_init_480 (by omega) (by decide +kernel) (by decide +kernel) (by decide +kernel) (cs' := hm_92) (by decide +kernel) ?_
  refine X.dup dX11_init_481 rfl ?_
  refine X.bipush dX11_init_482 kB_18 ?_
  refine X.bipush dX11_init_484 kB_110 ?_
  refine Z.iast (i := 13) (len := 96) (jn := 18) dX11_init_486 (by omega) (by decide +kernel) (by decide +kernel) (by decide +kernel) (cs' := hm_93) (by decide +kernel) ?_
  refine X.dup dX11_init_487 rfl ?_
  refine X.bipush dX11_init_488 kB_19 ?_
  refine X.bipush dX11_init_490 kB_100 ?_
  refine Z.iast (i := 13) (len := 96) (jn := 19) dX11_init_492 (by omega) (by decide +kernel) (by decide +kernel) (by decide +kernel) (cs' := hm_94) (by decide +kernel) ?_
  refine X.dup dX11_init_493 rfl ?_
  refine X.bipush dX11_init_494 kB_20 ?_
  refine X.bipush dX11_init_496 kB_115 ?_
  refine Z.iast (i := 13) (len := 96) (jn := 20) dX11_init_498 (by omega) (by decide +kernel) (by decide +kernel) (by decide +kernel) (cs' := hm_95) (by decide +kernel) ?_
  refine X.dup dX11_init_499 rfl ?_
  refine X.bipush dX11_init_500 kB_21 ?_
  refine X.bipush dX11_init_502 kB_32 ?_
  refine Z.iast (i := 13) (len := 96) (jn := 21) dX11_init_504 (by omega) (by decide +kernel) (by decide +kernel) (by decide +kernel) (cs' := hm_96) (by decide +kernel) ?_
  refine X.dup dX11_init_505 rfl ?_
  refine X.bipush dX11_init_506 kB_22 ?_
  refine X.bipush dX11_init_508 kB_32 ?_
  refine Z.iast (i := 13) (len := 96) (jn := 22) dX11_init_510 (by omega) (by decide +kernel) (by decide +kernel) (by decide +kernel) (cs' := hm_97) (by decide +kernel) ?_
  refine X.dup dX11_init_511 rfl ?_
  refine X.bipush dX11_init_512 kB_23 ?_
  refine X.bipush dX11_init_514 kB_32 ?_
  refine Z.iast (i := 13) (len := 96) (jn := 23) dX11_init_516 (by omega) (by decide +kernel) (by decide +kernel) (by decide +kernel) (cs' := hm_98) (by decide +kernel) ?_
  refine X.dup dX11_init_517 rfl ?_
  refine X.bipush dX11_init_518 kB_24 ?_
  refine X.bipush dX11_init_520 kB_108 ?_
  refine Z.iast (i := 13) (len := 96) (jn := 24) dX11_init_522 (by omega) (by decide +kernel) (by decide +kernel) (by decide +kernel) (cs' := hm_99) (by decide +kernel) ?_
  refine X.dup dX11_init_523 rfl ?_
  refine X.bipush dX11_init_524 kB_25 ?_
  refine X.bipush dX11_init_526 kB_101 ?_
  refine Z.iast (i := 13) (len := 96) (jn := 25) dX11_init_528 (by omega) (by decide +kernel) (by decide +kernel) (by decide +kernel) (cs' := hm_100) (by decide +kernel) ?_
  refine X.dup dX11_init_529 rfl ?_
  refine X.bipush dX11_init_530 kB_26 ?_
  refine X.bipush dX11_init_532 kB_97 ?_
  refine Z.iast (i := 13) (len := 96) (jn := 26) dX11_init_534 (by omega) (by decide +kernel) (by decide +kernel) (by decide +kernel) (cs' := hm_101) (by decide +kernel) ?_
  refine X.dup dX11_init_535 rfl ?_
  refine X.bipush dX11_init_536 kB_27 ?_
  refine X.bipush dX11_init_538 kB_110 ?_
  refine Z.iast (i := 13) (len := 96) (jn := 27) dX11_init_540 (by omega) (by decide +kernel) (by decide +kernel) (by decide +kernel) (cs' := hm_102) (by decide +kernel) ?_
  refine X.dup dX11_init_541 rfl ?_
  refine X.bipush dX11_init_542 kB_28 ?_
  refine X.bipush dX11_init_544 kB_32 ?_
  refine Z.iast (i := 13) (len := 96) (jn := 28) dX11_init_546 (by omega) (by decide +kernel) (by decide +kernel) (by decide +kernel) (cs' := hm_103) (by decide +kernel) ?_
  refine X.dup dX11_init_547 rfl ?_
  refine X.bipush dX11_init_548 kB_29 ?_
  refine X.bipush dX11_init_550 kB_32 ?_
  refine Z.iast (i := 13) (len := 96) (jn := 29) dX11_init_552 (by omega) (by decide +kernel) (by decide +kernel) (by decide +kernel) (cs' := hm_104) (by decide +kernel) ?_
  refine X.dup dX11_init_553 rfl ?_
  refine X.bipush dX11_init_554 kB_30 ?_
  refine X.bipush dX11_init_556 kB_32 ?_
  refine Z.iast (i := 13) (len := 96) (jn := 30) dX11_init_558 (by omega) (by decide +kernel) (by decide +kernel) (by decide +kernel) (cs' := hm_105) (by decide +kernel) ?_
  refine X.dup dX11_init_559 rfl ?_
  refine X.bipush dX11_init_560 kB_31 ?_
  refine X.bipush dX11_init_562 kB_32 ?_
  refine Z.iast (i := 13) (len := 96) (jn := 31) dX11_init_564 (by omega) (by decide +kernel) (by decide +kernel) (by decide +kernel) (cs' := hm_106) (by decide +kernel) ?_
  refine X.dup dX11_init_565 rfl ?_
  refine X.bipush dX11_init_566 kB_32 ?_
  refine X.bipush dX11_init_568 kB_97 ?_
  refine Z.iast (i := 13) (len := 96) (jn := 32) dX11_init_570 (by omega) (by decide +kernel) (by decide +kernel) (by decide +kernel) (cs' := hm_107) (by decide +kernel) ?_
  refine X.dup dX11_init_571 rfl ?_
  refine X.bipush dX11_init_572 kB_33 ?_
  refine X.bipush dX11_init_574 kB_99 ?_
  refine Z.iast (i := 13) (len := 96) (jn := 33) dX11_init_576 (by omega) (by decide +kernel) (by decide +kernel) (by decide +kernel) (cs' := hm_108) (by decide +kernel) ?_
  refine X.dup dX11_init_577 rfl ?_
  refine X.bipush dX11_init_578 kB_34 ?_
  refine X.bipush dX11_init_580 kB_114 ?_
  refine Z.iast (i := 13) (len := 96) (jn := 34) dX11_init_582 (by omega) (by decide +kernel) (by decide +kernel) (by decide +kernel) (cs' := hm_109) (by decide +kernel) ?_
  refine X.dup dX11_init_583 rfl ?_
  refine X.bipush dX11_init_584 kB_35 ?_
  refine X.bipush dX11_init_586 kB_111 ?_
  refine Z.iast (i := 13) (len := 96) (jn := 35) dX11_init_588 (by omega) (by decide +kernel) (by decide +kernel) (by decide +kernel) (cs' := hm_110) (by decide +kernel) ?_
  refine X.dup dX11_init_589 rfl ?_
  refine X.bipush dX11_init_590 kB_36 ?_
  refine X.bipush dX11_init_592 kB_115 ?_
  refine Z.iast (i := 13) (len := 96) (jn := 36) dX11_init_594 (by omega) (by decide +kernel) (by decide +kernel) (by decide +kernel) (cs' := hm_111) (by decide +kernel) ?_
  refine X.dup dX11_init_595 rfl ?_
  refine X.bipush dX11_init_596 kB_37 ?_
  refine X.bipush dX11_init_598 kB_115 ?_
  refine Z.iast (i := 13) (len := 96) (jn := 37) dX11_init_600 (by omega) (by decide +kernel) (by decide +kernel) (by decide +kernel) (cs' := hm_112) (by decide +kernel) ?_
  refine X.dup dX11_init_601 rfl ?_
  refine X.bipush dX11_init_602 kB_38 ?_
  refine X.bipush dX11_init_604 kB_32 ?_
  refine Z.iast (i := 13) (len := 96) (jn := 38) dX11_init_606 (by omega) (by decide +kernel) (by decide +kernel) (by decide +kernel) (cs' := hm_113) (by decide +kernel) ?_
  refine X.dup dX11_init_607 rfl ?_
  refine X.bipush dX11_init_608 kB_39 ?_
  refine X.bipush dX11_init_610 kB_32 ?_
  refine Z.iast (i := 13) (len := 96) (jn := 39) dX11_init_612 (by omega) (by decide +kernel) (by decide +kernel) (by decide +kernel) (cs' := hm_114) (by decide +kernel) ?_
  refine X.dup dX11_init_613 rfl ?_
  refine X.bipush dX11_init_614 kB_40 ?_
  refine X.bipush dX11_init_616 kB_98 ?_
  refine Z.iast (i := 13) (len := 96) (jn := 40) dX11_init_618 (by omega) (by decide +kernel) (by decide +kernel) (by decide +kernel) (cs' := hm_115) (by decide +kernel) ?_
  refine X.dup dX11_init_619 rfl ?_
  refine X.bipush dX11_init_620 kB_41 ?_
  refine X.bipush dX11_init_622 kB_101 ?_
  refine Z.iast (i := 13) (len := 96) (jn := 41) dX11_init_624 (by omega) (by decide +kernel) (by decide +kernel) (by decide +kernel) (cs' := hm_116) (by decide +kernel) ?_
  refine X.dup dX11_init_625 rfl ?_
  refine X.bipush dX11_init_626 kB_42 ?_
  refine X.bipush dX11_init_628 kB_115 ?_
  refine Z.iast (i := 13) (len := 96) (jn := 42) dX11_init_630 (by omega) (by decide +kernel) (by decide +kernel) (by decide +kernel) (cs' := hm_117) (by decide +kernel) ?_
  refine X.dup dX11_init_631 rfl ?_
  refine X.bipush dX11_init_632 kB_43 ?_
  refine X.bipush dX11_init_634 kB_105 ?_
  refine Z.iast (i := 13) (len := 96) (jn := 43) dX11_init_636 (by omega) (by decide +kernel) (by decide +kernel) (by decide +kernel) (cs' := hm_118) (by decide +kernel) ?_
  refine X.dup dX11_init_637 rfl ?_
  refine X.bipush dX11_init_638 kB_44 ?_
  refine X.bipush dX11_init_640 kB_100 ?_
  refine Z.iast (i := 13) (len := 96) (jn := 44) dX11_init_642 (by omega) (by decide +kernel) (by decide +kernel) (by decide +kernel) (cs' := hm_119) (by decide +kernel) ?_
  refine X.dup dX11_init_643 rfl ?_
  refine X.bipush dX11_init_644 kB_45 ?_
  refine X.bipush dX11_init_646 kB_101 ?_
  refine Z.iast (i := 13) (len := 96) (jn := 45) dX11_init_648 (by omega) (by decide +kernel) (by decide +kernel) (by decide +kernel) (cs' := hm_120) (by decide +kernel) ?_
  refine X.dup dX11_init_649 rfl ?_
  refine X.bipush dX11_init_650 kB_46 ?_
  refine X.bipush dX11_init_652 kB_32 ?_
  refine Z.iast (i := 13) (len := 96) (jn := 46) dX11_init_654 (by omega) (by decide +kernel) (by decide +kernel) (by decide +kernel) (cs' := hm_121) (by decide +kernel) ?_
  refine X.dup dX11_init_655 rfl ?_
  refine X.bipush dX11_init_656 kB_47 ?_
  refine X.bipush dX11_init_658 kB_32 ?_
  refine Z.iast (i := 13) (len := 96) (jn := 47) dX11_init_660 (by omega) (by decide +kernel) (by decide +kernel) (by decide +kernel) (cs' := hm_122) (by decide +kernel) ?_
  refine X.dup dX11_init_661 rfl ?_
  refine X.bipush dX11_init_662 kB_48 ?_
  refine X.bipush dX11_init_664 kB_100 ?_
  refine Z.iast (i := 13) (len := 96) (jn := 48) dX11_init_666 (by omega) (by decide +kernel) (by decide +kernel) (by decide +kernel) (cs' := hm_123) (by decide +kernel) ?_
  refine X.dup dX11_init_667 rfl ?_
  refine X.bipush dX11_init_668 kB_49 ?_
  refine X.bipush dX11_init_670 kB_97 ?_
  refine Z.iast (i := 13) (len := 96) (jn := 49) dX11_init_672 (by omega) (by decide +kernel) (by decide +kernel) (by decide +kernel) (cs' := hm_124) (by decide +kernel) ?_
  refine X.dup dX11_init_673 rfl ?_
  refine X.bipush dX11_init_674 kB_50 ?_
  refine X.bipush dX11_init_676 kB_121 ?_
  refine Z.iast (i := 13) (len := 96) (jn := 50) dX11_init_678 (by omega) (by decide +kernel) (by decide +kernel) (by decide +kernel) (cs' := hm_125) (by decide +kernel) ?_
  refine X.dup dX11_init_679 rfl ?_
  refine X.bipush dX11_init_680 kB_51 ?_
  refine X.bipush dX11_init_682 kB_32 ?_
  refine Z.iast (i := 13) (len := 96) (jn := 51) dX11_init_684 (by omega) (by decide +kernel) (by decide +kernel) (by decide +kernel) (cs' := hm_126) (by decide +kernel) ?_
  refine X.dup dX11_init_685 rfl ?_
  refine X.bipush dX11_init_686 kB_52 ?_
  refine X.bipush dX11_init_688 kB_32 ?_
  refine Z.iast (i := 13) (len := 96) (jn := 52) dX11_init_690 (by omega) (by decide +kernel) (by decide +kernel) (by decide +kernel) (cs' := hm_127) (by decide +kernel) ?_
  refine X.dup dX11_init_691 rfl ?_
  refine X.bipush dX11_init_692 kB_53 ?_
  refine X.bipush dX11_init_694 kB_32 ?_
  refine Z.iast (i := 13) (len := 96) (jn := 53) dX11_init_696 (by omega) (by decide +kernel) (by decide +kernel) (by decide +kernel) (cs' := hm_128) (by decide +kernel) ?_
  refine X.dup dX11_init_697 rfl ?_
  refine X.bipush dX11_init_698 kB_54 ?_
  refine X.bipush dX11_init_700 kB_32 ?_
  refine Z.iast (i := 13) (len := 96) (jn := 54) dX11_init_702 (by omega) (by decide +kernel) (by decide +kernel) (by decide +kernel) (cs' := hm_129) (by decide +kernel) ?_
  refine X.dup dX11_init_703 rfl ?_
  refine X.bipush dX11_init_704 kB_55 ?_
  refine X.bipush dX11_init_706 kB_32 ?_
  refine Z.iast (i := 13) (len := 96) (jn := 55) dX11_init_708 (by omega) (by decide +kernel) (by decide +kernel) (by decide +kernel) (cs' := hm_130) (by decide +kernel) ?_
  refine X.dup dX11_init_709 rfl ?_
  refine X.bipush dX11_init_710 kB_56 ?_
  refine X.bipush dX11_init_712 kB_108 ?_
  refine Z.iast (i := 13) (len := 96) (jn := 56) dX11_init_714 (by omega) (by decide +kernel) (by decide +kernel) (by decide +kernel) (cs' := hm_131) (by decide +kernel) ?_
  refine X.dup dX11_init_715 rfl ?_
  refine X.bipush dX11_init_716 kB_57 ?_
  refine X.bipush dX11_init_718 kB_111 ?_
  refine Z.iast (i := 13) (len := 96) (jn := 57) dX11_init_720 (by omega) (by decide +kernel) (by decide +kernel) (by decide +kernel) (cs' := hm_132) (by decide +kernel) ?_
  refine X.dup dX11_init_721 rfl ?_
  refine X.bipush dX11_init_722 kB_58 ?_
  refine X.bipush dX11_init_724 kB_111 ?_
  refine Z.iast (i := 13) (len := 96) (jn := 58) dX11_init_726 (by omega) (by decide +kernel) (by decide +kernel) (by decide +kernel) (cs' := hm_133) (by decide +kernel) ?_
  refine X.dup dX11_init_727 rfl ?_
  refine X.bipush dX11_init_728 kB_59 ?_
  refine X.bipush dX11_init_730 kB_107 ?_
  refine Z.iast (i := 13) (len := 96) (jn := 59) dX11_init_732 (by omega) (by decide +kernel) (by decide +kernel) (by decide +kernel) (cs' := hm_134) (by decide +kernel) ?_
  refine X.dup dX11_init_733 rfl ?_
  refine X.bipush dX11_init_734 kB_60 ?_
  refine X.bipush dX11_init_736 kB_101 ?_
  refine Z.iast (i := 13) (len := 96) (jn := 60) dX11_init_738 (by omega) (by decide +kernel) (by decide +kernel) (by decide +kernel) (cs' := hm_135) (by decide +kernel) ?_
  refine X.dup dX11_init_739 rfl ?_
  refine X.bipush dX11_init_740 kB_61 ?_
  refine X.bipush dX11_init_742 kB_114 ?_
  refine Z.iast (i := 13) (len := 96) (jn := 61) dX11_init_744 (by omega) (by decide +kernel) (by decide +kernel) (by decide +kernel) (cs' := hm_136) (by decide +kernel) ?_
  refine X.dup dX11_init_745 rfl ?_
  refine X.bipush dX11_init_746 kB_62 ?_
  refine X.bipush dX11_init_748 kB_115 ?_
  refine Z.iast (i := 13) (len := 96) (jn := 62) dX11_init_750 (by omega) (by decide +kernel) (by decide +kernel) (by decide +kernel) (cs' := hm_137) (by decide +kernel) ?_
  refine X.dup dX11_init_751 rfl ?_
  refine X.bipush dX11_init_752 kB_63 ?_
  refine X.bipush dX11_init_754 kB_32 ?_
  refine Z.iast (i := 13) (len := 96) (jn := 63) dX11_init_756 (by omega) (by decide +kernel) (by decide +kernel) (by decide +kernel) (cs' := hm_138) (by decide +kernel) ?_
  refine X.dup dX11_init_757 rfl ?_
  refine X.bipush dX11_init_758 kB_64 ?_
  refine X.bipush dX11_init_760 kB_109 ?_
  refine Z.iast (i := 13) (len := 96) (jn := 64) dX11_init_762 (by omega) (by decide +kernel) (by decide +kernel) (by decide +kernel) (cs' := hm_139) (by decide +kernel) ?_
  refine X.dup dX11_init_763 rfl ?_
  refine X.bipush dX11_init_764 kB_65 ?_
  refine X.bipush dX11_init_766 kB_111 ?_
  refine Z.iast (i := 13) (len := 96) (jn := 65) dX11_init_768 (by omega) (by decide +kernel) (by decide +kernel) (by decide +kernel) (cs' := hm_140) (by decide +kernel) ?_
  refine X.dup dX11_init_769 rfl ?_
  refine X.bipush dX11_init_770 kB_66 ?_
  refine X.bipush dX11_init_772 kB_114 ?_
  refine Z.iast (i := 13) (len := 96) (jn := 66) dX11_init_774 (by omega) (by decide +kernel) (by decide +kernel) (by decide +kernel) (cs' := hm_141) (by decide +kernel) ?_
  refine X.dup dX11_init_775 rfl ?_
  refine X.bipush dX11_init_776 kB_67 ?_
  refine X.bipush dX11_init_778 kB_101 ?_
  refine Z.iast (i := 13) (len := 96) (jn := 67) dX11_init_780 (by omega) (by decide +kernel) (by decide +kernel) (by decide +kernel) (cs' := hm_142) (by decide +kernel) ?_
  refine X.dup dX11_init_781 rfl ?_
  refine X.bipush dX11_init_782 kB_68 ?_
  refine X.bipush dX11_init_784 kB_32 ?_
  refine Z.iast (i := 13) (len := 96) (jn := 68) dX11_init_786 (by omega) (by decide +kernel) (by decide +kernel) (by decide +kernel) (cs' := hm_143) (by decide +kernel) ?_
  refine X.dup dX11_init_787 rfl ?_
  refine X.bipush dX11_init_788 kB_69 ?_
  refine X.bipush dX11_init_790 kB_32 ?_
  refine Z.iast (i := 13) (len := 96) (jn := 69) dX11_init_792 (by omega) (by decide +kernel) (by decide +kernel) (by decide +kernel) (cs' := hm_144) (by decide +kernel) ?_
  refine X.dup dX11_init_793 rfl ?_
  refine X.bipush dX11_init_794 kB_70 ?_
  refine X.bipush dX11_init_796 kB_32 ?_
  refine Z.iast (i := 13) (len := 96) (jn := 70) dX11_init_798 (by omega) (by decide +kernel) (by decide +kernel) (by decide +kernel) (cs' := hm_145) (by decide +kernel) ?_
  refine X.dup dX11_init_799 rfl ?_
  refine X.bipush dX11_init_800 kB_71 ?_
  refine X.bipush dX11_init_802 kB_32 ?_
  refine Z.iast (i := 13) (len := 96) (jn := 71) dX11_init_804 (by omega) (by decide +kernel) (by decide +kernel) (by decide +kernel) (cs' := hm_146) (by decide +kernel) ?_
  refine X.dup dX11_init_805 rfl ?_
  refine X.bipush dX11_init_806 kB_72 ?_
  refine X.bipush dX11_init_808 kB_111 ?_
  refine Z.iast (i := 13) (len := 96) (jn := 72) dX11_init_810 (by omega) (by decide +kernel) (by decide +kernel) (by decide +kernel) (cs' := hm_147) (by decide +kernel) ?_
  refine X.dup dX11_init_811 rfl ?_
  refine X.bipush dX11_init_812 kB_73 ?_
  refine X.bipush dX11_init_814 kB_114 ?_
  refine Z.iast (i := 13) (len := 96) (jn := 73) dX11_init_816 (by omega) (by decide +kernel) (by decide +kernel) (by decide +kernel) (cs' := hm_148) (by decide +kernel) ?_
  refine X.dup dX11_init_817 rfl ?_
  refine X.bipush dX11_init_818 kB_74 ?_
  refine X.bipush dX11_init_820 kB_32 ?_
  refine Z.iast (i := 13) (len := 96) (jn := 74) dX11_init_822 (by omega) (by decide +kernel) (by decide +kernel) (by decide +kernel) (cs' := hm_149) (by decide +kernel) ?_
  refine X.dup dX11_init_823 rfl ?_
  refine X.bipush dX11_init_824 kB_75 ?_
  refine X.bipush dX11_init_826 kB_32 ?_
  refine Z.iast (i := 13) (len := 96) (jn := 75) dX11_init_828 (by omega) (by decide +kernel) (by decide +kernel) (by decide +kernel) (cs' := hm_150) (by decide +kernel) ?_
  refine X.dup dX11_init_829 rfl ?_
  refine X.bipush dX11_init_830 kB_76 ?_
  refine X.bipush dX11_init_832 kB_32 ?_
  refine Z.iast (i := 13) (len := 96) (jn := 76) dX11_init_834 (by omega) (by decide +kernel) (by decide +kernel) (by decide +kernel) (cs' := hm_151) (by decide +kernel) ?_
  refine X.dup dX11_init_835 rfl ?_
  refine X.bipush dX11_init_836 kB_77 ?_
  refine X.bipush dX11_init_838 kB_32 ?_
  refine Z.iast (i := 13) (len := 96) (jn := 77) dX11_init_840 (by omega) (by decide +kernel) (by decide +kernel) (by decide +kernel) (cs' := hm_152) (by decide +kernel) ?_
  refine X.dup dX11_init_841 rfl ?_
  refine X.bipush dX11_init_842 kB_78 ?_
  refine X.bipush dX11_init_844 kB_32 ?_
  refine Z.iast (i := 13) (len := 96) (jn := 78) dX11_init_846 (by omega) (by decide +kernel) (by decide +kernel) (by decide +kernel) (cs' := hm_153) (by decide +kernel) ?_
  refine X.dup dX11_init_847 rfl ?_
  refine X.bipush dX11_init_848 kB_79 ?_
  refine X.bipush dX11_init_850 kB_32 ?_
  refine Z.iast (i := 13) (len := 96) (jn := 79) dX11_init_852 (by omega) (by decide +kernel) (by decide +kernel) (by decide +kernel) (cs' := hm_154) (by decide +kernel) ?_
  refine X.dup dX11_init_853 rfl ?_
  refine X.bipush dX11_init_854 kB_80 ?_
  refine X.bipush dX11_init_856 kB_97 ?_
  refine Z.iast (i := 13) (len := 96) (jn := 80) dX11_init_858 (by omega) (by decide +kernel) (by decide +kernel) (by decide +kernel) (cs' := hm_155) (by decide +kernel) ?_
  refine X.dup dX11_init_859 rfl ?_
  refine X.bipush dX11_init_860 kB_81 ?_
  refine X.bipush dX11_init_862 kB_110 ?_
  refine Z.iast (i := 13) (len := 96) (jn := 81) dX11_init_864 (by omega) (by decide +kernel) (by decide +kernel) (by decide +kernel) (cs' := hm_156) (by decide +kernel) ?_
  refine X.dup dX11_init_865 rfl ?_
  refine X.bipush dX11_init_866 kB_82 ?_
  refine X.bipush dX11_init_868 kB_100 ?_
  refine Z.iast (i := 13) (len := 96) (jn := 82) dX11_init_870 (by omega) (by decide +kernel) (by decide +kernel) (by decide +kernel) (cs' := hm_157) (by decide +kernel) ?_
  refine X.dup dX11_init_871 rfl ?_
  refine X.bipush dX11_init_872 kB_83 ?_
  refine X.bipush dX11_init_874 kB_32 ?_
  refine Z.iast (i := 13) (len := 96) (jn := 83) dX11_init_876 (by omega) (by decide +kernel) (by decide +kernel) (by decide +kernel) (cs' := hm_158) (by decide +kernel) ?_
  refine X.dup dX11_init_877 rfl ?_
  refine X.bipush dX11_init_878 kB_84 ?_
  refine X.bipush dX11_init_880 kB_32 ?_
  refine Z.iast (i := 13) (len := 96) (jn := 84) dX11_init_882 (by omega) (by decide +kernel) (by decide +kernel) (by decide +kernel) (cs' := hm_159) (by decide +kernel) ?_
  refine X.dup dX11_init_883 rfl ?_
  refine X.bipush dX11_init_884 kB_85 ?_
  refine X.bipush dX11_init_886 kB_32 ?_
  refine Z.iast (i := 13) (len := 96) (jn := 85) dX11_init_888 (by omega) (by decide +kernel) (by decide +kernel) (by decide +kernel) (cs' := hm_160) (by decide +kernel) ?_
  refine X.dup dX11_init_889 rfl ?_
  refine X.bipush dX11_init_890 kB_86 ?_
  refine X.bipush dX11_init_892 kB_32 ?_
  refine Z.iast (i := 13) (len := 96) (jn := 86) dX11_init_894 (by omega) (by decide +kernel) (by decide +kernel) (by decide +kernel) (cs' := hm_161) (by decide +kernel) ?_
  refine X.dup dX11_init_895 rfl ?_
  refine X.bipush dX11_init_896 kB_87 ?_
  refine X.bipush dX11_init_898 kB_32 ?_
  refine Z.iast (i := 13) (len := 96) (jn := 87) dX11_init_900 (by omega) (by decide +kernel) (by decide +kernel) (by decide +kernel) (cs' := hm_162) (by decide +kernel) ?_
  refine X.dup dX11_init_901 rfl ?_
  refine X.bipush dX11_init_902 kB_88 ?_
  refine X.bipush dX11_init_904 kB_110 ?_
  refine Z.iast (i := 13) (len := 96) (jn := 88) dX11_init_906 (by omega) (by decide +kernel) (by decide +kernel) (by decide +kernel) (cs' := hm_163) (by decide +kernel) ?_
  refine X.dup dX11_init_907 rfl ?_
  refine X.bipush dX11_init_908 kB_89 ?_
  refine X.bipush dX11_init_910 kB_111 ?_
  refine Z.iast (i := 13) (len := 96) (jn := 89) dX11_init_912 (by omega) (by decide +kernel) (by decide +kernel) (by decide +kernel) (cs' := hm_164) (by decide +kernel) ?_
  refine X.dup dX11_init_913 rfl ?_
  refine X.bipush dX11_init_914 kB_90 ?_
  refine X.bipush dX11_init_916 kB_116 ?_
  refine Z.iast (i := 13) (len := 96) (jn := 90) dX11_init_918 (by omega) (by decide +kernel) (by decide +kernel) (by decide +kernel) (cs' := hm_165) (by decide +kernel) ?_
  refine X.dup dX11_init_919 rfl ?_
  refine X.bipush dX11_init_920 kB_91 ?_
  refine X.bipush dX11_init_922 kB_32 ?_
  refine Z.iast (i := 13) (len := 96) (jn := 91) dX11_init_924 (by omega) (by decide +kernel) (by decide +kernel) (by decide +kernel) (cs' := hm_166) (by decide +kernel) ?_
  refine X.dup dX11_init_925 rfl ?_
  refine X.bipush dX11_init_926 kB_92 ?_
  refine X.bipush dX11_init_928 kB_32 ?_
  refine Z.iast (i := 13) (len := 96) (jn := 92) dX11_init_930 (by omega) (by decide +kernel) (by decide +kernel) (by decide +kernel) (cs' := hm_167) (by decide +kernel) ?_
  refine X.dup dX11_init_931 rfl ?_
  refine X.bipush dX11_init_932 kB_93 ?_
  refine X.bipush dX11_init_934 kB_32 ?_
  refine Z.iast (i := 13) (len := 96) (jn := 93) dX11_init_936 (by omega) (by decide +kernel) (by decide +kernel) (by decide +kernel) (cs' := hm_168) (by decide +kernel) ?_
  refine X.dup dX11_init_937 rfl ?_
  refine X.bipush dX11_init_938 kB_94 ?_
  refine X.bipush dX11_init_940 kB_32 ?_
  refine Z.iast (i := 13) (len := 96) (jn := 94) dX11_init_942 (by omega) (by decide +kernel) (by decide +kernel) (by decide +kernel) (cs' := hm_169) (by decide +kernel) ?_
  refine X.dup dX11_init_943 rfl ?_
  refine X.bipush dX11_init_944 kB_95 ?_
  refine X.bipush dX11_init_946 kB_32 ?_
  refine Z.iast (i := 13) (len := 96) (jn := 95) dX11_init_948 (by omega) (by decide +kernel) (by decide +kernel) (by decide +kernel) (cs' := hm_170) (by decide +kernel) ?_
  refine Z.putF (i := 0) dX11_init_949 fl_X11_46 rfl rfl rfl rfl (by omega) (by decide +kernel) (by rw [hn0]; decide +kernel) (cs' := hm_171) (by decide +kernel) ?_
  refine X.aload_n dX11_init_952 rfl (j := 0) rfl ?_
  refine X.sipush dX11_init_953 kS_200 ?_
  refine ZZ.newarr (at' := .int) (bc := 5) (bs := 243) (kd := 0) (n0 := 90) (len := 200) dX11_init_956 (Or.inl ⟨rfl, rfl⟩) ww_156 (by decide) (by decide +kernel) (Nat.le_of_ble_eq_true rfl) (by rw [hn0]; decide +kernel) (by omega) rfl (cs' := hm_172) (by decide +kernel) ?_ rfl rfl
  refine Z.putF (i := 0) dX11_init_958 fl_X11_49 rfl rfl rfl rfl (by omega) (by decide +kernel) (by rw [hn0]; decide +kernel) (cs' := hm_173) (by decide +kernel) ?_
  refine X.aload_n dX11_init_961 rfl (j := 0) rfl ?_
  refine X.sipush dX11_init_962 kS_200 ?_
  refine ZZ.newarr (at' := .int) (bc := 4) (bs := 43) (kd := 0) (n0 := 91) (len := 200) dX11_init_965 (Or.inl ⟨rfl, rfl⟩) ww_156 (by decide) (by decide +kernel) (Nat.le_of_ble_eq_true rfl) (by rw [hn0]; decide +kernel) (by omega) rfl (cs' := hm_174) (by decide +kernel) ?_ rfl rfl
  refine Z.putF (i := 0) dX11_init_967 fl_X11_52 rfl rfl rfl rfl (by omega) (by decide +kernel) (by rw [hn0]; decide +kernel) (cs' := hm_175) (by decide +kernel) ?_
  refine X.aload_n dX11_init_970 rfl (j := 0) rfl ?_
  refine X.bipush dX11_init_971 kB_6 ?_
  refine ZZ.newarr (at' := .int) (bc := 3) (bs := 37) (kd := 0) (n0 := 92) (len := 6) dX11_init_973 (Or.inl ⟨rfl, rfl⟩) ww_156 (by decide) (by decide +kernel) (Nat.le_of_ble_eq_true rfl) (by rw [hn0]; decide +kernel) (by omega) rfl (cs' := hm_176) (by decide +kernel) ?_ rfl rfl
  refine Z.putF (i := 0) dX11_init_975 fl_X11_55 rfl rfl rfl rfl (by omega) (by decide +kernel) (by rw [hn0]; decide +kernel) (cs' := hm_177) (by decide +kernel) ?_
  refine X.aload_n dX11_init_978 rfl (j := 0) rfl ?_
  refine X.bipush dX11_init_979 kB_25 ?_
  refine ZZ.newarr (at' := .int) (bc := 2) (bs := 12) (kd := 0) (n0 := 93) (len := 25) dX11_init_981 (Or.inl ⟨rfl, rfl⟩) ww_156 (by decide) (by decide +kernel) (Nat.le_of_ble_eq_true rfl) (by rw [hn0]; decide +kernel) (by omega) rfl (cs' := hm_178) (by decide +kernel) ?_ rfl rfl
  refine Z.putF (i := 0) dX11_init_983 fl_X11_58 rfl rfl rfl rfl (by omega) (by decide +kernel) (by rw [hn0]; decide +kernel) (cs' := hm_179) (by decide +kernel) ?_
  refine X.aload_n dX11_init_986 rfl (j := 0) rfl ?_
  refine X.bipush dX11_init_987 kB_6 ?_
  refine ZZ.newarr (at' := .int) (bc := 1) (bs := 6) (kd := 0) (n0 := 94) (len := 6) dX11_init_989 (Or.inl ⟨rfl, rfl⟩) ww_156 (by decide) (by decide +kernel) (Nat.le_of_ble_eq_true rfl) (by rw [hn0]; decide +kernel) (by omega) rfl (cs' := hm_180) (by decide +kernel) ?_ rfl rfl
  refine Z.putF (i := 0) dX11_init_991 fl_X11_61 rfl rfl rfl rfl (by omega) (by decide +kernel) (by rw [hn0]; decide +kernel) (cs' := hm_181) (by decide +kernel) ?_
  refine X.aload_n dX11_init_994 rfl (j := 0) rfl ?_
  refine X.bipush dX11_init_995 kB_6 ?_
  refine ZZ.newarr (at' := .int) (bc := 0) (bs := 0) (kd := 0) (n0 := 95) (len := 6) dX11_init_997 (Or.inl ⟨rfl, rfl⟩) ww_156 (by decide) (by decide +kernel) (Nat.le_of_ble_eq_true rfl) (by rw [hn0]; decide +kernel) (by omega) rfl (cs' := hm_182) (by decide +kernel) ?_ rfl rfl
  refine Z.putF (i := 0) dX11_init_999 fl_X11_64 rfl rfl rfl rfl (by omega) (by decide +kernel) (by rw [hn0]; decide +kernel) (cs' := hm_183) (by decide +kernel) ?_
  refine X.sub [0] rfl ?_
  exact x_J_X11_init_1002 hf
