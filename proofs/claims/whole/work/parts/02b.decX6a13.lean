theorem dX6_init_0 : decode cX6_init 0 = .ok (.aload_n 0, 1) := by decide +kernel
theorem dX6_init_1 : decode cX6_init 1 = .ok (.invokespecial 1, 3) := by decide +kernel
theorem dX6_init_4 : decode cX6_init 4 = .ok (.aload_n 0, 1) := by decide +kernel
theorem dX6_init_5 : decode cX6_init 5 = .ok (.sipush 527, 3) := by decide +kernel
theorem dX6_init_8 : decode cX6_init 8 = .ok (.newarray .int, 2) := by decide +kernel
theorem dX6_init_10 : decode cX6_init 10 = .ok (.putfield 9, 3) := by decide +kernel
theorem dX6_init_13 : decode cX6_init 13 = .ok (.aload_n 0, 1) := by decide +kernel
theorem dX6_init_14 : decode cX6_init 14 = .ok (.sipush 360, 3) := by decide +kernel
theorem dX6_init_17 : decode cX6_init 17 = .ok (.newarray .int, 2) := by decide +kernel
theorem dX6_init_19 : decode cX6_init 19 = .ok (.putfield 13, 3) := by decide +kernel
theorem dX6_init_22 : decode cX6_init 22 = .ok (.aload_n 0, 1) := by decide +kernel
theorem dX6_init_23 : decode cX6_init 23 = .ok (.ldc 16, 2) := by decide +kernel
theorem dX6_init_25 : decode cX6_init 25 = .ok (.newarray .int, 2) := by decide +kernel
theorem dX6_init_27 : decode cX6_init 27 = .ok (.putfield 17, 3) := by decide +kernel
theorem dX6_init_30 : decode cX6_init 30 = .ok (.aload_n 0, 1) := by decide +kernel
theorem dX6_init_31 : decode cX6_init 31 = .ok (.sipush 300, 3) := by decide +kernel
theorem dX6_init_34 : decode cX6_init 34 = .ok (.newarray .int, 2) := by decide +kernel
theorem dX6_init_36 : decode cX6_init 36 = .ok (.putfield 20, 3) := by decide +kernel
theorem dX6_init_39 : decode cX6_init 39 = .ok (.aload_n 0, 1) := by decide +kernel
theorem dX6_init_40 : decode cX6_init 40 = .ok (.sipush 300, 3) := by decide +kernel
theorem dX6_init_43 : decode cX6_init 43 = .ok (.newarray .int, 2) := by decide +kernel
theorem dX6_init_45 : decode cX6_init 45 = .ok (.putfield 23, 3) := by decide +kernel
theorem dX6_init_48 : decode cX6_init 48 = .ok (.aload_n 0, 1) := by decide +kernel
theorem dX6_init_49 : decode cX6_init 49 = .ok (.sipush 300, 3) := by decide +kernel
theorem dX6_init_52 : decode cX6_init 52 = .ok (.newarray .int, 2) := by decide +kernel
theorem dX6_init_54 : decode cX6_init 54 = .ok (.putfield 26, 3) := by decide +kernel
theorem dX6_init_57 : decode cX6_init 57 = .ok (.aload_n 0, 1) := by decide +kernel
theorem dX6_init_58 : decode cX6_init 58 = .ok (.sipush 300, 3) := by decide +kernel
theorem dX6_init_61 : decode cX6_init 61 = .ok (.newarray .int, 2) := by decide +kernel
theorem dX6_init_63 : decode cX6_init 63 = .ok (.putfield 29, 3) := by decide +kernel
theorem dX6_init_66 : decode cX6_init 66 = .ok (.aload_n 0, 1) := by decide +kernel
theorem dX6_init_67 : decode cX6_init 67 = .ok (.sipush 527, 3) := by decide +kernel
theorem dX6_init_70 : decode cX6_init 70 = .ok (.newarray .int, 2) := by decide +kernel
theorem dX6_init_72 : decode cX6_init 72 = .ok (.putfield 32, 3) := by decide +kernel
theorem dX6_init_75 : decode cX6_init 75 = .ok (.aload_n 0, 1) := by decide +kernel
theorem dX6_init_76 : decode cX6_init 76 = .ok (.sipush 527, 3) := by decide +kernel
theorem dX6_init_79 : decode cX6_init 79 = .ok (.newarray .int, 2) := by decide +kernel
theorem dX6_init_81 : decode cX6_init 81 = .ok (.putfield 35, 3) := by decide +kernel
theorem dX6_init_84 : decode cX6_init 84 = .ok (.aload_n 0, 1) := by decide +kernel
theorem dX6_init_85 : decode cX6_init 85 = .ok (.sipush 527, 3) := by decide +kernel
theorem dX6_init_88 : decode cX6_init 88 = .ok (.newarray .int, 2) := by decide +kernel
theorem dX6_init_90 : decode cX6_init 90 = .ok (.putfield 38, 3) := by decide +kernel
theorem dX6_init_93 : decode cX6_init 93 = .ok (.aload_n 0, 1) := by decide +kernel
theorem dX6_init_94 : decode cX6_init 94 = .ok (.bipush 6, 2) := by decide +kernel
theorem dX6_init_96 : decode cX6_init 96 = .ok (.newarray .int, 2) := by decide +kernel
theorem dX6_init_98 : decode cX6_init 98 = .ok (.putfield 41, 3) := by decide +kernel
theorem dX6_init_101 : decode cX6_init 101 = .ok (.aload_n 0, 1) := by decide +kernel
theorem dX6_init_102 : decode cX6_init 102 = .ok (.iconst 4, 1) := by decide +kernel
theorem dX6_init_103 : decode cX6_init 103 = .ok (.newarray .int, 2) := by decide +kernel
theorem dX6_init_105 : decode cX6_init 105 = .ok (.dup, 1) := by decide +kernel
theorem dX6_init_106 : decode cX6_init 106 = .ok (.iconst 0, 1) := by decide +kernel
theorem dX6_init_107 : decode cX6_init 107 = .ok (.iconst (-1), 1) := by decide +kernel
theorem dX6_init_108 : decode cX6_init 108 = .ok (.iastore, 1) := by decide +kernel
theorem dX6_init_109 : decode cX6_init 109 = .ok (.dup, 1) := by decide +kernel
theorem dX6_init_110 : decode cX6_init 110 = .ok (.iconst 1, 1) := by decide +kernel
theorem dX6_init_111 : decode cX6_init 111 = .ok (.iconst (-1), 1) := by decide +kernel
theorem dX6_init_112 : decode cX6_init 112 = .ok (.iastore, 1) := by decide +kernel
theorem dX6_init_113 : decode cX6_init 113 = .ok (.dup, 1) := by decide +kernel
theorem dX6_init_114 : decode cX6_init 114 = .ok (.iconst 2, 1) := by decide +kernel
theorem dX6_init_115 : decode cX6_init 115 = .ok (.iconst (-1), 1) := by decide +kernel
theorem dX6_init_116 : decode cX6_init 116 = .ok (.iastore, 1) := by decide +kernel
theorem dX6_init_117 : decode cX6_init 117 = .ok (.dup, 1) := by decide +kernel
theorem dX6_init_118 : decode cX6_init 118 = .ok (.iconst 3, 1) := by decide +kernel
theorem dX6_init_119 : decode cX6_init 119 = .ok (.iconst (-1), 1) := by decide +kernel
theorem dX6_init_120 : decode cX6_init 120 = .ok (.iastore, 1) := by decide +kernel
theorem dX6_init_121 : decode cX6_init 121 = .ok (.putfield 44, 3) := by decide +kernel
theorem dX6_init_124 : decode cX6_init 124 = .ok (.aload_n 0, 1) := by decide +kernel
theorem dX6_init_125 : decode cX6_init 125 = .ok (.iconst 4, 1) := by decide +kernel
theorem dX6_init_126 : decode cX6_init 126 = .ok (.newarray .int, 2) := by decide +kernel
theorem dX6_init_128 : decode cX6_init 128 = .ok (.putfield 47, 3) := by decide +kernel
theorem dX6_init_131 : decode cX6_init 131 = .ok (.aload_n 0, 1) := by decide +kernel
theorem dX6_init_132 : decode cX6_init 132 = .ok (.sipush 240, 3) := by decide +kernel
theorem dX6_init_135 : decode cX6_init 135 = .ok (.newarray .long, 2) := by decide +kernel
theorem dX6_init_137 : decode cX6_init 137 = .ok (.putfield 50, 3) := by decide +kernel
theorem dX6_init_140 : decode cX6_init 140 = .ok (.aload_n 0, 1) := by decide +kernel
theorem dX6_init_141 : decode cX6_init 141 = .ok (.bipush 60, 2) := by decide +kernel
theorem dX6_init_143 : decode cX6_init 143 = .ok (.newarray .long, 2) := by decide +kernel
theorem dX6_init_145 : decode cX6_init 145 = .ok (.putfield 54, 3) := by decide +kernel
theorem dX6_init_148 : decode cX6_init 148 = .ok (.aload_n 0, 1) := by decide +kernel
theorem dX6_init_149 : decode cX6_init 149 = .ok (.iconst (-1), 1) := by decide +kernel
theorem dX6_init_150 : decode cX6_init 150 = .ok (.putfield 57, 3) := by decide +kernel
theorem dX6_init_153 : decode cX6_init 153 = .ok (.aload_n 0, 1) := by decide +kernel
theorem dX6_init_154 : decode cX6_init 154 = .ok (.iconst 4, 1) := by decide +kernel
theorem dX6_init_155 : decode cX6_init 155 = .ok (.newarray .int, 2) := by decide +kernel
theorem dX6_init_157 : decode cX6_init 157 = .ok (.putfield 61, 3) := by decide +kernel
theorem dX6_init_160 : decode cX6_init 160 = .ok (.aload_n 0, 1) := by decide +kernel
theorem dX6_init_161 : decode cX6_init 161 = .ok (.getfield 9, 3) := by decide +kernel
theorem dX6_init_164 : decode cX6_init 164 = .ok (.iconst 1, 1) := by decide +kernel
theorem dX6_init_165 : decode cX6_init 165 = .ok (.iconst 1, 1) := by decide +kernel
theorem dX6_init_166 : decode cX6_init 166 = .ok (.iastore, 1) := by decide +kernel
theorem dX6_init_167 : decode cX6_init 167 = .ok (.aload_n 0, 1) := by decide +kernel
theorem dX6_init_168 : decode cX6_init 168 = .ok (.getfield 9, 3) := by decide +kernel
theorem dX6_init_171 : decode cX6_init 171 = .ok (.iconst 3, 1) := by decide +kernel
theorem dX6_init_172 : decode cX6_init 172 = .ok (.sipush 255, 3) := by decide +kernel
theorem dX6_init_175 : decode cX6_init 175 = .ok (.iastore, 1) := by decide +kernel
theorem dX6_init_176 : decode cX6_init 176 = .ok (.aload_n 0, 1) := by decide +kernel
theorem dX6_init_177 : decode cX6_init 177 = .ok (.getfield 9, 3) := by decide +kernel
theorem dX6_init_180 : decode cX6_init 180 = .ok (.iconst 4, 1) := by decide +kernel
theorem dX6_init_181 : decode cX6_init 181 = .ok (.bipush 20, 2) := by decide +kernel
theorem dX6_init_183 : decode cX6_init 183 = .ok (.iastore, 1) := by decide +kernel
theorem dX6_init_184 : decode cX6_init 184 = .ok (.aload_n 0, 1) := by decide +kernel
theorem dX6_init_185 : decode cX6_init 185 = .ok (.getfield 9, 3) := by decide +kernel
theorem dX6_init_188 : decode cX6_init 188 = .ok (.iconst 5, 1) := by decide +kernel
theorem dX6_init_189 : decode cX6_init 189 = .ok (.sipush 200, 3) := by decide +kernel
theorem dX6_init_192 : decode cX6_init 192 = .ok (.iastore, 1) := by decide +kernel
theorem dX6_init_193 : decode cX6_init 193 = .ok (.aload_n 0, 1) := by decide +kernel
theorem dX6_init_194 : decode cX6_init 194 = .ok (.getfield 9, 3) := by decide +kernel
theorem dX6_init_197 : decode cX6_init 197 = .ok (.bipush 6, 2) := by decide +kernel
theorem dX6_init_199 : decode cX6_init 199 = .ok (.iconst 2, 1) := by decide +kernel
theorem dX6_init_200 : decode cX6_init 200 = .ok (.iastore, 1) := by decide +kernel
theorem dX6_init_201 : decode cX6_init 201 = .ok (.aload_n 0, 1) := by decide +kernel
theorem dX6_init_202 : decode cX6_init 202 = .ok (.getfield 9, 3) := by decide +kernel
theorem dX6_init_205 : decode cX6_init 205 = .ok (.bipush 7, 2) := by decide +kernel
theorem dX6_init_207 : decode cX6_init 207 = .ok (.bipush 10, 2) := by decide +kernel
theorem dX6_init_209 : decode cX6_init 209 = .ok (.iastore, 1) := by decide +kernel
theorem dX6_init_210 : decode cX6_init 210 = .ok (.aload_n 0, 1) := by decide +kernel
theorem dX6_init_211 : decode cX6_init 211 = .ok (.getfield 9, 3) := by decide +kernel
theorem dX6_init_214 : decode cX6_init 214 = .ok (.bipush 9, 2) := by decide +kernel
theorem dX6_init_216 : decode cX6_init 216 = .ok (.iconst 5, 1) := by decide +kernel
theorem dX6_init_217 : decode cX6_init 217 = .ok (.iastore, 1) := by decide +kernel
theorem dX6_init_218 : decode cX6_init 218 = .ok (.aload_n 0, 1) := by decide +kernel
theorem dX6_init_219 : decode cX6_init 219 = .ok (.getfield 9, 3) := by decide +kernel
theorem dX6_init_222 : decode cX6_init 222 = .ok (.bipush 10, 2) := by decide +kernel
theorem dX6_init_224 : decode cX6_init 224 = .ok (.bipush 10, 2) := by decide +kernel
theorem dX6_init_226 : decode cX6_init 226 = .ok (.iastore, 1) := by decide +kernel
theorem dX6_init_227 : decode cX6_init 227 = .ok (.iconst 0, 1) := by decide +kernel
theorem dX6_init_228 : decode cX6_init 228 = .ok (.istore_n 1, 1) := by decide +kernel
theorem dX6_init_229 : decode cX6_init 229 = .ok (.iload_n 1, 1) := by decide +kernel
theorem dX6_init_230 : decode cX6_init 230 = .ok (.iconst 5, 1) := by decide +kernel
theorem dX6_init_231 : decode cX6_init 231 = .ok (.if_icmp .ge 23, 3) := by decide +kernel
theorem dX6_init_234 : decode cX6_init 234 = .ok (.aload_n 0, 1) := by decide +kernel
theorem dX6_init_235 : decode cX6_init 235 = .ok (.getfield 9, 3) := by decide +kernel
theorem dX6_init_238 : decode cX6_init 238 = .ok (.bipush 44, 2) := by decide +kernel
theorem dX6_init_240 : decode cX6_init 240 = .ok (.iconst 3, 1) := by decide +kernel
theorem dX6_init_241 : decode cX6_init 241 = .ok (.iload_n 1, 1) := by decide +kernel
theorem dX6_init_242 : decode cX6_init 242 = .ok (.imul, 1) := by decide +kernel
theorem dX6_init_243 : decode cX6_init 243 = .ok (.iadd, 1) := by decide +kernel
theorem dX6_init_244 : decode cX6_init 244 = .ok (.iconst 0, 1) := by decide +kernel
theorem dX6_init_245 : decode cX6_init 245 = .ok (.iadd, 1) := by decide +kernel
theorem dX6_init_246 : decode cX6_init 246 = .ok (.iconst (-1), 1) := by decide +kernel
theorem dX6_init_247 : decode cX6_init 247 = .ok (.iastore, 1) := by decide +kernel
theorem dX6_init_248 : decode cX6_init 248 = .ok (.iinc 1 1, 3) := by decide +kernel
theorem dX6_init_251 : decode cX6_init 251 = .ok (.goto (-22), 3) := by decide +kernel
theorem dX6_init_254 : decode cX6_init 254 = .ok (.return_, 1) := by decide +kernel
theorem dX6_in_0 : decode cX6_in 0 = .ok (.iload_n 0, 1) := by decide +kernel
theorem dX6_in_1 : decode cX6_in 1 = .ok (.iload_n 1, 1) := by decide +kernel
theorem dX6_in_2 : decode cX6_in 2 = .ok (.if_icmp .lt 12, 3) := by decide +kernel
theorem dX6_in_5 : decode cX6_in 5 = .ok (.iload_n 0, 1) := by decide +kernel
theorem dX6_in_6 : decode cX6_in 6 = .ok (.iload_n 2, 1) := by decide +kernel
theorem dX6_in_7 : decode cX6_in 7 = .ok (.if_icmp .gt 7, 3) := by decide +kernel
theorem dX6_in_10 : decode cX6_in 10 = .ok (.iconst 1, 1) := by decide +kernel
theorem dX6_in_11 : decode cX6_in 11 = .ok (.goto 4, 3) := by decide +kernel
theorem dX6_in_14 : decode cX6_in 14 = .ok (.iconst 0, 1) := by decide +kernel
theorem dX6_in_15 : decode cX6_in 15 = .ok (.ireturn, 1) := by decide +kernel
theorem dX6_house_0 : decode cX6_house 0 = .ok (.bipush 16, 2) := by decide +kernel
theorem dX6_house_2 : decode cX6_house 2 = .ok (.bipush 7, 2) := by decide +kernel
theorem dX6_house_4 : decode cX6_house 4 = .ok (.iload_n 0, 1) := by decide +kernel
theorem dX6_house_5 : decode cX6_house 5 = .ok (.imul, 1) := by decide +kernel
theorem dX6_house_6 : decode cX6_house 6 = .ok (.iadd, 1) := by decide +kernel
theorem dX6_house_7 : decode cX6_house 7 = .ok (.ireturn, 1) := by decide +kernel
theorem dX6_browser_0 : decode cX6_browser 0 = .ok (.bipush 44, 2) := by decide +kernel
theorem dX6_browser_2 : decode cX6_browser 2 = .ok (.iconst 3, 1) := by decide +kernel
theorem dX6_browser_3 : decode cX6_browser 3 = .ok (.iload_n 0, 1) := by decide +kernel
theorem dX6_browser_4 : decode cX6_browser 4 = .ok (.imul, 1) := by decide +kernel
theorem dX6_browser_5 : decode cX6_browser 5 = .ok (.iadd, 1) := by decide +kernel
theorem dX6_browser_6 : decode cX6_browser 6 = .ok (.ireturn, 1) := by decide +kernel
theorem dX6_note_0 : decode cX6_note 0 = .ok (.bipush 59, 2) := by decide +kernel
theorem dX6_note_2 : decode cX6_note 2 = .ok (.bipush 11, 2) := by decide +kernel
theorem dX6_note_4 : decode cX6_note 4 = .ok (.iload_n 0, 1) := by decide +kernel
theorem dX6_note_5 : decode cX6_note 5 = .ok (.imul, 1) := by decide +kernel
theorem dX6_note_6 : decode cX6_note 6 = .ok (.iadd, 1) := by decide +kernel
theorem dX6_note_7 : decode cX6_note 7 = .ok (.ireturn, 1) := by decide +kernel
theorem dX6_family_0 : decode cX6_family 0 = .ok (.sipush 411, 3) := by decide +kernel
theorem dX6_family_3 : decode cX6_family 3 = .ok (.iconst 2, 1) := by decide +kernel
theorem dX6_family_4 : decode cX6_family 4 = .ok (.iload_n 0, 1) := by decide +kernel
theorem dX6_family_5 : decode cX6_family 5 = .ok (.imul, 1) := by decide +kernel
theorem dX6_family_6 : decode cX6_family 6 = .ok (.iadd, 1) := by decide +kernel
theorem dX6_family_7 : decode cX6_family 7 = .ok (.ireturn, 1) := by decide +kernel
theorem dX6_letter_0 : decode cX6_letter 0 = .ok (.sipush 443, 3) := by decide +kernel
theorem dX6_letter_3 : decode cX6_letter 3 = .ok (.bipush 7, 2) := by decide +kernel
theorem dX6_letter_5 : decode cX6_letter 5 = .ok (.iload_n 0, 1) := by decide +kernel
theorem dX6_letter_6 : decode cX6_letter 6 = .ok (.imul, 1) := by decide +kernel
theorem dX6_letter_7 : decode cX6_letter 7 = .ok (.iadd, 1) := by decide +kernel
theorem dX6_letter_8 : decode cX6_letter 8 = .ok (.ireturn, 1) := by decide +kernel
theorem dX6_isOn_0 : decode cX6_isOn 0 = .ok (.aload_n 0, 1) := by decide +kernel
theorem dX6_isOn_1 : decode cX6_isOn 1 = .ok (.iconst 3, 1) := by decide +kernel
theorem dX6_isOn_2 : decode cX6_isOn 2 = .ok (.iaload, 1) := by decide +kernel
theorem dX6_isOn_3 : decode cX6_isOn 3 = .ok (.iload_n 1, 1) := by decide +kernel
theorem dX6_isOn_4 : decode cX6_isOn 4 = .ok (.ishr, 1) := by decide +kernel
theorem dX6_isOn_5 : decode cX6_isOn 5 = .ok (.iconst 1, 1) := by decide +kernel
theorem dX6_isOn_6 : decode cX6_isOn 6 = .ok (.iand, 1) := by decide +kernel
theorem dX6_isOn_7 : decode cX6_isOn 7 = .ok (.iconst 1, 1) := by decide +kernel
theorem dX6_isOn_8 : decode cX6_isOn 8 = .ok (.if_icmp .ne 7, 3) := by decide +kernel
theorem dX6_isOn_11 : decode cX6_isOn 11 = .ok (.iconst 1, 1) := by decide +kernel
theorem dX6_isOn_12 : decode cX6_isOn 12 = .ok (.goto 4, 3) := by decide +kernel
theorem dX6_isOn_15 : decode cX6_isOn 15 = .ok (.iconst 0, 1) := by decide +kernel
theorem dX6_isOn_16 : decode cX6_isOn 16 = .ok (.ireturn, 1) := by decide +kernel
theorem dX6_isHouse_0 : decode cX6_isHouse 0 = .ok (.iload_n 1, 1) := by decide +kernel
theorem dX6_isHouse_1 : decode cX6_isHouse 1 = .ok (.iconst 0, 1) := by decide +kernel
theorem dX6_isHouse_2 : decode cX6_isHouse 2 = .ok (.aload_n 0, 1) := by decide +kernel
theorem dX6_isHouse_3 : decode cX6_isHouse 3 = .ok (.getfield 9, 3) := by decide +kernel
theorem dX6_isHouse_6 : decode cX6_isHouse 6 = .ok (.bipush 11, 2) := by decide +kernel
theorem dX6_isHouse_8 : decode cX6_isHouse 8 = .ok (.iaload, 1) := by decide +kernel
theorem dX6_isHouse_9 : decode cX6_isHouse 9 = .ok (.iconst 1, 1) := by decide +kernel
theorem dX6_isHouse_10 : decode cX6_isHouse 10 = .ok (.isub, 1) := by decide +kernel
theorem dX6_isHouse_11 : decode cX6_isHouse 11 = .ok (.invokestatic 67, 3) := by decide +kernel
theorem dX6_isHouse_14 : decode cX6_isHouse 14 = .ok (.ireturn, 1) := by decide +kernel
theorem dX6_isNote_0 : decode cX6_isNote 0 = .ok (.iload_n 1, 1) := by decide +kernel
theorem dX6_isNote_1 : decode cX6_isNote 1 = .ok (.iconst 0, 1) := by decide +kernel
theorem dX6_isNote_2 : decode cX6_isNote 2 = .ok (.aload_n 0, 1) := by decide +kernel
theorem dX6_isNote_3 : decode cX6_isNote 3 = .ok (.getfield 9, 3) := by decide +kernel
theorem dX6_isNote_6 : decode cX6_isNote 6 = .ok (.bipush 12, 2) := by decide +kernel
theorem dX6_isNote_8 : decode cX6_isNote 8 = .ok (.iaload, 1) := by decide +kernel
theorem dX6_isNote_9 : decode cX6_isNote 9 = .ok (.iconst 1, 1) := by decide +kernel
theorem dX6_isNote_10 : decode cX6_isNote 10 = .ok (.isub, 1) := by decide +kernel
theorem dX6_isNote_11 : decode cX6_isNote 11 = .ok (.invokestatic 67, 3) := by decide +kernel
theorem dX6_isNote_14 : decode cX6_isNote 14 = .ok (.ireturn, 1) := by decide +kernel
theorem dX6_has_0 : decode cX6_has 0 = .ok (.aload_n 0, 1) := by decide +kernel
theorem dX6_has_1 : decode cX6_has 1 = .ok (.iload_n 2, 1) := by decide +kernel
theorem dX6_has_2 : decode cX6_has 2 = .ok (.invokestatic 71, 3) := by decide +kernel
theorem dX6_has_5 : decode cX6_has 5 = .ok (.bipush 10, 2) := by decide +kernel
theorem dX6_has_7 : decode cX6_has 7 = .ok (.iadd, 1) := by decide +kernel
theorem dX6_has_8 : decode cX6_has 8 = .ok (.iaload, 1) := by decide +kernel
theorem dX6_has_9 : decode cX6_has 9 = .ok (.iload_n 1, 1) := by decide +kernel
theorem dX6_has_10 : decode cX6_has 10 = .ok (.ishr, 1) := by decide +kernel
theorem dX6_has_11 : decode cX6_has 11 = .ok (.iconst 1, 1) := by decide +kernel
theorem dX6_has_12 : decode cX6_has 12 = .ok (.iand, 1) := by decide +kernel
theorem dX6_has_13 : decode cX6_has 13 = .ok (.iconst 1, 1) := by decide +kernel
theorem dX6_has_14 : decode cX6_has 14 = .ok (.if_icmp .ne 7, 3) := by decide +kernel
theorem dX6_has_17 : decode cX6_has 17 = .ok (.iconst 1, 1) := by decide +kernel
theorem dX6_has_18 : decode cX6_has 18 = .ok (.goto 4, 3) := by decide +kernel
theorem dX6_has_21 : decode cX6_has 21 = .ok (.iconst 0, 1) := by decide +kernel
theorem dX6_has_22 : decode cX6_has 22 = .ok (.ireturn, 1) := by decide +kernel
theorem dX6_gets_0 : decode cX6_gets 0 = .ok (.iload_n 2, 1) := by decide +kernel
theorem dX6_gets_1 : decode cX6_gets 1 = .ok (.ifCond .lt 18, 3) := by decide +kernel
theorem dX6_gets_4 : decode cX6_gets 4 = .ok (.aload_n 0, 1) := by decide +kernel
theorem dX6_gets_5 : decode cX6_gets 5 = .ok (.iload_n 2, 1) := by decide +kernel
theorem dX6_gets_6 : decode cX6_gets 6 = .ok (.invokestatic 71, 3) := by decide +kernel
theorem dX6_gets_9 : decode cX6_gets 9 = .ok (.bipush 10, 2) := by decide +kernel
theorem dX6_gets_11 : decode cX6_gets 11 = .ok (.iadd, 1) := by decide +kernel
theorem dX6_gets_12 : decode cX6_gets 12 = .ok (.dup2, 1) := by decide +kernel
theorem dX6_gets_13 : decode cX6_gets 13 = .ok (.iaload, 1) := by decide +kernel
theorem dX6_gets_14 : decode cX6_gets 14 = .ok (.iconst 1, 1) := by decide +kernel
theorem dX6_gets_15 : decode cX6_gets 15 = .ok (.iload_n 1, 1) := by decide +kernel
theorem dX6_gets_16 : decode cX6_gets 16 = .ok (.ishl, 1) := by decide +kernel
theorem dX6_gets_17 : decode cX6_gets 17 = .ok (.ior, 1) := by decide +kernel
theorem dX6_gets_18 : decode cX6_gets 18 = .ok (.iastore, 1) := by decide +kernel
theorem dX6_gets_19 : decode cX6_gets 19 = .ok (.return_, 1) := by decide +kernel
theorem dX6_terms_0 : decode cX6_terms 0 = .ok (.aload_n 0, 1) := by decide +kernel
theorem dX6_terms_1 : decode cX6_terms 1 = .ok (.iconst 0, 1) := by decide +kernel
theorem dX6_terms_2 : decode cX6_terms 2 = .ok (.putfield 64, 3) := by decide +kernel
theorem dX6_terms_5 : decode cX6_terms 5 = .ok (.iload_n 1, 1) := by decide +kernel
theorem dX6_terms_6 : decode cX6_terms 6 = .ok (.iconst 1, 1) := by decide +kernel
theorem dX6_terms_7 : decode cX6_terms 7 = .ok (.sipush 1000, 3) := by decide +kernel
theorem dX6_terms_10 : decode cX6_terms 10 = .ok (.invokestatic 67, 3) := by decide +kernel
theorem dX6_terms_13 : decode cX6_terms 13 = .ok (.ifCond .eq 70, 3) := by decide +kernel
theorem dX6_terms_16 : decode cX6_terms 16 = .ok (.iload_n 2, 1) := by decide +kernel
theorem dX6_terms_17 : decode cX6_terms 17 = .ok (.iconst 1, 1) := by decide +kernel
theorem dX6_terms_18 : decode cX6_terms 18 = .ok (.sipush 10000, 3) := by decide +kernel
theorem dX6_terms_21 : decode cX6_terms 21 = .ok (.invokestatic 67, 3) := by decide +kernel
theorem dX6_terms_24 : decode cX6_terms 24 = .ok (.ifCond .eq 59, 3) := by decide +kernel
theorem dX6_terms_27 : decode cX6_terms 27 = .ok (.iload_n 3, 1) := by decide +kernel
theorem dX6_terms_28 : decode cX6_terms 28 = .ok (.iconst 0, 1) := by decide +kernel
theorem dX6_terms_29 : decode cX6_terms 29 = .ok (.bipush 20, 2) := by decide +kernel
theorem dX6_terms_31 : decode cX6_terms 31 = .ok (.invokestatic 67, 3) := by decide +kernel
theorem dX6_terms_34 : decode cX6_terms 34 = .ok (.ifCond .eq 49, 3) := by decide +kernel
theorem dX6_terms_37 : decode cX6_terms 37 = .ok (.iload 4, 2) := by decide +kernel
theorem dX6_terms_39 : decode cX6_terms 39 = .ok (.iconst 1, 1) := by decide +kernel
theorem dX6_terms_40 : decode cX6_terms 40 = .ok (.bipush 100, 2) := by decide +kernel
theorem dX6_terms_42 : decode cX6_terms 42 = .ok (.invokestatic 67, 3) := by decide +kernel
theorem dX6_terms_45 : decode cX6_terms 45 = .ok (.ifCond .eq 38, 3) := by decide +kernel
theorem dX6_terms_48 : decode cX6_terms 48 = .ok (.iload 5, 2) := by decide +kernel
theorem dX6_terms_50 : decode cX6_terms 50 = .ok (.iconst 0, 1) := by decide +kernel
theorem dX6_terms_51 : decode cX6_terms 51 = .ok (.sipush 1000, 3) := by decide +kernel
theorem dX6_terms_54 : decode cX6_terms 54 = .ok (.invokestatic 67, 3) := by decide +kernel
theorem dX6_terms_57 : decode cX6_terms 57 = .ok (.ifCond .eq 26, 3) := by decide +kernel
theorem dX6_terms_60 : decode cX6_terms 60 = .ok (.iload 6, 2) := by decide +kernel
theorem dX6_terms_62 : decode cX6_terms 62 = .ok (.iconst 1, 1) := by decide +kernel
theorem dX6_terms_63 : decode cX6_terms 63 = .ok (.bipush 100, 2) := by decide +kernel
theorem dX6_terms_65 : decode cX6_terms 65 = .ok (.invokestatic 67, 3) := by decide +kernel
theorem dX6_terms_68 : decode cX6_terms 68 = .ok (.ifCond .eq 15, 3) := by decide +kernel
theorem dX6_terms_71 : decode cX6_terms 71 = .ok (.iload 7, 2) := by decide +kernel
theorem dX6_terms_73 : decode cX6_terms 73 = .ok (.iconst 0, 1) := by decide +kernel
theorem dX6_terms_74 : decode cX6_terms 74 = .ok (.sipush 1000, 3) := by decide +kernel
theorem dX6_terms_77 : decode cX6_terms 77 = .ok (.invokestatic 67, 3) := by decide +kernel
theorem dX6_terms_80 : decode cX6_terms 80 = .ok (.ifCond .ne 5, 3) := by decide +kernel
theorem dX6_terms_83 : decode cX6_terms 83 = .ok (.iconst 0, 1) := by decide +kernel
theorem dX6_terms_84 : decode cX6_terms 84 = .ok (.ireturn, 1) := by decide +kernel
theorem dX6_terms_85 : decode cX6_terms 85 = .ok (.aload_n 0, 1) := by decide +kernel
theorem dX6_terms_86 : decode cX6_terms 86 = .ok (.getfield 9, 3) := by decide +kernel
theorem dX6_terms_89 : decode cX6_terms 89 = .ok (.iconst 4, 1) := by decide +kernel
theorem dX6_terms_90 : decode cX6_terms 90 = .ok (.iload_n 1, 1) := by decide +kernel
theorem dX6_terms_91 : decode cX6_terms 91 = .ok (.iastore, 1) := by decide +kernel
theorem dX6_terms_92 : decode cX6_terms 92 = .ok (.aload_n 0, 1) := by decide +kernel
theorem dX6_terms_93 : decode cX6_terms 93 = .ok (.getfield 9, 3) := by decide +kernel
theorem dX6_terms_96 : decode cX6_terms 96 = .ok (.iconst 5, 1) := by decide +kernel
theorem dX6_terms_97 : decode cX6_terms 97 = .ok (.iload_n 2, 1) := by decide +kernel
theorem dX6_terms_98 : decode cX6_terms 98 = .ok (.iastore, 1) := by decide +kernel
theorem dX6_terms_99 : decode cX6_terms 99 = .ok (.aload_n 0, 1) := by decide +kernel
theorem dX6_terms_100 : decode cX6_terms 100 = .ok (.getfield 9, 3) := by decide +kernel
theorem dX6_terms_103 : decode cX6_terms 103 = .ok (.bipush 6, 2) := by decide +kernel
theorem dX6_terms_105 : decode cX6_terms 105 = .ok (.iload_n 3, 1) := by decide +kernel
theorem dX6_terms_106 : decode cX6_terms 106 = .ok (.iastore, 1) := by decide +kernel
theorem dX6_terms_107 : decode cX6_terms 107 = .ok (.aload_n 0, 1) := by decide +kernel
theorem dX6_terms_108 : decode cX6_terms 108 = .ok (.getfield 9, 3) := by decide +kernel
theorem dX6_terms_111 : decode cX6_terms 111 = .ok (.bipush 7, 2) := by decide +kernel
theorem dX6_terms_113 : decode cX6_terms 113 = .ok (.iload 4, 2) := by decide +kernel
theorem dX6_terms_115 : decode cX6_terms 115 = .ok (.iastore, 1) := by decide +kernel
theorem dX6_terms_116 : decode cX6_terms 116 = .ok (.aload_n 0, 1) := by decide +kernel
theorem dX6_terms_117 : decode cX6_terms 117 = .ok (.getfield 9, 3) := by decide +kernel
theorem dX6_terms_120 : decode cX6_terms 120 = .ok (.bipush 8, 2) := by decide +kernel
theorem dX6_terms_122 : decode cX6_terms 122 = .ok (.iload 5, 2) := by decide +kernel
theorem dX6_terms_124 : decode cX6_terms 124 = .ok (.iastore, 1) := by decide +kernel
theorem dX6_terms_125 : decode cX6_terms 125 = .ok (.aload_n 0, 1) := by decide +kernel
theorem dX6_terms_126 : decode cX6_terms 126 = .ok (.getfield 9, 3) := by decide +kernel
theorem dX6_terms_129 : decode cX6_terms 129 = .ok (.bipush 9, 2) := by decide +kernel
theorem dX6_terms_131 : decode cX6_terms 131 = .ok (.iload 6, 2) := by decide +kernel
theorem dX6_terms_133 : decode cX6_terms 133 = .ok (.iastore, 1) := by decide +kernel
theorem dX6_terms_134 : decode cX6_terms 134 = .ok (.aload_n 0, 1) := by decide +kernel
theorem dX6_terms_135 : decode cX6_terms 135 = .ok (.getfield 9, 3) := by decide +kernel
theorem dX6_terms_138 : decode cX6_terms 138 = .ok (.bipush 10, 2) := by decide +kernel
theorem dX6_terms_140 : decode cX6_terms 140 = .ok (.iload 7, 2) := by decide +kernel
theorem dX6_terms_142 : decode cX6_terms 142 = .ok (.iastore, 1) := by decide +kernel
theorem dX6_terms_143 : decode cX6_terms 143 = .ok (.iconst 1, 1) := by decide +kernel
theorem dX6_terms_144 : decode cX6_terms 144 = .ok (.ireturn, 1) := by decide +kernel
theorem dX6_checks_0 : decode cX6_checks 0 = .ok (.aload_n 0, 1) := by decide +kernel
theorem dX6_checks_1 : decode cX6_checks 1 = .ok (.iconst 0, 1) := by decide +kernel
theorem dX6_checks_2 : decode cX6_checks 2 = .ok (.putfield 64, 3) := by decide +kernel
theorem dX6_checks_5 : decode cX6_checks 5 = .ok (.iload_n 1, 1) := by decide +kernel
theorem dX6_checks_6 : decode cX6_checks 6 = .ok (.iconst 0, 1) := by decide +kernel
theorem dX6_checks_7 : decode cX6_checks 7 = .ok (.sipush 255, 3) := by decide +kernel
theorem dX6_checks_10 : decode cX6_checks 10 = .ok (.invokestatic 67, 3) := by decide +kernel
theorem dX6_checks_13 : decode cX6_checks 13 = .ok (.ifCond .ne 6, 3) := by decide +kernel
theorem dX6_checks_16 : decode cX6_checks 16 = .ok (.bipush (-2), 2) := by decide +kernel
theorem dX6_checks_18 : decode cX6_checks 18 = .ok (.ireturn, 1) := by decide +kernel
theorem dX6_checks_19 : decode cX6_checks 19 = .ok (.aload_n 0, 1) := by decide +kernel
theorem dX6_checks_20 : decode cX6_checks 20 = .ok (.getfield 9, 3) := by decide +kernel
theorem dX6_checks_23 : decode cX6_checks 23 = .ok (.iconst 3, 1) := by decide +kernel
theorem dX6_checks_24 : decode cX6_checks 24 = .ok (.iaload, 1) := by decide +kernel
theorem dX6_checks_25 : decode cX6_checks 25 = .ok (.istore_n 2, 1) := by decide +kernel
theorem dX6_checks_26 : decode cX6_checks 26 = .ok (.aload_n 0, 1) := by decide +kernel
theorem dX6_checks_27 : decode cX6_checks 27 = .ok (.getfield 9, 3) := by decide +kernel
theorem dX6_checks_30 : decode cX6_checks 30 = .ok (.iconst 3, 1) := by decide +kernel
theorem dX6_checks_31 : decode cX6_checks 31 = .ok (.iload_n 1, 1) := by decide +kernel
theorem dX6_checks_32 : decode cX6_checks 32 = .ok (.iastore, 1) := by decide +kernel
theorem dX6_checks_33 : decode cX6_checks 33 = .ok (.iload_n 2, 1) := by decide +kernel
theorem dX6_checks_34 : decode cX6_checks 34 = .ok (.ireturn, 1) := by decide +kernel
theorem dX6_house__0 : decode cX6_house_ 0 = .ok (.aload_n 0, 1) := by decide +kernel
theorem dX6_house__1 : decode cX6_house_ 1 = .ok (.iconst 0, 1) := by decide +kernel
theorem dX6_house__2 : decode cX6_house_ 2 = .ok (.putfield 64, 3) := by decide +kernel
theorem dX6_house__5 : decode cX6_house_ 5 = .ok (.iload_n 1, 1) := by decide +kernel
theorem dX6_house__6 : decode cX6_house_ 6 = .ok (.bipush (-20), 2) := by decide +kernel
theorem dX6_house__8 : decode cX6_house_ 8 = .ok (.bipush 20, 2) := by decide +kernel
theorem dX6_house__10 : decode cX6_house_ 10 = .ok (.invokestatic 67, 3) := by decide +kernel
theorem dX6_house__13 : decode cX6_house_ 13 = .ok (.ifCond .eq 14, 3) := by decide +kernel
theorem dX6_house__16 : decode cX6_house_ 16 = .ok (.iload_n 3, 1) := by decide +kernel
theorem dX6_house__17 : decode cX6_house_ 17 = .ok (.iconst 0, 1) := by decide +kernel
theorem dX6_house__18 : decode cX6_house_ 18 = .ok (.sipush 255, 3) := by decide +kernel
theorem dX6_house__21 : decode cX6_house_ 21 = .ok (.invokestatic 67, 3) := by decide +kernel
theorem dX6_house__24 : decode cX6_house_ 24 = .ok (.ifCond .ne 6, 3) := by decide +kernel
theorem dX6_house__27 : decode cX6_house_ 27 = .ok (.bipush (-2), 2) := by decide +kernel
theorem dX6_house__29 : decode cX6_house_ 29 = .ok (.ireturn, 1) := by decide +kernel
theorem dX6_house__30 : decode cX6_house_ 30 = .ok (.aload_n 0, 1) := by decide +kernel
theorem dX6_house__31 : decode cX6_house_ 31 = .ok (.getfield 9, 3) := by decide +kernel
theorem dX6_house__34 : decode cX6_house_ 34 = .ok (.bipush 11, 2) := by decide +kernel
theorem dX6_house__36 : decode cX6_house_ 36 = .ok (.iaload, 1) := by decide +kernel
theorem dX6_house__37 : decode cX6_house_ 37 = .ok (.iconst 4, 1) := by decide +kernel
theorem dX6_house__38 : decode cX6_house_ 38 = .ok (.if_icmp .ne 6, 3) := by decide +kernel
theorem dX6_house__41 : decode cX6_house_ 41 = .ok (.bipush (-3), 2) := by decide +kernel
theorem dX6_house__43 : decode cX6_house_ 43 = .ok (.ireturn, 1) := by decide +kernel
theorem dX6_house__44 : decode cX6_house_ 44 = .ok (.aload_n 0, 1) := by decide +kernel
theorem dX6_house__45 : decode cX6_house_ 45 = .ok (.getfield 9, 3) := by decide +kernel
theorem dX6_house__48 : decode cX6_house_ 48 = .ok (.bipush 11, 2) := by decide +kernel
theorem dX6_house__50 : decode cX6_house_ 50 = .ok (.iaload, 1) := by decide +kernel
theorem dX6_house__51 : decode cX6_house_ 51 = .ok (.invokestatic 75, 3) := by decide +kernel
theorem dX6_house__54 : decode cX6_house_ 54 = .ok (.istore 4, 2) := by decide +kernel
theorem dX6_house__56 : decode cX6_house_ 56 = .ok (.aload_n 0, 1) := by decide +kernel
theorem dX6_house__57 : decode cX6_house_ 57 = .ok (.getfield 9, 3) := by decide +kernel
theorem dX6_house__60 : decode cX6_house_ 60 = .ok (.iload 4, 2) := by decide +kernel
theorem dX6_house__62 : decode cX6_house_ 62 = .ok (.iconst 0, 1) := by decide +kernel
theorem dX6_house__63 : decode cX6_house_ 63 = .ok (.iadd, 1) := by decide +kernel
theorem dX6_house__64 : decode cX6_house_ 64 = .ok (.iload_n 1, 1) := by decide +kernel
theorem dX6_house__65 : decode cX6_house_ 65 = .ok (.iastore, 1) := by decide +kernel
theorem dX6_house__66 : decode cX6_house_ 66 = .ok (.aload_n 0, 1) := by decide +kernel
theorem dX6_house__67 : decode cX6_house_ 67 = .ok (.getfield 9, 3) := by decide +kernel
theorem dX6_house__70 : decode cX6_house_ 70 = .ok (.iload 4, 2) := by decide +kernel
theorem dX6_house__72 : decode cX6_house_ 72 = .ok (.iconst 1, 1) := by decide +kernel
theorem dX6_house__73 : decode cX6_house_ 73 = .ok (.iadd, 1) := by decide +kernel
theorem dX6_house__74 : decode cX6_house_ 74 = .ok (.iload_n 2, 1) := by decide +kernel
theorem dX6_house__75 : decode cX6_house_ 75 = .ok (.ifCond .eq 7, 3) := by decide +kernel
theorem dX6_house__78 : decode cX6_house_ 78 = .ok (.iconst 1, 1) := by decide +kernel
theorem dX6_house__79 : decode cX6_house_ 79 = .ok (.goto 4, 3) := by decide +kernel
theorem dX6_house__82 : decode cX6_house_ 82 = .ok (.iconst 0, 1) := by decide +kernel
theorem dX6_house__83 : decode cX6_house_ 83 = .ok (.iastore, 1) := by decide +kernel
theorem dX6_house__84 : decode cX6_house_ 84 = .ok (.aload_n 0, 1) := by decide +kernel
theorem dX6_house__85 : decode cX6_house_ 85 = .ok (.getfield 9, 3) := by decide +kernel
theorem dX6_house__88 : decode cX6_house_ 88 = .ok (.iload 4, 2) := by decide +kernel
theorem dX6_house__90 : decode cX6_house_ 90 = .ok (.iconst 2, 1) := by decide +kernel
theorem dX6_house__91 : decode cX6_house_ 91 = .ok (.iadd, 1) := by decide +kernel
theorem dX6_house__92 : decode cX6_house_ 92 = .ok (.iload_n 3, 1) := by decide +kernel
theorem dX6_house__93 : decode cX6_house_ 93 = .ok (.iastore, 1) := by decide +kernel
theorem dX6_house__94 : decode cX6_house_ 94 = .ok (.aload_n 0, 1) := by decide +kernel
theorem dX6_house__95 : decode cX6_house_ 95 = .ok (.getfield 9, 3) := by decide +kernel
theorem dX6_house__98 : decode cX6_house_ 98 = .ok (.iload 4, 2) := by decide +kernel
theorem dX6_house__100 : decode cX6_house_ 100 = .ok (.iconst 3, 1) := by decide +kernel
theorem dX6_house__101 : decode cX6_house_ 101 = .ok (.iadd, 1) := by decide +kernel
theorem dX6_house__102 : decode cX6_house_ 102 = .ok (.iconst 1, 1) := by decide +kernel
theorem dX6_house__103 : decode cX6_house_ 103 = .ok (.iastore, 1) := by decide +kernel
theorem dX6_house__104 : decode cX6_house_ 104 = .ok (.aload_n 0, 1) := by decide +kernel
theorem dX6_house__105 : decode cX6_house_ 105 = .ok (.getfield 9, 3) := by decide +kernel
theorem dX6_house__108 : decode cX6_house_ 108 = .ok (.iload 4, 2) := by decide +kernel
theorem dX6_house__110 : decode cX6_house_ 110 = .ok (.iconst 4, 1) := by decide +kernel
theorem dX6_house__111 : decode cX6_house_ 111 = .ok (.iadd, 1) := by decide +kernel
theorem dX6_house__112 : decode cX6_house_ 112 = .ok (.aload_n 0, 1) := by decide +kernel
theorem dX6_house__113 : decode cX6_house_ 113 = .ok (.getfield 9, 3) := by decide +kernel
theorem dX6_house__116 : decode cX6_house_ 116 = .ok (.iconst 0, 1) := by decide +kernel
theorem dX6_house__117 : decode cX6_house_ 117 = .ok (.iaload, 1) := by decide +kernel
theorem dX6_house__118 : decode cX6_house_ 118 = .ok (.iastore, 1) := by decide +kernel
theorem dX6_house__119 : decode cX6_house_ 119 = .ok (.aload_n 0, 1) := by decide +kernel
theorem dX6_house__120 : decode cX6_house_ 120 = .ok (.getfield 9, 3) := by decide +kernel
theorem dX6_house__123 : decode cX6_house_ 123 = .ok (.bipush 11, 2) := by decide +kernel
theorem dX6_house__125 : decode cX6_house_ 125 = .ok (.dup2, 1) := by decide +kernel
theorem dX6_house__126 : decode cX6_house_ 126 = .ok (.iaload, 1) := by decide +kernel
theorem dX6_house__127 : decode cX6_house_ 127 = .ok (.iconst 1, 1) := by decide +kernel
theorem dX6_house__128 : decode cX6_house_ 128 = .ok (.iadd, 1) := by decide +kernel
theorem dX6_house__129 : decode cX6_house_ 129 = .ok (.iastore, 1) := by decide +kernel
theorem dX6_house__130 : decode cX6_house_ 130 = .ok (.aload_n 0, 1) := by decide +kernel
theorem dX6_house__131 : decode cX6_house_ 131 = .ok (.getfield 9, 3) := by decide +kernel
theorem dX6_house__134 : decode cX6_house_ 134 = .ok (.bipush 11, 2) := by decide +kernel
theorem dX6_house__136 : decode cX6_house_ 136 = .ok (.iaload, 1) := by decide +kernel
theorem dX6_house__137 : decode cX6_house_ 137 = .ok (.iconst 1, 1) := by decide +kernel
theorem dX6_house__138 : decode cX6_house_ 138 = .ok (.isub, 1) := by decide +kernel
theorem dX6_house__139 : decode cX6_house_ 139 = .ok (.ireturn, 1) := by decide +kernel
theorem dX6_throwOut_0 : decode cX6_throwOut 0 = .ok (.aload_n 0, 1) := by decide +kernel
theorem dX6_throwOut_1 : decode cX6_throwOut 1 = .ok (.iconst 0, 1) := by decide +kernel
theorem dX6_throwOut_2 : decode cX6_throwOut 2 = .ok (.putfield 64, 3) := by decide +kernel
theorem dX6_throwOut_5 : decode cX6_throwOut 5 = .ok (.aload_n 0, 1) := by decide +kernel
theorem dX6_throwOut_6 : decode cX6_throwOut 6 = .ok (.iload_n 1, 1) := by decide +kernel
theorem dX6_throwOut_7 : decode cX6_throwOut 7 = .ok (.invokevirtual 78, 3) := by decide +kernel
theorem dX6_throwOut_10 : decode cX6_throwOut 10 = .ok (.ifCond .eq 17, 3) := by decide +kernel
theorem dX6_throwOut_13 : decode cX6_throwOut 13 = .ok (.aload_n 0, 1) := by decide +kernel
theorem dX6_throwOut_14 : decode cX6_throwOut 14 = .ok (.getfield 9, 3) := by decide +kernel
theorem dX6_throwOut_17 : decode cX6_throwOut 17 = .ok (.iload_n 1, 1) := by decide +kernel
theorem dX6_throwOut_18 : decode cX6_throwOut 18 = .ok (.invokestatic 75, 3) := by decide +kernel
theorem dX6_throwOut_21 : decode cX6_throwOut 21 = .ok (.iconst 3, 1) := by decide +kernel
theorem dX6_throwOut_22 : decode cX6_throwOut 22 = .ok (.iadd, 1) := by decide +kernel
theorem dX6_throwOut_23 : decode cX6_throwOut 23 = .ok (.iaload, 1) := by decide +kernel
theorem dX6_throwOut_24 : decode cX6_throwOut 24 = .ok (.ifCond .ne 5, 3) := by decide +kernel
theorem dX6_throwOut_27 : decode cX6_throwOut 27 = .ok (.iconst 0, 1) := by decide +kernel
theorem dX6_throwOut_28 : decode cX6_throwOut 28 = .ok (.ireturn, 1) := by decide +kernel
theorem dX6_throwOut_29 : decode cX6_throwOut 29 = .ok (.aload_n 0, 1) := by decide +kernel
theorem dX6_throwOut_30 : decode cX6_throwOut 30 = .ok (.getfield 9, 3) := by decide +kernel
theorem dX6_throwOut_33 : decode cX6_throwOut 33 = .ok (.iload_n 1, 1) := by decide +kernel
theorem dX6_throwOut_34 : decode cX6_throwOut 34 = .ok (.invokestatic 75, 3) := by decide +kernel
theorem dX6_throwOut_37 : decode cX6_throwOut 37 = .ok (.iconst 3, 1) := by decide +kernel
theorem dX6_throwOut_38 : decode cX6_throwOut 38 = .ok (.iadd, 1) := by decide +kernel
theorem dX6_throwOut_39 : decode cX6_throwOut 39 = .ok (.iconst 0, 1) := by decide +kernel
theorem dX6_throwOut_40 : decode cX6_throwOut 40 = .ok (.iastore, 1) := by decide +kernel
theorem dX6_throwOut_41 : decode cX6_throwOut 41 = .ok (.iconst 1, 1) := by decide +kernel
theorem dX6_throwOut_42 : decode cX6_throwOut 42 = .ok (.ireturn, 1) := by decide +kernel
theorem dX6_keeper_0 : decode cX6_keeper 0 = .ok (.aload_n 0, 1) := by decide +kernel
theorem dX6_keeper_1 : decode cX6_keeper 1 = .ok (.iconst 0, 1) := by decide +kernel
theorem dX6_keeper_2 : decode cX6_keeper 2 = .ok (.putfield 64, 3) := by decide +kernel
theorem dX6_keeper_5 : decode cX6_keeper 5 = .ok (.aload_n 0, 1) := by decide +kernel
theorem dX6_keeper_6 : decode cX6_keeper 6 = .ok (.getfield 9, 3) := by decide +kernel
theorem dX6_keeper_9 : decode cX6_keeper 9 = .ok (.iconst 1, 1) := by decide +kernel
theorem dX6_keeper_10 : decode cX6_keeper 10 = .ok (.iaload, 1) := by decide +kernel
theorem dX6_keeper_11 : decode cX6_keeper 11 = .ok (.iconst 1, 1) := by decide +kernel
theorem dX6_keeper_12 : decode cX6_keeper 12 = .ok (.if_icmp .ne 7, 3) := by decide +kernel
theorem dX6_keeper_15 : decode cX6_keeper 15 = .ok (.iconst 1, 1) := by decide +kernel
theorem dX6_keeper_16 : decode cX6_keeper 16 = .ok (.goto 4, 3) := by decide +kernel
theorem dX6_keeper_19 : decode cX6_keeper 19 = .ok (.iconst 0, 1) := by decide +kernel
theorem dX6_keeper_20 : decode cX6_keeper 20 = .ok (.istore_n 2, 1) := by decide +kernel
theorem dX6_keeper_21 : decode cX6_keeper 21 = .ok (.aload_n 0, 1) := by decide +kernel
theorem dX6_keeper_22 : decode cX6_keeper 22 = .ok (.getfield 9, 3) := by decide +kernel
theorem dX6_keeper_25 : decode cX6_keeper 25 = .ok (.iconst 1, 1) := by decide +kernel
theorem dX6_keeper_26 : decode cX6_keeper 26 = .ok (.iload_n 1, 1) := by decide +kernel
theorem dX6_keeper_27 : decode cX6_keeper 27 = .ok (.ifCond .eq 7, 3) := by decide +kernel
theorem dX6_keeper_30 : decode cX6_keeper 30 = .ok (.iconst 1, 1) := by decide +kernel
theorem dX6_keeper_31 : decode cX6_keeper 31 = .ok (.goto 4, 3) := by decide +kernel
theorem dX6_keeper_34 : decode cX6_keeper 34 = .ok (.iconst 0, 1) := by decide +kernel
theorem dX6_keeper_35 : decode cX6_keeper 35 = .ok (.iastore, 1) := by decide +kernel
theorem dX6_keeper_36 : decode cX6_keeper 36 = .ok (.iload_n 2, 1) := by decide +kernel
theorem dX6_keeper_37 : decode cX6_keeper 37 = .ok (.ireturn, 1) := by decide +kernel
theorem dX6_tap_0 : decode cX6_tap 0 = .ok (.aload_n 0, 1) := by decide +kernel
theorem dX6_tap_1 : decode cX6_tap 1 = .ok (.iconst 0, 1) := by decide +kernel
theorem dX6_tap_2 : decode cX6_tap 2 = .ok (.putfield 64, 3) := by decide +kernel
theorem dX6_tap_5 : decode cX6_tap 5 = .ok (.iload_n 1, 1) := by decide +kernel
theorem dX6_tap_6 : decode cX6_tap 6 = .ok (.iconst 0, 1) := by decide +kernel
theorem dX6_tap_7 : decode cX6_tap 7 = .ok (.sipush 511, 3) := by decide +kernel
theorem dX6_tap_10 : decode cX6_tap 10 = .ok (.invokestatic 67, 3) := by decide +kernel
theorem dX6_tap_13 : decode cX6_tap 13 = .ok (.ifCond .ne 6, 3) := by decide +kernel
theorem dX6_tap_16 : decode cX6_tap 16 = .ok (.bipush (-2), 2) := by decide +kernel
theorem dX6_tap_18 : decode cX6_tap 18 = .ok (.ireturn, 1) := by decide +kernel
theorem dX6_tap_19 : decode cX6_tap 19 = .ok (.aload_n 0, 1) := by decide +kernel
theorem dX6_tap_20 : decode cX6_tap 20 = .ok (.getfield 9, 3) := by decide +kernel
theorem dX6_tap_23 : decode cX6_tap 23 = .ok (.iconst 2, 1) := by decide +kernel
theorem dX6_tap_24 : decode cX6_tap 24 = .ok (.iaload, 1) := by decide +kernel
theorem dX6_tap_25 : decode cX6_tap 25 = .ok (.istore_n 2, 1) := by decide +kernel
theorem dX6_tap_26 : decode cX6_tap 26 = .ok (.aload_n 0, 1) := by decide +kernel
theorem dX6_tap_27 : decode cX6_tap 27 = .ok (.getfield 9, 3) := by decide +kernel
theorem dX6_tap_30 : decode cX6_tap 30 = .ok (.iconst 2, 1) := by decide +kernel
theorem dX6_tap_31 : decode cX6_tap 31 = .ok (.iload_n 1, 1) := by decide +kernel
theorem dX6_tap_32 : decode cX6_tap 32 = .ok (.iastore, 1) := by decide +kernel
theorem dX6_tap_33 : decode cX6_tap 33 = .ok (.iload_n 2, 1) := by decide +kernel
theorem dX6_tap_34 : decode cX6_tap 34 = .ok (.ireturn, 1) := by decide +kernel
theorem dX6_prove_0 : decode cX6_prove 0 = .ok (.aload_n 0, 1) := by decide +kernel
theorem dX6_prove_1 : decode cX6_prove 1 = .ok (.iconst 0, 1) := by decide +kernel
theorem dX6_prove_2 : decode cX6_prove 2 = .ok (.putfield 64, 3) := by decide +kernel
theorem dX6_prove_5 : decode cX6_prove 5 = .ok (.iload_n 1, 1) := by decide +kernel
theorem dX6_prove_6 : decode cX6_prove 6 = .ok (.iconst 0, 1) := by decide +kernel
theorem dX6_prove_7 : decode cX6_prove 7 = .ok (.iconst 4, 1) := by decide +kernel
theorem dX6_prove_8 : decode cX6_prove 8 = .ok (.invokestatic 67, 3) := by decide +kernel
theorem dX6_prove_11 : decode cX6_prove 11 = .ok (.ifCond .eq 12, 3) := by decide +kernel
theorem dX6_prove_14 : decode cX6_prove 14 = .ok (.aload_n 0, 1) := by decide +kernel
theorem dX6_prove_15 : decode cX6_prove 15 = .ok (.getfield 9, 3) := by decide +kernel
theorem dX6_prove_18 : decode cX6_prove 18 = .ok (.iconst 1, 1) := by decide +kernel
theorem dX6_prove_19 : decode cX6_prove 19 = .ok (.iaload, 1) := by decide +kernel
theorem dX6_prove_20 : decode cX6_prove 20 = .ok (.ifCond .ne 5, 3) := by decide +kernel
theorem dX6_prove_23 : decode cX6_prove 23 = .ok (.iconst 0, 1) := by decide +kernel
theorem dX6_prove_24 : decode cX6_prove 24 = .ok (.ireturn, 1) := by decide +kernel
theorem dX6_prove_25 : decode cX6_prove 25 = .ok (.aload_n 0, 1) := by decide +kernel
theorem dX6_prove_26 : decode cX6_prove 26 = .ok (.getfield 9, 3) := by decide +kernel
theorem dX6_prove_29 : decode cX6_prove 29 = .ok (.iload_n 1, 1) := by decide +kernel
theorem dX6_prove_30 : decode cX6_prove 30 = .ok (.invokestatic 82, 3) := by decide +kernel
theorem dX6_prove_33 : decode cX6_prove 33 = .ok (.iconst 0, 1) := by decide +kernel
theorem dX6_prove_34 : decode cX6_prove 34 = .ok (.iadd, 1) := by decide +kernel
theorem dX6_prove_35 : decode cX6_prove 35 = .ok (.aload_n 0, 1) := by decide +kernel
theorem dX6_prove_36 : decode cX6_prove 36 = .ok (.getfield 9, 3) := by decide +kernel
theorem dX6_prove_39 : decode cX6_prove 39 = .ok (.iconst 0, 1) := by decide +kernel
theorem dX6_prove_40 : decode cX6_prove 40 = .ok (.iaload, 1) := by decide +kernel
theorem dX6_prove_41 : decode cX6_prove 41 = .ok (.iastore, 1) := by decide +kernel
theorem dX6_prove_42 : decode cX6_prove 42 = .ok (.iconst 1, 1) := by decide +kernel
theorem dX6_prove_43 : decode cX6_prove 43 = .ok (.ireturn, 1) := by decide +kernel
theorem dX6_leave_0 : decode cX6_leave 0 = .ok (.aload_n 0, 1) := by decide +kernel
theorem dX6_leave_1 : decode cX6_leave 1 = .ok (.iconst 0, 1) := by decide +kernel
theorem dX6_leave_2 : decode cX6_leave 2 = .ok (.putfield 64, 3) := by decide +kernel
theorem dX6_leave_5 : decode cX6_leave 5 = .ok (.iload_n 1, 1) := by decide +kernel
theorem dX6_leave_6 : decode cX6_leave 6 = .ok (.iconst 0, 1) := by decide +kernel
theorem dX6_leave_7 : decode cX6_leave 7 = .ok (.iconst 4, 1) := by decide +kernel
theorem dX6_leave_8 : decode cX6_leave 8 = .ok (.invokestatic 67, 3) := by decide +kernel
theorem dX6_leave_11 : decode cX6_leave 11 = .ok (.ifCond .ne 6, 3) := by decide +kernel
theorem dX6_leave_14 : decode cX6_leave 14 = .ok (.bipush (-2), 2) := by decide +kernel
theorem dX6_leave_16 : decode cX6_leave 16 = .ok (.ireturn, 1) := by decide +kernel
theorem dX6_leave_17 : decode cX6_leave 17 = .ok (.aload_n 0, 1) := by decide +kernel
theorem dX6_leave_18 : decode cX6_leave 18 = .ok (.getfield 9, 3) := by decide +kernel
theorem dX6_leave_21 : decode cX6_leave 21 = .ok (.iconst 1, 1) := by decide +kernel
theorem dX6_leave_22 : decode cX6_leave 22 = .ok (.iaload, 1) := by decide +kernel
theorem dX6_leave_23 : decode cX6_leave 23 = .ok (.ifCond .ne 6, 3) := by decide +kernel
theorem dX6_leave_26 : decode cX6_leave 26 = .ok (.bipush (-3), 2) := by decide +kernel
theorem dX6_leave_28 : decode cX6_leave 28 = .ok (.ireturn, 1) := by decide +kernel
theorem dX6_leave_29 : decode cX6_leave 29 = .ok (.aload_n 0, 1) := by decide +kernel
theorem dX6_leave_30 : decode cX6_leave 30 = .ok (.getfield 9, 3) := by decide +kernel
theorem dX6_leave_33 : decode cX6_leave 33 = .ok (.iload_n 1, 1) := by decide +kernel
theorem dX6_leave_34 : decode cX6_leave 34 = .ok (.invokestatic 82, 3) := by decide +kernel
theorem dX6_leave_37 : decode cX6_leave 37 = .ok (.iconst 0, 1) := by decide +kernel
theorem dX6_leave_38 : decode cX6_leave 38 = .ok (.iadd, 1) := by decide +kernel
theorem dX6_leave_39 : decode cX6_leave 39 = .ok (.iconst (-1), 1) := by decide +kernel
theorem dX6_leave_40 : decode cX6_leave 40 = .ok (.iastore, 1) := by decide +kernel
theorem dX6_leave_41 : decode cX6_leave 41 = .ok (.iconst 0, 1) := by decide +kernel
theorem dX6_leave_42 : decode cX6_leave 42 = .ok (.istore_n 2, 1) := by decide +kernel
theorem dX6_leave_43 : decode cX6_leave 43 = .ok (.iconst 0, 1) := by decide +kernel
theorem dX6_leave_44 : decode cX6_leave 44 = .ok (.istore_n 3, 1) := by decide +kernel
theorem dX6_leave_45 : decode cX6_leave 45 = .ok (.iload_n 3, 1) := by decide +kernel
theorem dX6_leave_46 : decode cX6_leave 46 = .ok (.aload_n 0, 1) := by decide +kernel
theorem dX6_leave_47 : decode cX6_leave 47 = .ok (.getfield 9, 3) := by decide +kernel
theorem dX6_leave_50 : decode cX6_leave 50 = .ok (.bipush 13, 2) := by decide +kernel
theorem dX6_leave_52 : decode cX6_leave 52 = .ok (.iaload, 1) := by decide +kernel
theorem dX6_leave_53 : decode cX6_leave 53 = .ok (.if_icmp .ge 52, 3) := by decide +kernel
theorem dX6_leave_56 : decode cX6_leave 56 = .ok (.aload_n 0, 1) := by decide +kernel
theorem dX6_leave_57 : decode cX6_leave 57 = .ok (.getfield 9, 3) := by decide +kernel
theorem dX6_leave_60 : decode cX6_leave 60 = .ok (.iload_n 3, 1) := by decide +kernel
theorem dX6_leave_61 : decode cX6_leave 61 = .ok (.invokestatic 85, 3) := by decide +kernel
theorem dX6_leave_64 : decode cX6_leave 64 = .ok (.iaload, 1) := by decide +kernel
theorem dX6_leave_65 : decode cX6_leave 65 = .ok (.iload_n 1, 1) := by decide +kernel
theorem dX6_leave_66 : decode cX6_leave 66 = .ok (.if_icmp .ne 33, 3) := by decide +kernel
theorem dX6_leave_69 : decode cX6_leave 69 = .ok (.aload_n 0, 1) := by decide +kernel
theorem dX6_leave_70 : decode cX6_leave 70 = .ok (.getfield 9, 3) := by decide +kernel
theorem dX6_leave_73 : decode cX6_leave 73 = .ok (.iload_n 3, 1) := by decide +kernel
theorem dX6_leave_74 : decode cX6_leave 74 = .ok (.invokestatic 85, 3) := by decide +kernel
theorem dX6_leave_77 : decode cX6_leave 77 = .ok (.iconst 1, 1) := by decide +kernel
theorem dX6_leave_78 : decode cX6_leave 78 = .ok (.iadd, 1) := by decide +kernel
theorem dX6_leave_79 : decode cX6_leave 79 = .ok (.iaload, 1) := by decide +kernel
theorem dX6_leave_80 : decode cX6_leave 80 = .ok (.iconst (-1), 1) := by decide +kernel
theorem dX6_leave_81 : decode cX6_leave 81 = .ok (.if_icmp .eq 6, 3) := by decide +kernel
theorem dX6_leave_84 : decode cX6_leave 84 = .ok (.goto 15, 3) := by decide +kernel
theorem dX6_leave_87 : decode cX6_leave 87 = .ok (.aload_n 0, 1) := by decide +kernel
theorem dX6_leave_88 : decode cX6_leave 88 = .ok (.aload_n 0, 1) := by decide +kernel
theorem dX6_leave_89 : decode cX6_leave 89 = .ok (.getfield 9, 3) := by decide +kernel
theorem dX6_leave_92 : decode cX6_leave 92 = .ok (.iload_n 3, 1) := by decide +kernel
theorem dX6_leave_93 : decode cX6_leave 93 = .ok (.invokevirtual 88, 3) := by decide +kernel
theorem dX6_leave_96 : decode cX6_leave 96 = .ok (.iinc 2 1, 3) := by decide +kernel
theorem dX6_leave_99 : decode cX6_leave 99 = .ok (.iinc 3 1, 3) := by decide +kernel
theorem dX6_leave_102 : decode cX6_leave 102 = .ok (.goto (-57), 3) := by decide +kernel
theorem dX6_leave_105 : decode cX6_leave 105 = .ok (.iload_n 2, 1) := by decide +kernel
theorem dX6_leave_106 : decode cX6_leave 106 = .ok (.ireturn, 1) := by decide +kernel
theorem dX6_end_0 : decode cX6_end 0 = .ok (.aload_n 0, 1) := by decide +kernel
theorem dX6_end_1 : decode cX6_end 1 = .ok (.iconst 0, 1) := by decide +kernel
theorem dX6_end_2 : decode cX6_end 2 = .ok (.putfield 64, 3) := by decide +kernel
theorem dX6_end_5 : decode cX6_end 5 = .ok (.iload_n 1, 1) := by decide +kernel
theorem dX6_end_6 : decode cX6_end 6 = .ok (.iconst 0, 1) := by decide +kernel
theorem dX6_end_7 : decode cX6_end 7 = .ok (.aload_n 0, 1) := by decide +kernel
theorem dX6_end_8 : decode cX6_end 8 = .ok (.getfield 9, 3) := by decide +kernel
theorem dX6_end_11 : decode cX6_end 11 = .ok (.bipush 13, 2) := by decide +kernel
theorem dX6_end_13 : decode cX6_end 13 = .ok (.iaload, 1) := by decide +kernel
theorem dX6_end_14 : decode cX6_end 14 = .ok (.iconst 1, 1) := by decide +kernel
theorem dX6_end_15 : decode cX6_end 15 = .ok (.isub, 1) := by decide +kernel
theorem dX6_end_16 : decode cX6_end 16 = .ok (.invokestatic 67, 3) := by decide +kernel
theorem dX6_end_19 : decode cX6_end 19 = .ok (.ifCond .eq 27, 3) := by decide +kernel
theorem dX6_end_22 : decode cX6_end 22 = .ok (.aload_n 0, 1) := by decide +kernel
theorem dX6_end_23 : decode cX6_end 23 = .ok (.getfield 9, 3) := by decide +kernel
theorem dX6_end_26 : decode cX6_end 26 = .ok (.iload_n 1, 1) := by decide +kernel
theorem dX6_end_27 : decode cX6_end 27 = .ok (.invokestatic 85, 3) := by decide +kernel
theorem dX6_end_30 : decode cX6_end 30 = .ok (.iconst 1, 1) := by decide +kernel
theorem dX6_end_31 : decode cX6_end 31 = .ok (.iadd, 1) := by decide +kernel
theorem dX6_end_32 : decode cX6_end 32 = .ok (.iaload, 1) := by decide +kernel
theorem dX6_end_33 : decode cX6_end 33 = .ok (.iconst (-1), 1) := by decide +kernel
theorem dX6_end_34 : decode cX6_end 34 = .ok (.if_icmp .ne 12, 3) := by decide +kernel
theorem dX6_end_37 : decode cX6_end 37 = .ok (.aload_n 0, 1) := by decide +kernel
theorem dX6_end_38 : decode cX6_end 38 = .ok (.getfield 9, 3) := by decide +kernel
theorem dX6_end_41 : decode cX6_end 41 = .ok (.iconst 1, 1) := by decide +kernel
theorem dX6_end_42 : decode cX6_end 42 = .ok (.iaload, 1) := by decide +kernel
theorem dX6_end_43 : decode cX6_end 43 = .ok (.ifCond .ne 5, 3) := by decide +kernel
theorem dX6_end_46 : decode cX6_end 46 = .ok (.iconst 0, 1) := by decide +kernel
theorem dX6_end_47 : decode cX6_end 47 = .ok (.ireturn, 1) := by decide +kernel
theorem dX6_end_48 : decode cX6_end 48 = .ok (.aload_n 0, 1) := by decide +kernel
theorem dX6_end_49 : decode cX6_end 49 = .ok (.aload_n 0, 1) := by decide +kernel
theorem dX6_end_50 : decode cX6_end 50 = .ok (.getfield 9, 3) := by decide +kernel
theorem dX6_end_53 : decode cX6_end 53 = .ok (.iload_n 1, 1) := by decide +kernel
theorem dX6_end_54 : decode cX6_end 54 = .ok (.invokevirtual 88, 3) := by decide +kernel
theorem dX6_end_57 : decode cX6_end 57 = .ok (.iconst 1, 1) := by decide +kernel
theorem dX6_end_58 : decode cX6_end 58 = .ok (.ireturn, 1) := by decide +kernel
theorem dX6_posts_0 : decode cX6_posts 0 = .ok (.aload_n 1, 1) := by decide +kernel
theorem dX6_posts_1 : decode cX6_posts 1 = .ok (.bipush 14, 2) := by decide +kernel
theorem dX6_posts_3 : decode cX6_posts 3 = .ok (.iaload, 1) := by decide +kernel
theorem dX6_posts_4 : decode cX6_posts 4 = .ok (.bipush 12, 2) := by decide +kernel
theorem dX6_posts_6 : decode cX6_posts 6 = .ok (.if_icmp .ne 25, 3) := by decide +kernel
theorem dX6_posts_9 : decode cX6_posts 9 = .ok (.aload_n 0, 1) := by decide +kernel
theorem dX6_posts_10 : decode cX6_posts 10 = .ok (.dup, 1) := by decide +kernel
theorem dX6_posts_11 : decode cX6_posts 11 = .ok (.getfield 92, 3) := by decide +kernel
theorem dX6_posts_14 : decode cX6_posts 14 = .ok (.aload_n 0, 1) := by decide +kernel
theorem dX6_posts_15 : decode cX6_posts 15 = .ok (.getfield 95, 3) := by decide +kernel
theorem dX6_posts_18 : decode cX6_posts 18 = .ok (.ifCond .eq 7, 3) := by decide +kernel
theorem dX6_posts_21 : decode cX6_posts 21 = .ok (.iconst 0, 1) := by decide +kernel
theorem dX6_posts_22 : decode cX6_posts 22 = .ok (.goto 4, 3) := by decide +kernel
theorem dX6_posts_25 : decode cX6_posts 25 = .ok (.iconst 1, 1) := by decide +kernel
theorem dX6_posts_26 : decode cX6_posts 26 = .ok (.iadd, 1) := by decide +kernel
theorem dX6_posts_27 : decode cX6_posts 27 = .ok (.putfield 92, 3) := by decide +kernel
theorem dX6_posts_30 : decode cX6_posts 30 = .ok (.return_, 1) := by decide +kernel
theorem dX6_posts_31 : decode cX6_posts 31 = .ok (.aload_n 1, 1) := by decide +kernel
theorem dX6_posts_32 : decode cX6_posts 32 = .ok (.bipush 14, 2) := by decide +kernel
theorem dX6_posts_34 : decode cX6_posts 34 = .ok (.iaload, 1) := by decide +kernel
theorem dX6_posts_35 : decode cX6_posts 35 = .ok (.invokestatic 99, 3) := by decide +kernel
theorem dX6_posts_38 : decode cX6_posts 38 = .ok (.istore 8, 2) := by decide +kernel
theorem dX6_posts_40 : decode cX6_posts 40 = .ok (.aload_n 1, 1) := by decide +kernel
theorem dX6_posts_41 : decode cX6_posts 41 = .ok (.bipush 14, 2) := by decide +kernel
theorem dX6_posts_43 : decode cX6_posts 43 = .ok (.dup2, 1) := by decide +kernel
theorem dX6_posts_44 : decode cX6_posts 44 = .ok (.iaload, 1) := by decide +kernel
theorem dX6_posts_45 : decode cX6_posts 45 = .ok (.iconst 1, 1) := by decide +kernel
theorem dX6_posts_46 : decode cX6_posts 46 = .ok (.iadd, 1) := by decide +kernel
theorem dX6_posts_47 : decode cX6_posts 47 = .ok (.iastore, 1) := by decide +kernel
theorem dX6_posts_48 : decode cX6_posts 48 = .ok (.aload_n 1, 1) := by decide +kernel
theorem dX6_posts_49 : decode cX6_posts 49 = .ok (.iload 8, 2) := by decide +kernel
theorem dX6_posts_51 : decode cX6_posts 51 = .ok (.iload_n 2, 1) := by decide +kernel
theorem dX6_posts_52 : decode cX6_posts 52 = .ok (.iastore, 1) := by decide +kernel
theorem dX6_posts_53 : decode cX6_posts 53 = .ok (.aload_n 1, 1) := by decide +kernel
theorem dX6_posts_54 : decode cX6_posts 54 = .ok (.iload 8, 2) := by decide +kernel
theorem dX6_posts_56 : decode cX6_posts 56 = .ok (.iconst 1, 1) := by decide +kernel
theorem dX6_posts_57 : decode cX6_posts 57 = .ok (.iadd, 1) := by decide +kernel
theorem dX6_posts_58 : decode cX6_posts 58 = .ok (.iload_n 3, 1) := by decide +kernel
theorem dX6_posts_59 : decode cX6_posts 59 = .ok (.iastore, 1) := by decide +kernel
theorem dX6_posts_60 : decode cX6_posts 60 = .ok (.aload_n 1, 1) := by decide +kernel
theorem dX6_posts_61 : decode cX6_posts 61 = .ok (.iload 8, 2) := by decide +kernel
theorem dX6_posts_63 : decode cX6_posts 63 = .ok (.iconst 2, 1) := by decide +kernel
theorem dX6_posts_64 : decode cX6_posts 64 = .ok (.iadd, 1) := by decide +kernel
theorem dX6_posts_65 : decode cX6_posts 65 = .ok (.iload 4, 2) := by decide +kernel
theorem dX6_posts_67 : decode cX6_posts 67 = .ok (.iastore, 1) := by decide +kernel
theorem dX6_posts_68 : decode cX6_posts 68 = .ok (.aload_n 1, 1) := by decide +kernel
theorem dX6_posts_69 : decode cX6_posts 69 = .ok (.iload 8, 2) := by decide +kernel
theorem dX6_posts_71 : decode cX6_posts 71 = .ok (.iconst 3, 1) := by decide +kernel
theorem dX6_posts_72 : decode cX6_posts 72 = .ok (.iadd, 1) := by decide +kernel
theorem dX6_posts_73 : decode cX6_posts 73 = .ok (.iload 5, 2) := by decide +kernel
theorem dX6_posts_75 : decode cX6_posts 75 = .ok (.iastore, 1) := by decide +kernel
theorem dX6_posts_76 : decode cX6_posts 76 = .ok (.aload_n 1, 1) := by decide +kernel
theorem dX6_posts_77 : decode cX6_posts 77 = .ok (.iload 8, 2) := by decide +kernel
theorem dX6_posts_79 : decode cX6_posts 79 = .ok (.iconst 4, 1) := by decide +kernel
theorem dX6_posts_80 : decode cX6_posts 80 = .ok (.iadd, 1) := by decide +kernel
theorem dX6_posts_81 : decode cX6_posts 81 = .ok (.iload 6, 2) := by decide +kernel
theorem dX6_posts_83 : decode cX6_posts 83 = .ok (.iastore, 1) := by decide +kernel
theorem dX6_posts_84 : decode cX6_posts 84 = .ok (.aload_n 1, 1) := by decide +kernel
theorem dX6_posts_85 : decode cX6_posts 85 = .ok (.iload 8, 2) := by decide +kernel
theorem dX6_posts_87 : decode cX6_posts 87 = .ok (.iconst 5, 1) := by decide +kernel
theorem dX6_posts_88 : decode cX6_posts 88 = .ok (.iadd, 1) := by decide +kernel
theorem dX6_posts_89 : decode cX6_posts 89 = .ok (.iload 7, 2) := by decide +kernel
theorem dX6_posts_91 : decode cX6_posts 91 = .ok (.iastore, 1) := by decide +kernel
theorem dX6_posts_92 : decode cX6_posts 92 = .ok (.aload_n 1, 1) := by decide +kernel
theorem dX6_posts_93 : decode cX6_posts 93 = .ok (.iload 8, 2) := by decide +kernel
theorem dX6_posts_95 : decode cX6_posts 95 = .ok (.bipush 6, 2) := by decide +kernel
theorem dX6_posts_97 : decode cX6_posts 97 = .ok (.iadd, 1) := by decide +kernel
theorem dX6_posts_98 : decode cX6_posts 98 = .ok (.aload_n 1, 1) := by decide +kernel
theorem dX6_posts_99 : decode cX6_posts 99 = .ok (.iconst 0, 1) := by decide +kernel
theorem dX6_posts_100 : decode cX6_posts 100 = .ok (.iaload, 1) := by decide +kernel
theorem dX6_posts_101 : decode cX6_posts 101 = .ok (.iastore, 1) := by decide +kernel
theorem dX6_posts_102 : decode cX6_posts 102 = .ok (.iconst 1, 1) := by decide +kernel
theorem dX6_posts_103 : decode cX6_posts 103 = .ok (.iload_n 2, 1) := by decide +kernel
theorem dX6_posts_104 : decode cX6_posts 104 = .ok (.ishl, 1) := by decide +kernel
theorem dX6_posts_105 : decode cX6_posts 105 = .ok (.iconst 1, 1) := by decide +kernel
theorem dX6_posts_106 : decode cX6_posts 106 = .ok (.iload_n 3, 1) := by decide +kernel
theorem dX6_posts_107 : decode cX6_posts 107 = .ok (.ishl, 1) := by decide +kernel
theorem dX6_posts_108 : decode cX6_posts 108 = .ok (.ior, 1) := by decide +kernel
theorem dX6_posts_109 : decode cX6_posts 109 = .ok (.aload_n 1, 1) := by decide +kernel
theorem dX6_posts_110 : decode cX6_posts 110 = .ok (.iconst 2, 1) := by decide +kernel
theorem dX6_posts_111 : decode cX6_posts 111 = .ok (.iaload, 1) := by decide +kernel
theorem dX6_posts_112 : decode cX6_posts 112 = .ok (.iand, 1) := by decide +kernel
theorem dX6_posts_113 : decode cX6_posts 113 = .ok (.ifCond .ne 4, 3) := by decide +kernel
theorem dX6_posts_116 : decode cX6_posts 116 = .ok (.return_, 1) := by decide +kernel
theorem dX6_posts_117 : decode cX6_posts 117 = .ok (.iload 4, 2) := by decide +kernel
theorem dX6_posts_119 : decode cX6_posts 119 = .ok (.iconst 2, 1) := by decide +kernel
theorem dX6_posts_120 : decode cX6_posts 120 = .ok (.if_icmp .eq 21, 3) := by decide +kernel
theorem dX6_posts_123 : decode cX6_posts 123 = .ok (.iload 4, 2) := by decide +kernel
theorem dX6_posts_125 : decode cX6_posts 125 = .ok (.iconst 3, 1) := by decide +kernel
theorem dX6_posts_126 : decode cX6_posts 126 = .ok (.if_icmp .eq 15, 3) := by decide +kernel
theorem dX6_posts_129 : decode cX6_posts 129 = .ok (.iload 4, 2) := by decide +kernel
theorem dX6_posts_131 : decode cX6_posts 131 = .ok (.iconst 4, 1) := by decide +kernel
theorem dX6_posts_132 : decode cX6_posts 132 = .ok (.if_icmp .eq 9, 3) := by decide +kernel
theorem dX6_posts_135 : decode cX6_posts 135 = .ok (.iload 4, 2) := by decide +kernel
theorem dX6_posts_137 : decode cX6_posts 137 = .ok (.iconst 1, 1) := by decide +kernel
theorem dX6_posts_138 : decode cX6_posts 138 = .ok (.if_icmp .ne 10, 3) := by decide +kernel
theorem dX6_posts_141 : decode cX6_posts 141 = .ok (.aload_n 1, 1) := by decide +kernel
theorem dX6_posts_142 : decode cX6_posts 142 = .ok (.iconst 4, 1) := by decide +kernel
theorem dX6_posts_143 : decode cX6_posts 143 = .ok (.iload 5, 2) := by decide +kernel
theorem dX6_posts_145 : decode cX6_posts 145 = .ok (.invokestatic 102, 3) := by decide +kernel
theorem dX6_posts_148 : decode cX6_posts 148 = .ok (.iload 4, 2) := by decide +kernel
theorem dX6_posts_150 : decode cX6_posts 150 = .ok (.iconst 1, 1) := by decide +kernel
theorem dX6_posts_151 : decode cX6_posts 151 = .ok (.if_icmp .ne 10, 3) := by decide +kernel
theorem dX6_posts_154 : decode cX6_posts 154 = .ok (.aload_n 1, 1) := by decide +kernel
theorem dX6_posts_155 : decode cX6_posts 155 = .ok (.iconst 4, 1) := by decide +kernel
theorem dX6_posts_156 : decode cX6_posts 156 = .ok (.iload 6, 2) := by decide +kernel
theorem dX6_posts_158 : decode cX6_posts 158 = .ok (.invokestatic 102, 3) := by decide +kernel
theorem dX6_posts_161 : decode cX6_posts 161 = .ok (.iload 4, 2) := by decide +kernel
theorem dX6_posts_163 : decode cX6_posts 163 = .ok (.ifCond .eq 9, 3) := by decide +kernel
theorem dX6_posts_166 : decode cX6_posts 166 = .ok (.iload 4, 2) := by decide +kernel
theorem dX6_posts_168 : decode cX6_posts 168 = .ok (.iconst 3, 1) := by decide +kernel
theorem dX6_posts_169 : decode cX6_posts 169 = .ok (.if_icmp .ne 7, 3) := by decide +kernel
theorem dX6_posts_172 : decode cX6_posts 172 = .ok (.iload_n 2, 1) := by decide +kernel
theorem dX6_posts_173 : decode cX6_posts 173 = .ok (.goto 14, 3) := by decide +kernel
theorem dX6_posts_176 : decode cX6_posts 176 = .ok (.iload 4, 2) := by decide +kernel
theorem dX6_posts_178 : decode cX6_posts 178 = .ok (.iconst 1, 1) := by decide +kernel
theorem dX6_posts_179 : decode cX6_posts 179 = .ok (.if_icmp .ne 7, 3) := by decide +kernel
theorem dX6_posts_182 : decode cX6_posts 182 = .ok (.iload_n 3, 1) := by decide +kernel
theorem dX6_posts_183 : decode cX6_posts 183 = .ok (.goto 4, 3) := by decide +kernel
theorem dX6_posts_186 : decode cX6_posts 186 = .ok (.iconst (-1), 1) := by decide +kernel
theorem dX6_posts_187 : decode cX6_posts 187 = .ok (.istore 9, 2) := by decide +kernel
theorem dX6_posts_189 : decode cX6_posts 189 = .ok (.iload 9, 2) := by decide +kernel
theorem dX6_posts_191 : decode cX6_posts 191 = .ok (.iconst 0, 1) := by decide +kernel
theorem dX6_posts_192 : decode cX6_posts 192 = .ok (.iconst 3, 1) := by decide +kernel
theorem dX6_posts_193 : decode cX6_posts 193 = .ok (.invokestatic 67, 3) := by decide +kernel
theorem dX6_posts_196 : decode cX6_posts 196 = .ok (.ifCond .eq 14, 3) := by decide +kernel
theorem dX6_posts_199 : decode cX6_posts 199 = .ok (.aload_n 1, 1) := by decide +kernel
theorem dX6_posts_200 : decode cX6_posts 200 = .ok (.iload 9, 2) := by decide +kernel
theorem dX6_posts_202 : decode cX6_posts 202 = .ok (.invokestatic 82, 3) := by decide +kernel
theorem dX6_posts_205 : decode cX6_posts 205 = .ok (.iconst 2, 1) := by decide +kernel
theorem dX6_posts_206 : decode cX6_posts 206 = .ok (.iadd, 1) := by decide +kernel
theorem dX6_posts_207 : decode cX6_posts 207 = .ok (.iload 7, 2) := by decide +kernel
theorem dX6_posts_209 : decode cX6_posts 209 = .ok (.iastore, 1) := by decide +kernel
theorem dX6_posts_210 : decode cX6_posts 210 = .ok (.return_, 1) := by decide +kernel
theorem dX6_removes_0 : decode cX6_removes 0 = .ok (.iload_n 1, 1) := by decide +kernel
theorem dX6_removes_1 : decode cX6_removes 1 = .ok (.invokestatic 99, 3) := by decide +kernel
theorem dX6_removes_4 : decode cX6_removes 4 = .ok (.istore_n 2, 1) := by decide +kernel
theorem dX6_removes_5 : decode cX6_removes 5 = .ok (.iload_n 2, 1) := by decide +kernel
theorem dX6_removes_6 : decode cX6_removes 6 = .ok (.bipush 11, 2) := by decide +kernel
theorem dX6_removes_8 : decode cX6_removes 8 = .ok (.invokestatic 99, 3) := by decide +kernel
theorem dX6_removes_11 : decode cX6_removes 11 = .ok (.if_icmp .ge 18, 3) := by decide +kernel
theorem dX6_removes_14 : decode cX6_removes 14 = .ok (.aload_n 0, 1) := by decide +kernel
theorem dX6_removes_15 : decode cX6_removes 15 = .ok (.iload_n 2, 1) := by decide +kernel
theorem dX6_removes_16 : decode cX6_removes 16 = .ok (.aload_n 0, 1) := by decide +kernel
theorem dX6_removes_17 : decode cX6_removes 17 = .ok (.iload_n 2, 1) := by decide +kernel
theorem dX6_removes_18 : decode cX6_removes 18 = .ok (.bipush 7, 2) := by decide +kernel
theorem dX6_removes_20 : decode cX6_removes 20 = .ok (.iadd, 1) := by decide +kernel
theorem dX6_removes_21 : decode cX6_removes 21 = .ok (.iaload, 1) := by decide +kernel
theorem dX6_removes_22 : decode cX6_removes 22 = .ok (.iastore, 1) := by decide +kernel
theorem dX6_removes_23 : decode cX6_removes 23 = .ok (.iinc 2 1, 3) := by decide +kernel
theorem dX6_removes_26 : decode cX6_removes 26 = .ok (.goto (-21), 3) := by decide +kernel
theorem dX6_removes_29 : decode cX6_removes 29 = .ok (.bipush 11, 2) := by decide +kernel
theorem dX6_removes_31 : decode cX6_removes 31 = .ok (.invokestatic 99, 3) := by decide +kernel
theorem dX6_removes_34 : decode cX6_removes 34 = .ok (.istore_n 2, 1) := by decide +kernel
theorem dX6_removes_35 : decode cX6_removes 35 = .ok (.iload_n 2, 1) := by decide +kernel
theorem dX6_removes_36 : decode cX6_removes 36 = .ok (.sipush 527, 3) := by decide +kernel
theorem dX6_removes_39 : decode cX6_removes 39 = .ok (.if_icmp .ge 13, 3) := by decide +kernel
theorem dX6_removes_42 : decode cX6_removes 42 = .ok (.aload_n 0, 1) := by decide +kernel
theorem dX6_removes_43 : decode cX6_removes 43 = .ok (.iload_n 2, 1) := by decide +kernel
theorem dX6_removes_44 : decode cX6_removes 44 = .ok (.iconst 0, 1) := by decide +kernel
theorem dX6_removes_45 : decode cX6_removes 45 = .ok (.iastore, 1) := by decide +kernel
theorem dX6_removes_46 : decode cX6_removes 46 = .ok (.iinc 2 1, 3) := by decide +kernel
theorem dX6_removes_49 : decode cX6_removes 49 = .ok (.goto (-14), 3) := by decide +kernel
theorem dX6_removes_52 : decode cX6_removes 52 = .ok (.aload_n 0, 1) := by decide +kernel
theorem dX6_removes_53 : decode cX6_removes 53 = .ok (.bipush 14, 2) := by decide +kernel
theorem dX6_removes_55 : decode cX6_removes 55 = .ok (.dup2, 1) := by decide +kernel
theorem dX6_removes_56 : decode cX6_removes 56 = .ok (.iaload, 1) := by decide +kernel
theorem dX6_removes_57 : decode cX6_removes 57 = .ok (.iconst 1, 1) := by decide +kernel
theorem dX6_removes_58 : decode cX6_removes 58 = .ok (.isub, 1) := by decide +kernel
theorem dX6_removes_59 : decode cX6_removes 59 = .ok (.iastore, 1) := by decide +kernel
theorem dX6_removes_60 : decode cX6_removes 60 = .ok (.return_, 1) := by decide +kernel
theorem dX6_ends_0 : decode cX6_ends 0 = .ok (.aload_n 1, 1) := by decide +kernel
theorem dX6_ends_1 : decode cX6_ends 1 = .ok (.iload_n 2, 1) := by decide +kernel
theorem dX6_ends_2 : decode cX6_ends 2 = .ok (.invokestatic 85, 3) := by decide +kernel
theorem dX6_ends_5 : decode cX6_ends 5 = .ok (.iconst 1, 1) := by decide +kernel
theorem dX6_ends_6 : decode cX6_ends 6 = .ok (.iadd, 1) := by decide +kernel
theorem dX6_ends_7 : decode cX6_ends 7 = .ok (.aload_n 1, 1) := by decide +kernel
theorem dX6_ends_8 : decode cX6_ends 8 = .ok (.iconst 0, 1) := by decide +kernel
theorem dX6_ends_9 : decode cX6_ends 9 = .ok (.iaload, 1) := by decide +kernel
theorem dX6_ends_10 : decode cX6_ends 10 = .ok (.iastore, 1) := by decide +kernel
theorem dX6_ends_11 : decode cX6_ends 11 = .ok (.iconst 0, 1) := by decide +kernel
theorem dX6_ends_12 : decode cX6_ends 12 = .ok (.istore_n 3, 1) := by decide +kernel
theorem dX6_ends_13 : decode cX6_ends 13 = .ok (.iload_n 3, 1) := by decide +kernel
theorem dX6_ends_14 : decode cX6_ends 14 = .ok (.aload_n 1, 1) := by decide +kernel
theorem dX6_ends_15 : decode cX6_ends 15 = .ok (.bipush 11, 2) := by decide +kernel
theorem dX6_ends_17 : decode cX6_ends 17 = .ok (.iaload, 1) := by decide +kernel
theorem dX6_ends_18 : decode cX6_ends 18 = .ok (.if_icmp .ge 113, 3) := by decide +kernel
theorem dX6_ends_21 : decode cX6_ends 21 = .ok (.iconst 0, 1) := by decide +kernel
theorem dX6_ends_22 : decode cX6_ends 22 = .ok (.istore 4, 2) := by decide +kernel
theorem dX6_ends_24 : decode cX6_ends 24 = .ok (.iconst 0, 1) := by decide +kernel
theorem dX6_ends_25 : decode cX6_ends 25 = .ok (.istore 5, 2) := by decide +kernel
theorem dX6_ends_27 : decode cX6_ends 27 = .ok (.iload 5, 2) := by decide +kernel
theorem dX6_ends_29 : decode cX6_ends 29 = .ok (.aload_n 1, 1) := by decide +kernel
theorem dX6_ends_30 : decode cX6_ends 30 = .ok (.bipush 12, 2) := by decide +kernel
theorem dX6_ends_32 : decode cX6_ends 32 = .ok (.iaload, 1) := by decide +kernel
theorem dX6_ends_33 : decode cX6_ends 33 = .ok (.if_icmp .ge 61, 3) := by decide +kernel
theorem dX6_ends_36 : decode cX6_ends 36 = .ok (.iload 4, 2) := by decide +kernel
theorem dX6_ends_38 : decode cX6_ends 38 = .ok (.ifCond .ne 43, 3) := by decide +kernel
theorem dX6_ends_41 : decode cX6_ends 41 = .ok (.aload_n 1, 1) := by decide +kernel
theorem dX6_ends_42 : decode cX6_ends 42 = .ok (.iload 5, 2) := by decide +kernel
theorem dX6_ends_44 : decode cX6_ends 44 = .ok (.invokestatic 71, 3) := by decide +kernel
theorem dX6_ends_47 : decode cX6_ends 47 = .ok (.iconst 0, 1) := by decide +kernel
theorem dX6_ends_48 : decode cX6_ends 48 = .ok (.iadd, 1) := by decide +kernel
theorem dX6_ends_49 : decode cX6_ends 49 = .ok (.iaload, 1) := by decide +kernel
theorem dX6_ends_50 : decode cX6_ends 50 = .ok (.iconst 1, 1) := by decide +kernel
theorem dX6_ends_51 : decode cX6_ends 51 = .ok (.if_icmp .eq 34, 3) := by decide +kernel
theorem dX6_ends_54 : decode cX6_ends 54 = .ok (.aload_n 1, 1) := by decide +kernel
theorem dX6_ends_55 : decode cX6_ends 55 = .ok (.iload 5, 2) := by decide +kernel
theorem dX6_ends_57 : decode cX6_ends 57 = .ok (.invokestatic 71, 3) := by decide +kernel
theorem dX6_ends_60 : decode cX6_ends 60 = .ok (.iconst 2, 1) := by decide +kernel
theorem dX6_ends_61 : decode cX6_ends 61 = .ok (.iadd, 1) := by decide +kernel
theorem dX6_ends_62 : decode cX6_ends 62 = .ok (.iaload, 1) := by decide +kernel
theorem dX6_ends_63 : decode cX6_ends 63 = .ok (.iload_n 3, 1) := by decide +kernel
theorem dX6_ends_64 : decode cX6_ends 64 = .ok (.if_icmp .ne 21, 3) := by decide +kernel
theorem dX6_ends_67 : decode cX6_ends 67 = .ok (.aload_n 1, 1) := by decide +kernel
theorem dX6_ends_68 : decode cX6_ends 68 = .ok (.iload 5, 2) := by decide +kernel
theorem dX6_ends_70 : decode cX6_ends 70 = .ok (.invokestatic 71, 3) := by decide +kernel
theorem dX6_ends_73 : decode cX6_ends 73 = .ok (.bipush 6, 2) := by decide +kernel
theorem dX6_ends_75 : decode cX6_ends 75 = .ok (.iadd, 1) := by decide +kernel
theorem dX6_ends_76 : decode cX6_ends 76 = .ok (.iaload, 1) := by decide +kernel
theorem dX6_ends_77 : decode cX6_ends 77 = .ok (.iload_n 2, 1) := by decide +kernel
theorem dX6_ends_78 : decode cX6_ends 78 = .ok (.if_icmp .ne 7, 3) := by decide +kernel
theorem dX6_ends_81 : decode cX6_ends 81 = .ok (.iconst 1, 1) := by decide +kernel
theorem dX6_ends_82 : decode cX6_ends 82 = .ok (.goto 4, 3) := by decide +kernel
theorem dX6_ends_85 : decode cX6_ends 85 = .ok (.iconst 0, 1) := by decide +kernel
theorem dX6_ends_86 : decode cX6_ends 86 = .ok (.istore 4, 2) := by decide +kernel
theorem dX6_ends_88 : decode cX6_ends 88 = .ok (.iinc 5 1, 3) := by decide +kernel
theorem dX6_ends_91 : decode cX6_ends 91 = .ok (.goto (-64), 3) := by decide +kernel
theorem dX6_ends_94 : decode cX6_ends 94 = .ok (.iload 4, 2) := by decide +kernel
theorem dX6_ends_96 : decode cX6_ends 96 = .ok (.ifCond .eq 29, 3) := by decide +kernel
theorem dX6_ends_99 : decode cX6_ends 99 = .ok (.aload_n 1, 1) := by decide +kernel
theorem dX6_ends_100 : decode cX6_ends 100 = .ok (.iload_n 3, 1) := by decide +kernel
theorem dX6_ends_101 : decode cX6_ends 101 = .ok (.invokestatic 75, 3) := by decide +kernel
theorem dX6_ends_104 : decode cX6_ends 104 = .ok (.iconst 3, 1) := by decide +kernel
theorem dX6_ends_105 : decode cX6_ends 105 = .ok (.iadd, 1) := by decide +kernel
theorem dX6_ends_106 : decode cX6_ends 106 = .ok (.iaload, 1) := by decide +kernel
theorem dX6_ends_107 : decode cX6_ends 107 = .ok (.iconst 1, 1) := by decide +kernel
theorem dX6_ends_108 : decode cX6_ends 108 = .ok (.if_icmp .ne 17, 3) := by decide +kernel
theorem dX6_ends_111 : decode cX6_ends 111 = .ok (.aload_n 0, 1) := by decide +kernel
theorem dX6_ends_112 : decode cX6_ends 112 = .ok (.aload_n 1, 1) := by decide +kernel
theorem dX6_ends_113 : decode cX6_ends 113 = .ok (.bipush 9, 2) := by decide +kernel
theorem dX6_ends_115 : decode cX6_ends 115 = .ok (.iconst 5, 1) := by decide +kernel
theorem dX6_ends_116 : decode cX6_ends 116 = .ok (.iload_n 3, 1) := by decide +kernel
theorem dX6_ends_117 : decode cX6_ends 117 = .ok (.iadd, 1) := by decide +kernel
theorem dX6_ends_118 : decode cX6_ends 118 = .ok (.iconst 5, 1) := by decide +kernel
theorem dX6_ends_119 : decode cX6_ends 119 = .ok (.iload_n 2, 1) := by decide +kernel
theorem dX6_ends_120 : decode cX6_ends 120 = .ok (.iconst (-1), 1) := by decide +kernel
theorem dX6_ends_121 : decode cX6_ends 121 = .ok (.iconst 0, 1) := by decide +kernel
theorem dX6_ends_122 : decode cX6_ends 122 = .ok (.invokevirtual 106, 3) := by decide +kernel
theorem dX6_ends_125 : decode cX6_ends 125 = .ok (.iinc 3 1, 3) := by decide +kernel
theorem dX6_ends_128 : decode cX6_ends 128 = .ok (.goto (-115), 3) := by decide +kernel
theorem dX6_ends_131 : decode cX6_ends 131 = .ok (.return_, 1) := by decide +kernel
theorem dX6_given_0 : decode cX6_given 0 = .ok (.aload_n 1, 1) := by decide +kernel
theorem dX6_given_1 : decode cX6_given 1 = .ok (.bipush 12, 2) := by decide +kernel
theorem dX6_given_3 : decode cX6_given 3 = .ok (.iaload, 1) := by decide +kernel
theorem dX6_given_4 : decode cX6_given 4 = .ok (.istore 10, 2) := by decide +kernel
theorem dX6_given_6 : decode cX6_given 6 = .ok (.iload 10, 2) := by decide +kernel
theorem dX6_given_8 : decode cX6_given 8 = .ok (.invokestatic 71, 3) := by decide +kernel
theorem dX6_given_11 : decode cX6_given 11 = .ok (.istore 11, 2) := by decide +kernel
theorem dX6_given_13 : decode cX6_given 13 = .ok (.aload_n 1, 1) := by decide +kernel
theorem dX6_given_14 : decode cX6_given 14 = .ok (.iload 11, 2) := by decide +kernel
theorem dX6_given_16 : decode cX6_given 16 = .ok (.iconst 0, 1) := by decide +kernel
theorem dX6_given_17 : decode cX6_given 17 = .ok (.iadd, 1) := by decide +kernel
theorem dX6_given_18 : decode cX6_given 18 = .ok (.iload_n 2, 1) := by decide +kernel
theorem dX6_given_19 : decode cX6_given 19 = .ok (.iastore, 1) := by decide +kernel
theorem dX6_given_20 : decode cX6_given 20 = .ok (.aload_n 1, 1) := by decide +kernel
theorem dX6_given_21 : decode cX6_given 21 = .ok (.iload 11, 2) := by decide +kernel
theorem dX6_given_23 : decode cX6_given 23 = .ok (.iconst 1, 1) := by decide +kernel
theorem dX6_given_24 : decode cX6_given 24 = .ok (.iadd, 1) := by decide +kernel
theorem dX6_given_25 : decode cX6_given 25 = .ok (.iload_n 3, 1) := by decide +kernel
theorem dX6_given_26 : decode cX6_given 26 = .ok (.iastore, 1) := by decide +kernel
theorem dX6_given_27 : decode cX6_given 27 = .ok (.aload_n 1, 1) := by decide +kernel
theorem dX6_given_28 : decode cX6_given 28 = .ok (.iload 11, 2) := by decide +kernel
theorem dX6_given_30 : decode cX6_given 30 = .ok (.iconst 2, 1) := by decide +kernel
theorem dX6_given_31 : decode cX6_given 31 = .ok (.iadd, 1) := by decide +kernel
theorem dX6_given_32 : decode cX6_given 32 = .ok (.iload 4, 2) := by decide +kernel
theorem dX6_given_34 : decode cX6_given 34 = .ok (.iastore, 1) := by decide +kernel
theorem dX6_given_35 : decode cX6_given 35 = .ok (.aload_n 1, 1) := by decide +kernel
theorem dX6_given_36 : decode cX6_given 36 = .ok (.iload 11, 2) := by decide +kernel
theorem dX6_given_38 : decode cX6_given 38 = .ok (.iconst 3, 1) := by decide +kernel
theorem dX6_given_39 : decode cX6_given 39 = .ok (.iadd, 1) := by decide +kernel
theorem dX6_given_40 : decode cX6_given 40 = .ok (.iload 5, 2) := by decide +kernel
theorem dX6_given_42 : decode cX6_given 42 = .ok (.iastore, 1) := by decide +kernel
theorem dX6_given_43 : decode cX6_given 43 = .ok (.aload_n 1, 1) := by decide +kernel
theorem dX6_given_44 : decode cX6_given 44 = .ok (.iload 11, 2) := by decide +kernel
theorem dX6_given_46 : decode cX6_given 46 = .ok (.iconst 4, 1) := by decide +kernel
theorem dX6_given_47 : decode cX6_given 47 = .ok (.iadd, 1) := by decide +kernel
theorem dX6_given_48 : decode cX6_given 48 = .ok (.aload_n 1, 1) := by decide +kernel
theorem dX6_given_49 : decode cX6_given 49 = .ok (.iconst 0, 1) := by decide +kernel
theorem dX6_given_50 : decode cX6_given 50 = .ok (.iaload, 1) := by decide +kernel
theorem dX6_given_51 : decode cX6_given 51 = .ok (.iastore, 1) := by decide +kernel
theorem dX6_given_52 : decode cX6_given 52 = .ok (.aload_n 1, 1) := by decide +kernel
theorem dX6_given_53 : decode cX6_given 53 = .ok (.iload 11, 2) := by decide +kernel
theorem dX6_given_55 : decode cX6_given 55 = .ok (.iconst 5, 1) := by decide +kernel
theorem dX6_given_56 : decode cX6_given 56 = .ok (.iadd, 1) := by decide +kernel
theorem dX6_given_57 : decode cX6_given 57 = .ok (.iload 6, 2) := by decide +kernel
theorem dX6_given_59 : decode cX6_given 59 = .ok (.iastore, 1) := by decide +kernel
theorem dX6_given_60 : decode cX6_given 60 = .ok (.aload_n 1, 1) := by decide +kernel
theorem dX6_given_61 : decode cX6_given 61 = .ok (.iload 11, 2) := by decide +kernel
theorem dX6_given_63 : decode cX6_given 63 = .ok (.bipush 6, 2) := by decide +kernel
theorem dX6_given_65 : decode cX6_given 65 = .ok (.iadd, 1) := by decide +kernel
theorem dX6_given_66 : decode cX6_given 66 = .ok (.iload 7, 2) := by decide +kernel
theorem dX6_given_68 : decode cX6_given 68 = .ok (.iastore, 1) := by decide +kernel
theorem dX6_given_69 : decode cX6_given 69 = .ok (.aload_n 1, 1) := by decide +kernel
theorem dX6_given_70 : decode cX6_given 70 = .ok (.iload 11, 2) := by decide +kernel
theorem dX6_given_72 : decode cX6_given 72 = .ok (.bipush 7, 2) := by decide +kernel
theorem dX6_given_74 : decode cX6_given 74 = .ok (.iadd, 1) := by decide +kernel
theorem dX6_given_75 : decode cX6_given 75 = .ok (.iload 8, 2) := by decide +kernel
theorem dX6_given_77 : decode cX6_given 77 = .ok (.iastore, 1) := by decide +kernel
theorem dX6_given_78 : decode cX6_given 78 = .ok (.aload_n 1, 1) := by decide +kernel
theorem dX6_given_79 : decode cX6_given 79 = .ok (.iload 11, 2) := by decide +kernel
theorem dX6_given_81 : decode cX6_given 81 = .ok (.bipush 8, 2) := by decide +kernel
theorem dX6_given_83 : decode cX6_given 83 = .ok (.iadd, 1) := by decide +kernel
theorem dX6_given_84 : decode cX6_given 84 = .ok (.iload 9, 2) := by decide +kernel
theorem dX6_given_86 : decode cX6_given 86 = .ok (.iastore, 1) := by decide +kernel
theorem dX6_given_87 : decode cX6_given 87 = .ok (.aload_n 1, 1) := by decide +kernel
theorem dX6_given_88 : decode cX6_given 88 = .ok (.iload 11, 2) := by decide +kernel
theorem dX6_given_90 : decode cX6_given 90 = .ok (.bipush 9, 2) := by decide +kernel
theorem dX6_given_92 : decode cX6_given 92 = .ok (.iadd, 1) := by decide +kernel
theorem dX6_given_93 : decode cX6_given 93 = .ok (.iconst 0, 1) := by decide +kernel
theorem dX6_given_94 : decode cX6_given 94 = .ok (.iastore, 1) := by decide +kernel
theorem dX6_given_95 : decode cX6_given 95 = .ok (.aload_n 1, 1) := by decide +kernel
theorem dX6_given_96 : decode cX6_given 96 = .ok (.iload 11, 2) := by decide +kernel
theorem dX6_given_98 : decode cX6_given 98 = .ok (.bipush 10, 2) := by decide +kernel
theorem dX6_given_100 : decode cX6_given 100 = .ok (.iadd, 1) := by decide +kernel
theorem dX6_given_101 : decode cX6_given 101 = .ok (.iconst 0, 1) := by decide +kernel
theorem dX6_given_102 : decode cX6_given 102 = .ok (.iastore, 1) := by decide +kernel
theorem dX6_given_103 : decode cX6_given 103 = .ok (.aload_n 1, 1) := by decide +kernel
theorem dX6_given_104 : decode cX6_given 104 = .ok (.bipush 12, 2) := by decide +kernel
theorem dX6_given_106 : decode cX6_given 106 = .ok (.dup2, 1) := by decide +kernel
theorem dX6_given_107 : decode cX6_given 107 = .ok (.iaload, 1) := by decide +kernel
theorem dX6_given_108 : decode cX6_given 108 = .ok (.iconst 1, 1) := by decide +kernel
theorem dX6_given_109 : decode cX6_given 109 = .ok (.iadd, 1) := by decide +kernel
theorem dX6_given_110 : decode cX6_given 110 = .ok (.iastore, 1) := by decide +kernel
theorem dX6_given_111 : decode cX6_given 111 = .ok (.iload 10, 2) := by decide +kernel
theorem dX6_given_113 : decode cX6_given 113 = .ok (.ireturn, 1) := by decide +kernel
theorem dX6_asked_0 : decode cX6_asked 0 = .ok (.aload_n 1, 1) := by decide +kernel
theorem dX6_asked_1 : decode cX6_asked 1 = .ok (.iconst 1, 1) := by decide +kernel
theorem dX6_asked_2 : decode cX6_asked 2 = .ok (.iaload, 1) := by decide +kernel
theorem dX6_asked_3 : decode cX6_asked 3 = .ok (.ifCond .eq 44, 3) := by decide +kernel
theorem dX6_asked_6 : decode cX6_asked 6 = .ok (.aload_n 1, 1) := by decide +kernel
theorem dX6_asked_7 : decode cX6_asked 7 = .ok (.iload_n 2, 1) := by decide +kernel
theorem dX6_asked_8 : decode cX6_asked 8 = .ok (.invokestatic 82, 3) := by decide +kernel
theorem dX6_asked_11 : decode cX6_asked 11 = .ok (.iconst 0, 1) := by decide +kernel
theorem dX6_asked_12 : decode cX6_asked 12 = .ok (.iadd, 1) := by decide +kernel
theorem dX6_asked_13 : decode cX6_asked 13 = .ok (.iaload, 1) := by decide +kernel
theorem dX6_asked_14 : decode cX6_asked 14 = .ok (.iconst (-1), 1) := by decide +kernel
theorem dX6_asked_15 : decode cX6_asked 15 = .ok (.if_icmp .eq 32, 3) := by decide +kernel
theorem dX6_asked_18 : decode cX6_asked 18 = .ok (.aload_n 1, 1) := by decide +kernel
theorem dX6_asked_19 : decode cX6_asked 19 = .ok (.iload_n 3, 1) := by decide +kernel
theorem dX6_asked_20 : decode cX6_asked 20 = .ok (.invokestatic 75, 3) := by decide +kernel
theorem dX6_asked_23 : decode cX6_asked 23 = .ok (.iconst 3, 1) := by decide +kernel
theorem dX6_asked_24 : decode cX6_asked 24 = .ok (.iadd, 1) := by decide +kernel
theorem dX6_asked_25 : decode cX6_asked 25 = .ok (.iaload, 1) := by decide +kernel
theorem dX6_asked_26 : decode cX6_asked 26 = .ok (.ifCond .eq 21, 3) := by decide +kernel
theorem dX6_asked_29 : decode cX6_asked 29 = .ok (.aload_n 1, 1) := by decide +kernel
theorem dX6_asked_30 : decode cX6_asked 30 = .ok (.bipush 12, 2) := by decide +kernel
theorem dX6_asked_32 : decode cX6_asked 32 = .ok (.iaload, 1) := by decide +kernel
theorem dX6_asked_33 : decode cX6_asked 33 = .ok (.bipush 30, 2) := by decide +kernel
theorem dX6_asked_35 : decode cX6_asked 35 = .ok (.if_icmp .gt 12, 3) := by decide +kernel
theorem dX6_asked_38 : decode cX6_asked 38 = .ok (.aload_n 1, 1) := by decide +kernel
theorem dX6_asked_39 : decode cX6_asked 39 = .ok (.bipush 13, 2) := by decide +kernel
theorem dX6_asked_41 : decode cX6_asked 41 = .ok (.iaload, 1) := by decide +kernel
theorem dX6_asked_42 : decode cX6_asked 42 = .ok (.bipush 16, 2) := by decide +kernel
theorem dX6_asked_44 : decode cX6_asked 44 = .ok (.if_icmp .ne 5, 3) := by decide +kernel
theorem dX6_asked_47 : decode cX6_asked 47 = .ok (.iconst 0, 1) := by decide +kernel
theorem dX6_asked_48 : decode cX6_asked 48 = .ok (.ireturn, 1) := by decide +kernel
theorem dX6_asked_49 : decode cX6_asked 49 = .ok (.aload_n 1, 1) := by decide +kernel
theorem dX6_asked_50 : decode cX6_asked 50 = .ok (.bipush 13, 2) := by decide +kernel
theorem dX6_asked_52 : decode cX6_asked 52 = .ok (.iaload, 1) := by decide +kernel
theorem dX6_asked_53 : decode cX6_asked 53 = .ok (.istore 6, 2) := by decide +kernel
theorem dX6_asked_55 : decode cX6_asked 55 = .ok (.aload_n 1, 1) := by decide +kernel
theorem dX6_asked_56 : decode cX6_asked 56 = .ok (.iload 6, 2) := by decide +kernel
theorem dX6_asked_58 : decode cX6_asked 58 = .ok (.invokestatic 85, 3) := by decide +kernel
theorem dX6_asked_61 : decode cX6_asked 61 = .ok (.iload_n 2, 1) := by decide +kernel
theorem dX6_asked_62 : decode cX6_asked 62 = .ok (.iastore, 1) := by decide +kernel
theorem dX6_asked_63 : decode cX6_asked 63 = .ok (.aload_n 1, 1) := by decide +kernel
theorem dX6_asked_64 : decode cX6_asked 64 = .ok (.iload 6, 2) := by decide +kernel
theorem dX6_asked_66 : decode cX6_asked 66 = .ok (.invokestatic 85, 3) := by decide +kernel
theorem dX6_asked_69 : decode cX6_asked 69 = .ok (.iconst 1, 1) := by decide +kernel
theorem dX6_asked_70 : decode cX6_asked 70 = .ok (.iadd, 1) := by decide +kernel
theorem dX6_asked_71 : decode cX6_asked 71 = .ok (.iconst (-1), 1) := by decide +kernel
theorem dX6_asked_72 : decode cX6_asked 72 = .ok (.iastore, 1) := by decide +kernel
theorem dX6_asked_73 : decode cX6_asked 73 = .ok (.aload_n 1, 1) := by decide +kernel
theorem dX6_asked_74 : decode cX6_asked 74 = .ok (.bipush 13, 2) := by decide +kernel
theorem dX6_asked_76 : decode cX6_asked 76 = .ok (.dup2, 1) := by decide +kernel
theorem dX6_asked_77 : decode cX6_asked 77 = .ok (.iaload, 1) := by decide +kernel
theorem dX6_asked_78 : decode cX6_asked 78 = .ok (.iconst 1, 1) := by decide +kernel
theorem dX6_asked_79 : decode cX6_asked 79 = .ok (.iadd, 1) := by decide +kernel
theorem dX6_asked_80 : decode cX6_asked 80 = .ok (.iastore, 1) := by decide +kernel
theorem dX6_asked_81 : decode cX6_asked 81 = .ok (.aload_n 1, 1) := by decide +kernel
theorem dX6_asked_82 : decode cX6_asked 82 = .ok (.iload_n 2, 1) := by decide +kernel
theorem dX6_asked_83 : decode cX6_asked 83 = .ok (.invokestatic 82, 3) := by decide +kernel
theorem dX6_asked_86 : decode cX6_asked 86 = .ok (.iconst 0, 1) := by decide +kernel
theorem dX6_asked_87 : decode cX6_asked 87 = .ok (.iadd, 1) := by decide +kernel
theorem dX6_asked_88 : decode cX6_asked 88 = .ok (.iaload, 1) := by decide +kernel
theorem dX6_asked_89 : decode cX6_asked 89 = .ok (.istore 7, 2) := by decide +kernel
theorem dX6_asked_91 : decode cX6_asked 91 = .ok (.aload_n 0, 1) := by decide +kernel
theorem dX6_asked_92 : decode cX6_asked 92 = .ok (.aload_n 1, 1) := by decide +kernel
theorem dX6_asked_93 : decode cX6_asked 93 = .ok (.iconst 0, 1) := by decide +kernel
theorem dX6_asked_94 : decode cX6_asked 94 = .ok (.iload_n 2, 1) := by decide +kernel
theorem dX6_asked_95 : decode cX6_asked 95 = .ok (.iload_n 3, 1) := by decide +kernel
theorem dX6_asked_96 : decode cX6_asked 96 = .ok (.iload 4, 2) := by decide +kernel
theorem dX6_asked_98 : decode cX6_asked 98 = .ok (.aload_n 1, 1) := by decide +kernel
theorem dX6_asked_99 : decode cX6_asked 99 = .ok (.iconst 0, 1) := by decide +kernel
theorem dX6_asked_100 : decode cX6_asked 100 = .ok (.iaload, 1) := by decide +kernel
theorem dX6_asked_101 : decode cX6_asked 101 = .ok (.aload_n 1, 1) := by decide +kernel
theorem dX6_asked_102 : decode cX6_asked 102 = .ok (.iconst 4, 1) := by decide +kernel
theorem dX6_asked_103 : decode cX6_asked 103 = .ok (.iaload, 1) := by decide +kernel
theorem dX6_asked_104 : decode cX6_asked 104 = .ok (.iadd, 1) := by decide +kernel
theorem dX6_asked_105 : decode cX6_asked 105 = .ok (.iload 6, 2) := by decide +kernel
theorem dX6_asked_107 : decode cX6_asked 107 = .ok (.iload 7, 2) := by decide +kernel
theorem dX6_asked_109 : decode cX6_asked 109 = .ok (.iconst (-1), 1) := by decide +kernel
theorem dX6_asked_110 : decode cX6_asked 110 = .ok (.invokevirtual 110, 3) := by decide +kernel
theorem dX6_asked_113 : decode cX6_asked 113 = .ok (.istore 8, 2) := by decide +kernel
theorem dX6_asked_115 : decode cX6_asked 115 = .ok (.aload_n 0, 1) := by decide +kernel
theorem dX6_asked_116 : decode cX6_asked 116 = .ok (.aload_n 1, 1) := by decide +kernel
theorem dX6_asked_117 : decode cX6_asked 117 = .ok (.iconst 1, 1) := by decide +kernel
theorem dX6_asked_118 : decode cX6_asked 118 = .ok (.iload_n 2, 1) := by decide +kernel
theorem dX6_asked_119 : decode cX6_asked 119 = .ok (.iload_n 3, 1) := by decide +kernel
theorem dX6_asked_120 : decode cX6_asked 120 = .ok (.iload 4, 2) := by decide +kernel
theorem dX6_asked_122 : decode cX6_asked 122 = .ok (.aload_n 1, 1) := by decide +kernel
theorem dX6_asked_123 : decode cX6_asked 123 = .ok (.iconst 0, 1) := by decide +kernel
theorem dX6_asked_124 : decode cX6_asked 124 = .ok (.iaload, 1) := by decide +kernel
theorem dX6_asked_125 : decode cX6_asked 125 = .ok (.aload_n 1, 1) := by decide +kernel
theorem dX6_asked_126 : decode cX6_asked 126 = .ok (.iconst 5, 1) := by decide +kernel
theorem dX6_asked_127 : decode cX6_asked 127 = .ok (.iaload, 1) := by decide +kernel
theorem dX6_asked_128 : decode cX6_asked 128 = .ok (.iadd, 1) := by decide +kernel
theorem dX6_asked_129 : decode cX6_asked 129 = .ok (.iload 6, 2) := by decide +kernel
theorem dX6_asked_131 : decode cX6_asked 131 = .ok (.iload 7, 2) := by decide +kernel
theorem dX6_asked_133 : decode cX6_asked 133 = .ok (.iconst (-1), 1) := by decide +kernel
theorem dX6_asked_134 : decode cX6_asked 134 = .ok (.invokevirtual 110, 3) := by decide +kernel
theorem dX6_asked_137 : decode cX6_asked 137 = .ok (.istore 9, 2) := by decide +kernel
theorem dX6_asked_139 : decode cX6_asked 139 = .ok (.aload_n 0, 1) := by decide +kernel
theorem dX6_asked_140 : decode cX6_asked 140 = .ok (.aload_n 1, 1) := by decide +kernel
theorem dX6_asked_141 : decode cX6_asked 141 = .ok (.bipush 9, 2) := by decide +kernel
theorem dX6_asked_143 : decode cX6_asked 143 = .ok (.iload_n 2, 1) := by decide +kernel
theorem dX6_asked_144 : decode cX6_asked 144 = .ok (.iconst 1, 1) := by decide +kernel
theorem dX6_asked_145 : decode cX6_asked 145 = .ok (.iload 8, 2) := by decide +kernel
theorem dX6_asked_147 : decode cX6_asked 147 = .ok (.iload 9, 2) := by decide +kernel
theorem dX6_asked_149 : decode cX6_asked 149 = .ok (.iload 5, 2) := by decide +kernel
theorem dX6_asked_151 : decode cX6_asked 151 = .ok (.invokevirtual 106, 3) := by decide +kernel
theorem dX6_asked_154 : decode cX6_asked 154 = .ok (.iconst 1, 1) := by decide +kernel
theorem dX6_asked_155 : decode cX6_asked 155 = .ok (.ireturn, 1) := by decide +kernel
theorem dX6_isGood_0 : decode cX6_isGood 0 = .ok (.aload_n 0, 1) := by decide +kernel
theorem dX6_isGood_1 : decode cX6_isGood 1 = .ok (.iconst 1, 1) := by decide +kernel
theorem dX6_isGood_2 : decode cX6_isGood 2 = .ok (.iaload, 1) := by decide +kernel
theorem dX6_isGood_3 : decode cX6_isGood 3 = .ok (.iconst 1, 1) := by decide +kernel
theorem dX6_isGood_4 : decode cX6_isGood 4 = .ok (.if_icmp .ne 41, 3) := by decide +kernel
theorem dX6_isGood_7 : decode cX6_isGood 7 = .ok (.aload_n 0, 1) := by decide +kernel
theorem dX6_isGood_8 : decode cX6_isGood 8 = .ok (.aload_n 0, 1) := by decide +kernel
theorem dX6_isGood_9 : decode cX6_isGood 9 = .ok (.iload_n 1, 1) := by decide +kernel
theorem dX6_isGood_10 : decode cX6_isGood 10 = .ok (.invokestatic 71, 3) := by decide +kernel
theorem dX6_isGood_13 : decode cX6_isGood 13 = .ok (.bipush 6, 2) := by decide +kernel
theorem dX6_isGood_15 : decode cX6_isGood 15 = .ok (.iadd, 1) := by decide +kernel
theorem dX6_isGood_16 : decode cX6_isGood 16 = .ok (.iaload, 1) := by decide +kernel
theorem dX6_isGood_17 : decode cX6_isGood 17 = .ok (.invokestatic 85, 3) := by decide +kernel
theorem dX6_isGood_20 : decode cX6_isGood 20 = .ok (.iconst 1, 1) := by decide +kernel
theorem dX6_isGood_21 : decode cX6_isGood 21 = .ok (.iadd, 1) := by decide +kernel
theorem dX6_isGood_22 : decode cX6_isGood 22 = .ok (.iaload, 1) := by decide +kernel
theorem dX6_isGood_23 : decode cX6_isGood 23 = .ok (.iconst (-1), 1) := by decide +kernel
theorem dX6_isGood_24 : decode cX6_isGood 24 = .ok (.if_icmp .ne 21, 3) := by decide +kernel
theorem dX6_isGood_27 : decode cX6_isGood 27 = .ok (.aload_n 0, 1) := by decide +kernel
theorem dX6_isGood_28 : decode cX6_isGood 28 = .ok (.iconst 0, 1) := by decide +kernel
theorem dX6_isGood_29 : decode cX6_isGood 29 = .ok (.iaload, 1) := by decide +kernel
theorem dX6_isGood_30 : decode cX6_isGood 30 = .ok (.aload_n 0, 1) := by decide +kernel
theorem dX6_isGood_31 : decode cX6_isGood 31 = .ok (.iload_n 1, 1) := by decide +kernel
theorem dX6_isGood_32 : decode cX6_isGood 32 = .ok (.invokestatic 71, 3) := by decide +kernel
theorem dX6_isGood_35 : decode cX6_isGood 35 = .ok (.iconst 5, 1) := by decide +kernel
theorem dX6_isGood_36 : decode cX6_isGood 36 = .ok (.iadd, 1) := by decide +kernel
theorem dX6_isGood_37 : decode cX6_isGood 37 = .ok (.iaload, 1) := by decide +kernel
theorem dX6_isGood_38 : decode cX6_isGood 38 = .ok (.if_icmp .ge 7, 3) := by decide +kernel
theorem dX6_isGood_41 : decode cX6_isGood 41 = .ok (.iconst 1, 1) := by decide +kernel
theorem dX6_isGood_42 : decode cX6_isGood 42 = .ok (.goto 4, 3) := by decide +kernel
theorem dX6_isGood_45 : decode cX6_isGood 45 = .ok (.iconst 0, 1) := by decide +kernel
theorem dX6_isGood_46 : decode cX6_isGood 46 = .ok (.ireturn, 1) := by decide +kernel
theorem dX6_turned_0 : decode cX6_turned 0 = .ok (.iload_n 3, 1) := by decide +kernel
theorem dX6_turned_1 : decode cX6_turned 1 = .ok (.invokestatic 71, 3) := by decide +kernel
theorem dX6_turned_4 : decode cX6_turned 4 = .ok (.istore 6, 2) := by decide +kernel
theorem dX6_turned_6 : decode cX6_turned 6 = .ok (.aload_n 1, 1) := by decide +kernel
theorem dX6_turned_7 : decode cX6_turned 7 = .ok (.iload_n 3, 1) := by decide +kernel
theorem dX6_turned_8 : decode cX6_turned 8 = .ok (.invokestatic 114, 3) := by decide +kernel
theorem dX6_turned_11 : decode cX6_turned 11 = .ok (.ifCond .eq 19, 3) := by decide +kernel
theorem dX6_turned_14 : decode cX6_turned 14 = .ok (.aload_n 1, 1) := by decide +kernel
theorem dX6_turned_15 : decode cX6_turned 15 = .ok (.aload_n 1, 1) := by decide +kernel
theorem dX6_turned_16 : decode cX6_turned 16 = .ok (.iload 6, 2) := by decide +kernel
theorem dX6_turned_18 : decode cX6_turned 18 = .ok (.iconst 2, 1) := by decide +kernel
theorem dX6_turned_19 : decode cX6_turned 19 = .ok (.iadd, 1) := by decide +kernel
theorem dX6_turned_20 : decode cX6_turned 20 = .ok (.iaload, 1) := by decide +kernel
theorem dX6_turned_21 : decode cX6_turned 21 = .ok (.invokestatic 75, 3) := by decide +kernel
theorem dX6_turned_24 : decode cX6_turned 24 = .ok (.iconst 3, 1) := by decide +kernel
theorem dX6_turned_25 : decode cX6_turned 25 = .ok (.iadd, 1) := by decide +kernel
theorem dX6_turned_26 : decode cX6_turned 26 = .ok (.iaload, 1) := by decide +kernel
theorem dX6_turned_27 : decode cX6_turned 27 = .ok (.ifCond .ne 5, 3) := by decide +kernel
theorem dX6_turned_30 : decode cX6_turned 30 = .ok (.iconst 0, 1) := by decide +kernel
theorem dX6_turned_31 : decode cX6_turned 31 = .ok (.ireturn, 1) := by decide +kernel
theorem dX6_turned_32 : decode cX6_turned 32 = .ok (.aload_n 1, 1) := by decide +kernel
theorem dX6_turned_33 : decode cX6_turned 33 = .ok (.iload 6, 2) := by decide +kernel
theorem dX6_turned_35 : decode cX6_turned 35 = .ok (.bipush 9, 2) := by decide +kernel
theorem dX6_turned_37 : decode cX6_turned 37 = .ok (.iadd, 1) := by decide +kernel
theorem dX6_turned_38 : decode cX6_turned 38 = .ok (.iaload, 1) := by decide +kernel
theorem dX6_turned_39 : decode cX6_turned 39 = .ok (.iconst 1, 1) := by decide +kernel
theorem dX6_turned_40 : decode cX6_turned 40 = .ok (.if_icmp .ne 25, 3) := by decide +kernel
theorem dX6_turned_43 : decode cX6_turned 43 = .ok (.aload_n 1, 1) := by decide +kernel
theorem dX6_turned_44 : decode cX6_turned 44 = .ok (.iconst 5, 1) := by decide +kernel
theorem dX6_turned_45 : decode cX6_turned 45 = .ok (.invokestatic 118, 3) := by decide +kernel
theorem dX6_turned_48 : decode cX6_turned 48 = .ok (.ifCond .eq 17, 3) := by decide +kernel
theorem dX6_turned_51 : decode cX6_turned 51 = .ok (.aload_n 0, 1) := by decide +kernel
theorem dX6_turned_52 : decode cX6_turned 52 = .ok (.aload_n 1, 1) := by decide +kernel
theorem dX6_turned_53 : decode cX6_turned 53 = .ok (.aload_n 1, 1) := by decide +kernel
theorem dX6_turned_54 : decode cX6_turned 54 = .ok (.iload 6, 2) := by decide +kernel
theorem dX6_turned_56 : decode cX6_turned 56 = .ok (.bipush 6, 2) := by decide +kernel
theorem dX6_turned_58 : decode cX6_turned 58 = .ok (.iadd, 1) := by decide +kernel
theorem dX6_turned_59 : decode cX6_turned 59 = .ok (.iaload, 1) := by decide +kernel
theorem dX6_turned_60 : decode cX6_turned 60 = .ok (.invokevirtual 88, 3) := by decide +kernel
theorem dX6_turned_63 : decode cX6_turned 63 = .ok (.iconst 1, 1) := by decide +kernel
theorem dX6_turned_64 : decode cX6_turned 64 = .ok (.ireturn, 1) := by decide +kernel
theorem dX6_turned_65 : decode cX6_turned 65 = .ok (.aload_n 1, 1) := by decide +kernel
theorem dX6_turned_66 : decode cX6_turned 66 = .ok (.bipush 12, 2) := by decide +kernel
theorem dX6_turned_68 : decode cX6_turned 68 = .ok (.iaload, 1) := by decide +kernel
theorem dX6_turned_69 : decode cX6_turned 69 = .ok (.bipush 30, 2) := by decide +kernel
theorem dX6_turned_71 : decode cX6_turned 71 = .ok (.if_icmp .le 5, 3) := by decide +kernel
theorem dX6_turned_74 : decode cX6_turned 74 = .ok (.iconst 0, 1) := by decide +kernel
theorem dX6_turned_75 : decode cX6_turned 75 = .ok (.ireturn, 1) := by decide +kernel
theorem dX6_turned_76 : decode cX6_turned 76 = .ok (.aload_n 1, 1) := by decide +kernel
theorem dX6_turned_77 : decode cX6_turned 77 = .ok (.iload 6, 2) := by decide +kernel
theorem dX6_turned_79 : decode cX6_turned 79 = .ok (.bipush 9, 2) := by decide +kernel
theorem dX6_turned_81 : decode cX6_turned 81 = .ok (.iadd, 1) := by decide +kernel
theorem dX6_turned_82 : decode cX6_turned 82 = .ok (.iconst 1, 1) := by decide +kernel
theorem dX6_turned_83 : decode cX6_turned 83 = .ok (.iastore, 1) := by decide +kernel
theorem dX6_turned_84 : decode cX6_turned 84 = .ok (.aload_n 0, 1) := by decide +kernel
theorem dX6_turned_85 : decode cX6_turned 85 = .ok (.aload_n 1, 1) := by decide +kernel
theorem dX6_turned_86 : decode cX6_turned 86 = .ok (.iconst 0, 1) := by decide +kernel
theorem dX6_turned_87 : decode cX6_turned 87 = .ok (.aload_n 1, 1) := by decide +kernel
theorem dX6_turned_88 : decode cX6_turned 88 = .ok (.iload 6, 2) := by decide +kernel
theorem dX6_turned_90 : decode cX6_turned 90 = .ok (.iconst 1, 1) := by decide +kernel
theorem dX6_turned_91 : decode cX6_turned 91 = .ok (.iadd, 1) := by decide +kernel
theorem dX6_turned_92 : decode cX6_turned 92 = .ok (.iaload, 1) := by decide +kernel
theorem dX6_turned_93 : decode cX6_turned 93 = .ok (.aload_n 1, 1) := by decide +kernel
theorem dX6_turned_94 : decode cX6_turned 94 = .ok (.iload 6, 2) := by decide +kernel
theorem dX6_turned_96 : decode cX6_turned 96 = .ok (.iconst 2, 1) := by decide +kernel
theorem dX6_turned_97 : decode cX6_turned 97 = .ok (.iadd, 1) := by decide +kernel
theorem dX6_turned_98 : decode cX6_turned 98 = .ok (.iaload, 1) := by decide +kernel
theorem dX6_turned_99 : decode cX6_turned 99 = .ok (.aload_n 1, 1) := by decide +kernel
theorem dX6_turned_100 : decode cX6_turned 100 = .ok (.iload 6, 2) := by decide +kernel
theorem dX6_turned_102 : decode cX6_turned 102 = .ok (.iconst 3, 1) := by decide +kernel
theorem dX6_turned_103 : decode cX6_turned 103 = .ok (.iadd, 1) := by decide +kernel
theorem dX6_turned_104 : decode cX6_turned 104 = .ok (.iaload, 1) := by decide +kernel
theorem dX6_turned_105 : decode cX6_turned 105 = .ok (.aload_n 1, 1) := by decide +kernel
theorem dX6_turned_106 : decode cX6_turned 106 = .ok (.iconst 0, 1) := by decide +kernel
theorem dX6_turned_107 : decode cX6_turned 107 = .ok (.iaload, 1) := by decide +kernel
theorem dX6_turned_108 : decode cX6_turned 108 = .ok (.aload_n 1, 1) := by decide +kernel
theorem dX6_turned_109 : decode cX6_turned 109 = .ok (.iconst 4, 1) := by decide +kernel
theorem dX6_turned_110 : decode cX6_turned 110 = .ok (.iaload, 1) := by decide +kernel
theorem dX6_turned_111 : decode cX6_turned 111 = .ok (.iadd, 1) := by decide +kernel
theorem dX6_turned_112 : decode cX6_turned 112 = .ok (.aload_n 1, 1) := by decide +kernel
theorem dX6_turned_113 : decode cX6_turned 113 = .ok (.iload 6, 2) := by decide +kernel
theorem dX6_turned_115 : decode cX6_turned 115 = .ok (.bipush 6, 2) := by decide +kernel
theorem dX6_turned_117 : decode cX6_turned 117 = .ok (.iadd, 1) := by decide +kernel
theorem dX6_turned_118 : decode cX6_turned 118 = .ok (.iaload, 1) := by decide +kernel
theorem dX6_turned_119 : decode cX6_turned 119 = .ok (.aload_n 1, 1) := by decide +kernel
theorem dX6_turned_120 : decode cX6_turned 120 = .ok (.iload 6, 2) := by decide +kernel
theorem dX6_turned_122 : decode cX6_turned 122 = .ok (.bipush 7, 2) := by decide +kernel
theorem dX6_turned_124 : decode cX6_turned 124 = .ok (.iadd, 1) := by decide +kernel
theorem dX6_turned_125 : decode cX6_turned 125 = .ok (.iaload, 1) := by decide +kernel
theorem dX6_turned_126 : decode cX6_turned 126 = .ok (.iconst (-1), 1) := by decide +kernel
theorem dX6_turned_127 : decode cX6_turned 127 = .ok (.invokevirtual 110, 3) := by decide +kernel
theorem dX6_turned_130 : decode cX6_turned 130 = .ok (.istore 7, 2) := by decide +kernel
theorem dX6_turned_132 : decode cX6_turned 132 = .ok (.aload_n 0, 1) := by decide +kernel
theorem dX6_turned_133 : decode cX6_turned 133 = .ok (.aload_n 1, 1) := by decide +kernel
theorem dX6_turned_134 : decode cX6_turned 134 = .ok (.iconst 1, 1) := by decide +kernel
theorem dX6_turned_135 : decode cX6_turned 135 = .ok (.aload_n 1, 1) := by decide +kernel
theorem dX6_turned_136 : decode cX6_turned 136 = .ok (.iload 6, 2) := by decide +kernel
theorem dX6_turned_138 : decode cX6_turned 138 = .ok (.iconst 1, 1) := by decide +kernel
theorem dX6_turned_139 : decode cX6_turned 139 = .ok (.iadd, 1) := by decide +kernel
theorem dX6_turned_140 : decode cX6_turned 140 = .ok (.iaload, 1) := by decide +kernel
theorem dX6_turned_141 : decode cX6_turned 141 = .ok (.aload_n 1, 1) := by decide +kernel
theorem dX6_turned_142 : decode cX6_turned 142 = .ok (.iload 6, 2) := by decide +kernel
theorem dX6_turned_144 : decode cX6_turned 144 = .ok (.iconst 2, 1) := by decide +kernel
theorem dX6_turned_145 : decode cX6_turned 145 = .ok (.iadd, 1) := by decide +kernel
theorem dX6_turned_146 : decode cX6_turned 146 = .ok (.iaload, 1) := by decide +kernel
theorem dX6_turned_147 : decode cX6_turned 147 = .ok (.aload_n 1, 1) := by decide +kernel
theorem dX6_turned_148 : decode cX6_turned 148 = .ok (.iload 6, 2) := by decide +kernel
theorem dX6_turned_150 : decode cX6_turned 150 = .ok (.iconst 3, 1) := by decide +kernel
theorem dX6_turned_151 : decode cX6_turned 151 = .ok (.iadd, 1) := by decide +kernel
theorem dX6_turned_152 : decode cX6_turned 152 = .ok (.iaload, 1) := by decide +kernel
theorem dX6_turned_153 : decode cX6_turned 153 = .ok (.aload_n 1, 1) := by decide +kernel
theorem dX6_turned_154 : decode cX6_turned 154 = .ok (.iload 6, 2) := by decide +kernel
theorem dX6_turned_156 : decode cX6_turned 156 = .ok (.iconst 5, 1) := by decide +kernel
theorem dX6_turned_157 : decode cX6_turned 157 = .ok (.iadd, 1) := by decide +kernel
theorem dX6_turned_158 : decode cX6_turned 158 = .ok (.iaload, 1) := by decide +kernel
theorem dX6_turned_159 : decode cX6_turned 159 = .ok (.aload_n 1, 1) := by decide +kernel
theorem dX6_turned_160 : decode cX6_turned 160 = .ok (.iload 6, 2) := by decide +kernel
theorem dX6_turned_162 : decode cX6_turned 162 = .ok (.bipush 6, 2) := by decide +kernel
theorem dX6_turned_164 : decode cX6_turned 164 = .ok (.iadd, 1) := by decide +kernel
theorem dX6_turned_165 : decode cX6_turned 165 = .ok (.iaload, 1) := by decide +kernel
theorem dX6_turned_166 : decode cX6_turned 166 = .ok (.aload_n 1, 1) := by decide +kernel
theorem dX6_turned_167 : decode cX6_turned 167 = .ok (.iload 6, 2) := by decide +kernel
theorem dX6_turned_169 : decode cX6_turned 169 = .ok (.bipush 7, 2) := by decide +kernel
theorem dX6_turned_171 : decode cX6_turned 171 = .ok (.iadd, 1) := by decide +kernel
theorem dX6_turned_172 : decode cX6_turned 172 = .ok (.iaload, 1) := by decide +kernel
theorem dX6_turned_173 : decode cX6_turned 173 = .ok (.iconst (-1), 1) := by decide +kernel
theorem dX6_turned_174 : decode cX6_turned 174 = .ok (.invokevirtual 110, 3) := by decide +kernel
theorem dX6_turned_177 : decode cX6_turned 177 = .ok (.istore 8, 2) := by decide +kernel
theorem dX6_turned_179 : decode cX6_turned 179 = .ok (.iload 5, 2) := by decide +kernel
theorem dX6_turned_181 : decode cX6_turned 181 = .ok (.ifCond .eq 20, 3) := by decide +kernel
theorem dX6_turned_184 : decode cX6_turned 184 = .ok (.aload_n 1, 1) := by decide +kernel
theorem dX6_turned_185 : decode cX6_turned 185 = .ok (.iconst 4, 1) := by decide +kernel
theorem dX6_turned_186 : decode cX6_turned 186 = .ok (.iload 7, 2) := by decide +kernel
theorem dX6_turned_188 : decode cX6_turned 188 = .ok (.invokestatic 102, 3) := by decide +kernel
theorem dX6_turned_191 : decode cX6_turned 191 = .ok (.aload_n 1, 1) := by decide +kernel
theorem dX6_turned_192 : decode cX6_turned 192 = .ok (.iconst 4, 1) := by decide +kernel
theorem dX6_turned_193 : decode cX6_turned 193 = .ok (.iload 8, 2) := by decide +kernel
theorem dX6_turned_195 : decode cX6_turned 195 = .ok (.invokestatic 102, 3) := by decide +kernel
theorem dX6_turned_198 : decode cX6_turned 198 = .ok (.goto 18, 3) := by decide +kernel
theorem dX6_turned_201 : decode cX6_turned 201 = .ok (.aload_n 0, 1) := by decide +kernel
theorem dX6_turned_202 : decode cX6_turned 202 = .ok (.aload_n 1, 1) := by decide +kernel
theorem dX6_turned_203 : decode cX6_turned 203 = .ok (.bipush 9, 2) := by decide +kernel
theorem dX6_turned_205 : decode cX6_turned 205 = .ok (.iload_n 2, 1) := by decide +kernel
theorem dX6_turned_206 : decode cX6_turned 206 = .ok (.iconst 1, 1) := by decide +kernel
theorem dX6_turned_207 : decode cX6_turned 207 = .ok (.iload 7, 2) := by decide +kernel
theorem dX6_turned_209 : decode cX6_turned 209 = .ok (.iload 8, 2) := by decide +kernel
theorem dX6_turned_211 : decode cX6_turned 211 = .ok (.iload 4, 2) := by decide +kernel
theorem dX6_turned_213 : decode cX6_turned 213 = .ok (.invokevirtual 106, 3) := by decide +kernel
theorem dX6_turned_216 : decode cX6_turned 216 = .ok (.iconst 1, 1) := by decide +kernel
theorem dX6_turned_217 : decode cX6_turned 217 = .ok (.ireturn, 1) := by decide +kernel
theorem dX6_handed_0 : decode cX6_handed 0 = .ok (.iload_n 3, 1) := by decide +kernel
theorem dX6_handed_1 : decode cX6_handed 1 = .ok (.invokestatic 71, 3) := by decide +kernel
theorem dX6_handed_4 : decode cX6_handed 4 = .ok (.istore 6, 2) := by decide +kernel
theorem dX6_handed_6 : decode cX6_handed 6 = .ok (.aload_n 1, 1) := by decide +kernel
theorem dX6_handed_7 : decode cX6_handed 7 = .ok (.bipush 6, 2) := by decide +kernel
theorem dX6_handed_9 : decode cX6_handed 9 = .ok (.invokestatic 118, 3) := by decide +kernel
theorem dX6_handed_12 : decode cX6_handed 12 = .ok (.ifCond .eq 15, 3) := by decide +kernel
theorem dX6_handed_15 : decode cX6_handed 15 = .ok (.iload 5, 2) := by decide +kernel
theorem dX6_handed_17 : decode cX6_handed 17 = .ok (.aload_n 1, 1) := by decide +kernel
theorem dX6_handed_18 : decode cX6_handed 18 = .ok (.iload 6, 2) := by decide +kernel
theorem dX6_handed_20 : decode cX6_handed 20 = .ok (.iconst 3, 1) := by decide +kernel
theorem dX6_handed_21 : decode cX6_handed 21 = .ok (.iadd, 1) := by decide +kernel
theorem dX6_handed_22 : decode cX6_handed 22 = .ok (.iaload, 1) := by decide +kernel
theorem dX6_handed_23 : decode cX6_handed 23 = .ok (.iand, 1) := by decide +kernel
theorem dX6_handed_24 : decode cX6_handed 24 = .ok (.goto 5, 3) := by decide +kernel
theorem dX6_handed_27 : decode cX6_handed 27 = .ok (.iload 5, 2) := by decide +kernel
theorem dX6_handed_29 : decode cX6_handed 29 = .ok (.istore 7, 2) := by decide +kernel
theorem dX6_handed_31 : decode cX6_handed 31 = .ok (.aload_n 1, 1) := by decide +kernel
theorem dX6_handed_32 : decode cX6_handed 32 = .ok (.iload_n 3, 1) := by decide +kernel
theorem dX6_handed_33 : decode cX6_handed 33 = .ok (.invokestatic 114, 3) := by decide +kernel
theorem dX6_handed_36 : decode cX6_handed 36 = .ok (.ifCond .eq 29, 3) := by decide +kernel
theorem dX6_handed_39 : decode cX6_handed 39 = .ok (.aload_n 1, 1) := by decide +kernel
theorem dX6_handed_40 : decode cX6_handed 40 = .ok (.iload 4, 2) := by decide +kernel
theorem dX6_handed_42 : decode cX6_handed 42 = .ok (.invokestatic 75, 3) := by decide +kernel
theorem dX6_handed_45 : decode cX6_handed 45 = .ok (.iconst 3, 1) := by decide +kernel
theorem dX6_handed_46 : decode cX6_handed 46 = .ok (.iadd, 1) := by decide +kernel
theorem dX6_handed_47 : decode cX6_handed 47 = .ok (.iaload, 1) := by decide +kernel
theorem dX6_handed_48 : decode cX6_handed 48 = .ok (.ifCond .eq 17, 3) := by decide +kernel
theorem dX6_handed_51 : decode cX6_handed 51 = .ok (.iload 7, 2) := by decide +kernel
theorem dX6_handed_53 : decode cX6_handed 53 = .ok (.ifCond .eq 12, 3) := by decide +kernel
theorem dX6_handed_56 : decode cX6_handed 56 = .ok (.aload_n 1, 1) := by decide +kernel
theorem dX6_handed_57 : decode cX6_handed 57 = .ok (.bipush 12, 2) := by decide +kernel
theorem dX6_handed_59 : decode cX6_handed 59 = .ok (.iaload, 1) := by decide +kernel
theorem dX6_handed_60 : decode cX6_handed 60 = .ok (.bipush 32, 2) := by decide +kernel
theorem dX6_handed_62 : decode cX6_handed 62 = .ok (.if_icmp .ne 5, 3) := by decide +kernel
theorem dX6_handed_65 : decode cX6_handed 65 = .ok (.iconst 0, 1) := by decide +kernel
theorem dX6_handed_66 : decode cX6_handed 66 = .ok (.ireturn, 1) := by decide +kernel
theorem dX6_handed_67 : decode cX6_handed 67 = .ok (.aload_n 1, 1) := by decide +kernel
theorem dX6_handed_68 : decode cX6_handed 68 = .ok (.iconst 0, 1) := by decide +kernel
theorem dX6_handed_69 : decode cX6_handed 69 = .ok (.iaload, 1) := by decide +kernel
theorem dX6_handed_70 : decode cX6_handed 70 = .ok (.aload_n 1, 1) := by decide +kernel
theorem dX6_handed_71 : decode cX6_handed 71 = .ok (.iconst 4, 1) := by decide +kernel
theorem dX6_handed_72 : decode cX6_handed 72 = .ok (.iaload, 1) := by decide +kernel
theorem dX6_handed_73 : decode cX6_handed 73 = .ok (.iadd, 1) := by decide +kernel
theorem dX6_handed_74 : decode cX6_handed 74 = .ok (.istore 8, 2) := by decide +kernel
theorem dX6_handed_76 : decode cX6_handed 76 = .ok (.aload_n 1, 1) := by decide +kernel
theorem dX6_handed_77 : decode cX6_handed 77 = .ok (.bipush 6, 2) := by decide +kernel
theorem dX6_handed_79 : decode cX6_handed 79 = .ok (.invokestatic 118, 3) := by decide +kernel
theorem dX6_handed_82 : decode cX6_handed 82 = .ok (.ifCond .eq 22, 3) := by decide +kernel
theorem dX6_handed_85 : decode cX6_handed 85 = .ok (.aload_n 1, 1) := by decide +kernel
theorem dX6_handed_86 : decode cX6_handed 86 = .ok (.iload 6, 2) := by decide +kernel
theorem dX6_handed_88 : decode cX6_handed 88 = .ok (.iconst 5, 1) := by decide +kernel
theorem dX6_handed_89 : decode cX6_handed 89 = .ok (.iadd, 1) := by decide +kernel
theorem dX6_handed_90 : decode cX6_handed 90 = .ok (.iaload, 1) := by decide +kernel
theorem dX6_handed_91 : decode cX6_handed 91 = .ok (.iload 8, 2) := by decide +kernel
theorem dX6_handed_93 : decode cX6_handed 93 = .ok (.if_icmp .ge 11, 3) := by decide +kernel
theorem dX6_handed_96 : decode cX6_handed 96 = .ok (.aload_n 1, 1) := by decide +kernel
theorem dX6_handed_97 : decode cX6_handed 97 = .ok (.iload 6, 2) := by decide +kernel
theorem dX6_handed_99 : decode cX6_handed 99 = .ok (.iconst 5, 1) := by decide +kernel
theorem dX6_handed_100 : decode cX6_handed 100 = .ok (.iadd, 1) := by decide +kernel
theorem dX6_handed_101 : decode cX6_handed 101 = .ok (.iaload, 1) := by decide +kernel
theorem dX6_handed_102 : decode cX6_handed 102 = .ok (.istore 8, 2) := by decide +kernel
theorem dX6_handed_104 : decode cX6_handed 104 = .ok (.aload_n 0, 1) := by decide +kernel
theorem dX6_handed_105 : decode cX6_handed 105 = .ok (.aload_n 1, 1) := by decide +kernel
theorem dX6_handed_106 : decode cX6_handed 106 = .ok (.iconst 2, 1) := by decide +kernel
theorem dX6_handed_107 : decode cX6_handed 107 = .ok (.aload_n 1, 1) := by decide +kernel
theorem dX6_handed_108 : decode cX6_handed 108 = .ok (.iload 6, 2) := by decide +kernel
theorem dX6_handed_110 : decode cX6_handed 110 = .ok (.iconst 1, 1) := by decide +kernel
theorem dX6_handed_111 : decode cX6_handed 111 = .ok (.iadd, 1) := by decide +kernel
theorem dX6_handed_112 : decode cX6_handed 112 = .ok (.iaload, 1) := by decide +kernel
theorem dX6_handed_113 : decode cX6_handed 113 = .ok (.iload 4, 2) := by decide +kernel
theorem dX6_handed_115 : decode cX6_handed 115 = .ok (.iload 7, 2) := by decide +kernel
theorem dX6_handed_117 : decode cX6_handed 117 = .ok (.iload 8, 2) := by decide +kernel
theorem dX6_handed_119 : decode cX6_handed 119 = .ok (.aload_n 1, 1) := by decide +kernel
theorem dX6_handed_120 : decode cX6_handed 120 = .ok (.iload 6, 2) := by decide +kernel
theorem dX6_handed_122 : decode cX6_handed 122 = .ok (.bipush 6, 2) := by decide +kernel
theorem dX6_handed_124 : decode cX6_handed 124 = .ok (.iadd, 1) := by decide +kernel
theorem dX6_handed_125 : decode cX6_handed 125 = .ok (.iaload, 1) := by decide +kernel
theorem dX6_handed_126 : decode cX6_handed 126 = .ok (.aload_n 1, 1) := by decide +kernel
theorem dX6_handed_127 : decode cX6_handed 127 = .ok (.iload 6, 2) := by decide +kernel
theorem dX6_handed_129 : decode cX6_handed 129 = .ok (.bipush 7, 2) := by decide +kernel
theorem dX6_handed_131 : decode cX6_handed 131 = .ok (.iadd, 1) := by decide +kernel
theorem dX6_handed_132 : decode cX6_handed 132 = .ok (.iaload, 1) := by decide +kernel
theorem dX6_handed_133 : decode cX6_handed 133 = .ok (.iload_n 3, 1) := by decide +kernel
theorem dX6_handed_134 : decode cX6_handed 134 = .ok (.invokevirtual 110, 3) := by decide +kernel
theorem dX6_handed_137 : decode cX6_handed 137 = .ok (.istore 9, 2) := by decide +kernel
theorem dX6_handed_139 : decode cX6_handed 139 = .ok (.aload_n 0, 1) := by decide +kernel
theorem dX6_handed_140 : decode cX6_handed 140 = .ok (.aload_n 1, 1) := by decide +kernel
theorem dX6_handed_141 : decode cX6_handed 141 = .ok (.bipush 9, 2) := by decide +kernel
theorem dX6_handed_143 : decode cX6_handed 143 = .ok (.iload_n 2, 1) := by decide +kernel
theorem dX6_handed_144 : decode cX6_handed 144 = .ok (.iconst 1, 1) := by decide +kernel
theorem dX6_handed_145 : decode cX6_handed 145 = .ok (.iload 9, 2) := by decide +kernel
theorem dX6_handed_147 : decode cX6_handed 147 = .ok (.iconst (-1), 1) := by decide +kernel
theorem dX6_handed_148 : decode cX6_handed 148 = .ok (.iconst 0, 1) := by decide +kernel
theorem dX6_handed_149 : decode cX6_handed 149 = .ok (.invokevirtual 106, 3) := by decide +kernel
theorem dX6_handed_152 : decode cX6_handed 152 = .ok (.iconst 1, 1) := by decide +kernel
theorem dX6_handed_153 : decode cX6_handed 153 = .ok (.ireturn, 1) := by decide +kernel
theorem dX6_taken_0 : decode cX6_taken 0 = .ok (.iload_n 2, 1) := by decide +kernel
theorem dX6_taken_1 : decode cX6_taken 1 = .ok (.iconst 5, 1) := by decide +kernel
theorem dX6_taken_2 : decode cX6_taken 2 = .ok (.if_icmp .ge 46, 3) := by decide +kernel
theorem dX6_taken_5 : decode cX6_taken 5 = .ok (.iload_n 2, 1) := by decide +kernel
theorem dX6_taken_6 : decode cX6_taken 6 = .ok (.invokestatic 82, 3) := by decide +kernel
theorem dX6_taken_9 : decode cX6_taken 9 = .ok (.istore 6, 2) := by decide +kernel
theorem dX6_taken_11 : decode cX6_taken 11 = .ok (.aload_n 1, 1) := by decide +kernel
theorem dX6_taken_12 : decode cX6_taken 12 = .ok (.iconst 4, 1) := by decide +kernel
theorem dX6_taken_13 : decode cX6_taken 13 = .ok (.invokestatic 118, 3) := by decide +kernel
theorem dX6_taken_16 : decode cX6_taken 16 = .ok (.ifCond .eq 25, 3) := by decide +kernel
theorem dX6_taken_19 : decode cX6_taken 19 = .ok (.aload_n 1, 1) := by decide +kernel
theorem dX6_taken_20 : decode cX6_taken 20 = .ok (.iload 6, 2) := by decide +kernel
theorem dX6_taken_22 : decode cX6_taken 22 = .ok (.iconst 1, 1) := by decide +kernel
theorem dX6_taken_23 : decode cX6_taken 23 = .ok (.iadd, 1) := by decide +kernel
theorem dX6_taken_24 : decode cX6_taken 24 = .ok (.iaload, 1) := by decide +kernel
theorem dX6_taken_25 : decode cX6_taken 25 = .ok (.ifCond .eq 14, 3) := by decide +kernel
theorem dX6_taken_28 : decode cX6_taken 28 = .ok (.aload_n 1, 1) := by decide +kernel
theorem dX6_taken_29 : decode cX6_taken 29 = .ok (.iload 6, 2) := by decide +kernel
theorem dX6_taken_31 : decode cX6_taken 31 = .ok (.iconst 1, 1) := by decide +kernel
theorem dX6_taken_32 : decode cX6_taken 32 = .ok (.iadd, 1) := by decide +kernel
theorem dX6_taken_33 : decode cX6_taken 33 = .ok (.iaload, 1) := by decide +kernel
theorem dX6_taken_34 : decode cX6_taken 34 = .ok (.iload 5, 2) := by decide +kernel
theorem dX6_taken_36 : decode cX6_taken 36 = .ok (.if_icmp .eq 5, 3) := by decide +kernel
theorem dX6_taken_39 : decode cX6_taken 39 = .ok (.iconst 0, 1) := by decide +kernel
theorem dX6_taken_40 : decode cX6_taken 40 = .ok (.ireturn, 1) := by decide +kernel
theorem dX6_taken_41 : decode cX6_taken 41 = .ok (.aload_n 1, 1) := by decide +kernel
theorem dX6_taken_42 : decode cX6_taken 42 = .ok (.iload 6, 2) := by decide +kernel
theorem dX6_taken_44 : decode cX6_taken 44 = .ok (.iconst 1, 1) := by decide +kernel
theorem dX6_taken_45 : decode cX6_taken 45 = .ok (.iadd, 1) := by decide +kernel
theorem dX6_taken_46 : decode cX6_taken 46 = .ok (.iconst 0, 1) := by decide +kernel
theorem dX6_taken_47 : decode cX6_taken 47 = .ok (.iastore, 1) := by decide +kernel
theorem dX6_taken_48 : decode cX6_taken 48 = .ok (.aload_n 1, 1) := by decide +kernel
theorem dX6_taken_49 : decode cX6_taken 49 = .ok (.iload_n 2, 1) := by decide +kernel
theorem dX6_taken_50 : decode cX6_taken 50 = .ok (.iload_n 3, 1) := by decide +kernel
theorem dX6_taken_51 : decode cX6_taken 51 = .ok (.invokestatic 102, 3) := by decide +kernel
theorem dX6_taken_54 : decode cX6_taken 54 = .ok (.aload_n 1, 1) := by decide +kernel
theorem dX6_taken_55 : decode cX6_taken 55 = .ok (.iload_n 2, 1) := by decide +kernel
theorem dX6_taken_56 : decode cX6_taken 56 = .ok (.iload 4, 2) := by decide +kernel
theorem dX6_taken_58 : decode cX6_taken 58 = .ok (.invokestatic 102, 3) := by decide +kernel
theorem dX6_taken_61 : decode cX6_taken 61 = .ok (.iconst 1, 1) := by decide +kernel
theorem dX6_taken_62 : decode cX6_taken 62 = .ok (.ireturn, 1) := by decide +kernel
theorem dX6_verdict_0 : decode cX6_verdict 0 = .ok (.iload_n 1, 1) := by decide +kernel
theorem dX6_verdict_1 : decode cX6_verdict 1 = .ok (.invokestatic 75, 3) := by decide +kernel
theorem dX6_verdict_4 : decode cX6_verdict 4 = .ok (.istore 4, 2) := by decide +kernel
theorem dX6_verdict_6 : decode cX6_verdict 6 = .ok (.iload_n 2, 1) := by decide +kernel
theorem dX6_verdict_7 : decode cX6_verdict 7 = .ok (.invokestatic 71, 3) := by decide +kernel
theorem dX6_verdict_10 : decode cX6_verdict 10 = .ok (.istore 5, 2) := by decide +kernel
theorem dX6_verdict_12 : decode cX6_verdict 12 = .ok (.aload_n 0, 1) := by decide +kernel
theorem dX6_verdict_13 : decode cX6_verdict 13 = .ok (.iconst 0, 1) := by decide +kernel
theorem dX6_verdict_14 : decode cX6_verdict 14 = .ok (.iaload, 1) := by decide +kernel
theorem dX6_verdict_15 : decode cX6_verdict 15 = .ok (.aload_n 0, 1) := by decide +kernel
theorem dX6_verdict_16 : decode cX6_verdict 16 = .ok (.iload 4, 2) := by decide +kernel
theorem dX6_verdict_18 : decode cX6_verdict 18 = .ok (.iconst 0, 1) := by decide +kernel
theorem dX6_verdict_19 : decode cX6_verdict 19 = .ok (.iadd, 1) := by decide +kernel
theorem dX6_verdict_20 : decode cX6_verdict 20 = .ok (.iaload, 1) := by decide +kernel
theorem dX6_verdict_21 : decode cX6_verdict 21 = .ok (.iadd, 1) := by decide +kernel
theorem dX6_verdict_22 : decode cX6_verdict 22 = .ok (.istore 6, 2) := by decide +kernel
theorem dX6_verdict_24 : decode cX6_verdict 24 = .ok (.aload_n 0, 1) := by decide +kernel
theorem dX6_verdict_25 : decode cX6_verdict 25 = .ok (.iload 4, 2) := by decide +kernel
theorem dX6_verdict_27 : decode cX6_verdict 27 = .ok (.iconst 3, 1) := by decide +kernel
theorem dX6_verdict_28 : decode cX6_verdict 28 = .ok (.iadd, 1) := by decide +kernel
theorem dX6_verdict_29 : decode cX6_verdict 29 = .ok (.iaload, 1) := by decide +kernel
theorem dX6_verdict_30 : decode cX6_verdict 30 = .ok (.ifCond .ne 5, 3) := by decide +kernel
theorem dX6_verdict_33 : decode cX6_verdict 33 = .ok (.iconst 1, 1) := by decide +kernel
theorem dX6_verdict_34 : decode cX6_verdict 34 = .ok (.ireturn, 1) := by decide +kernel
theorem dX6_verdict_35 : decode cX6_verdict 35 = .ok (.aload_n 0, 1) := by decide +kernel
theorem dX6_verdict_36 : decode cX6_verdict 36 = .ok (.iload 5, 2) := by decide +kernel
theorem dX6_verdict_38 : decode cX6_verdict 38 = .ok (.iconst 0, 1) := by decide +kernel
theorem dX6_verdict_39 : decode cX6_verdict 39 = .ok (.iadd, 1) := by decide +kernel
theorem dX6_verdict_40 : decode cX6_verdict 40 = .ok (.iaload, 1) := by decide +kernel
theorem dX6_verdict_41 : decode cX6_verdict 41 = .ok (.iconst 1, 1) := by decide +kernel
theorem dX6_verdict_42 : decode cX6_verdict 42 = .ok (.if_icmp .ne 5, 3) := by decide +kernel
theorem dX6_verdict_45 : decode cX6_verdict 45 = .ok (.iconst 2, 1) := by decide +kernel
theorem dX6_verdict_46 : decode cX6_verdict 46 = .ok (.ireturn, 1) := by decide +kernel
theorem dX6_verdict_47 : decode cX6_verdict 47 = .ok (.aload_n 0, 1) := by decide +kernel
theorem dX6_verdict_48 : decode cX6_verdict 48 = .ok (.iconst 0, 1) := by decide +kernel
theorem dX6_verdict_49 : decode cX6_verdict 49 = .ok (.invokestatic 118, 3) := by decide +kernel
theorem dX6_verdict_52 : decode cX6_verdict 52 = .ok (.ifCond .eq 15, 3) := by decide +kernel
theorem dX6_verdict_55 : decode cX6_verdict 55 = .ok (.aload_n 0, 1) := by decide +kernel
theorem dX6_verdict_56 : decode cX6_verdict 56 = .ok (.iload 5, 2) := by decide +kernel
theorem dX6_verdict_58 : decode cX6_verdict 58 = .ok (.iconst 2, 1) := by decide +kernel
theorem dX6_verdict_59 : decode cX6_verdict 59 = .ok (.iadd, 1) := by decide +kernel
theorem dX6_verdict_60 : decode cX6_verdict 60 = .ok (.iaload, 1) := by decide +kernel
theorem dX6_verdict_61 : decode cX6_verdict 61 = .ok (.iload_n 1, 1) := by decide +kernel
theorem dX6_verdict_62 : decode cX6_verdict 62 = .ok (.if_icmp .eq 5, 3) := by decide +kernel
theorem dX6_verdict_65 : decode cX6_verdict 65 = .ok (.iconst 3, 1) := by decide +kernel
theorem dX6_verdict_66 : decode cX6_verdict 66 = .ok (.ireturn, 1) := by decide +kernel
theorem dX6_verdict_67 : decode cX6_verdict 67 = .ok (.aload_n 0, 1) := by decide +kernel
theorem dX6_verdict_68 : decode cX6_verdict 68 = .ok (.iconst 1, 1) := by decide +kernel
theorem dX6_verdict_69 : decode cX6_verdict 69 = .ok (.invokestatic 118, 3) := by decide +kernel
theorem dX6_verdict_72 : decode cX6_verdict 72 = .ok (.ifCond .eq 21, 3) := by decide +kernel
theorem dX6_verdict_75 : decode cX6_verdict 75 = .ok (.iload 6, 2) := by decide +kernel
theorem dX6_verdict_77 : decode cX6_verdict 77 = .ok (.aload_n 0, 1) := by decide +kernel
theorem dX6_verdict_78 : decode cX6_verdict 78 = .ok (.iload 5, 2) := by decide +kernel
theorem dX6_verdict_80 : decode cX6_verdict 80 = .ok (.iconst 4, 1) := by decide +kernel
theorem dX6_verdict_81 : decode cX6_verdict 81 = .ok (.iadd, 1) := by decide +kernel
theorem dX6_verdict_82 : decode cX6_verdict 82 = .ok (.iaload, 1) := by decide +kernel
theorem dX6_verdict_83 : decode cX6_verdict 83 = .ok (.aload_n 0, 1) := by decide +kernel
theorem dX6_verdict_84 : decode cX6_verdict 84 = .ok (.bipush 6, 2) := by decide +kernel
theorem dX6_verdict_86 : decode cX6_verdict 86 = .ok (.iaload, 1) := by decide +kernel
theorem dX6_verdict_87 : decode cX6_verdict 87 = .ok (.isub, 1) := by decide +kernel
theorem dX6_verdict_88 : decode cX6_verdict 88 = .ok (.if_icmp .ge 5, 3) := by decide +kernel
theorem dX6_verdict_91 : decode cX6_verdict 91 = .ok (.iconst 4, 1) := by decide +kernel
theorem dX6_verdict_92 : decode cX6_verdict 92 = .ok (.ireturn, 1) := by decide +kernel
theorem dX6_verdict_93 : decode cX6_verdict 93 = .ok (.aload_n 0, 1) := by decide +kernel
theorem dX6_verdict_94 : decode cX6_verdict 94 = .ok (.iconst 1, 1) := by decide +kernel
theorem dX6_verdict_95 : decode cX6_verdict 95 = .ok (.invokestatic 118, 3) := by decide +kernel
theorem dX6_verdict_98 : decode cX6_verdict 98 = .ok (.ifCond .eq 21, 3) := by decide +kernel
theorem dX6_verdict_101 : decode cX6_verdict 101 = .ok (.iload 6, 2) := by decide +kernel
theorem dX6_verdict_103 : decode cX6_verdict 103 = .ok (.aload_n 0, 1) := by decide +kernel
theorem dX6_verdict_104 : decode cX6_verdict 104 = .ok (.iload 5, 2) := by decide +kernel
theorem dX6_verdict_106 : decode cX6_verdict 106 = .ok (.iconst 5, 1) := by decide +kernel
theorem dX6_verdict_107 : decode cX6_verdict 107 = .ok (.iadd, 1) := by decide +kernel
theorem dX6_verdict_108 : decode cX6_verdict 108 = .ok (.iaload, 1) := by decide +kernel
theorem dX6_verdict_109 : decode cX6_verdict 109 = .ok (.aload_n 0, 1) := by decide +kernel
theorem dX6_verdict_110 : decode cX6_verdict 110 = .ok (.bipush 6, 2) := by decide +kernel
theorem dX6_verdict_112 : decode cX6_verdict 112 = .ok (.iaload, 1) := by decide +kernel
theorem dX6_verdict_113 : decode cX6_verdict 113 = .ok (.iadd, 1) := by decide +kernel
theorem dX6_verdict_114 : decode cX6_verdict 114 = .ok (.if_icmp .lt 5, 3) := by decide +kernel
theorem dX6_verdict_117 : decode cX6_verdict 117 = .ok (.iconst 5, 1) := by decide +kernel
theorem dX6_verdict_118 : decode cX6_verdict 118 = .ok (.ireturn, 1) := by decide +kernel
theorem dX6_verdict_119 : decode cX6_verdict 119 = .ok (.aload_n 0, 1) := by decide +kernel
theorem dX6_verdict_120 : decode cX6_verdict 120 = .ok (.iconst 3, 1) := by decide +kernel
theorem dX6_verdict_121 : decode cX6_verdict 121 = .ok (.invokestatic 118, 3) := by decide +kernel
theorem dX6_verdict_124 : decode cX6_verdict 124 = .ok (.ifCond .eq 26, 3) := by decide +kernel
theorem dX6_verdict_127 : decode cX6_verdict 127 = .ok (.aload_n 0, 1) := by decide +kernel
theorem dX6_verdict_128 : decode cX6_verdict 128 = .ok (.iload 4, 2) := by decide +kernel
theorem dX6_verdict_130 : decode cX6_verdict 130 = .ok (.iconst 5, 1) := by decide +kernel
theorem dX6_verdict_131 : decode cX6_verdict 131 = .ok (.iadd, 1) := by decide +kernel
theorem dX6_verdict_132 : decode cX6_verdict 132 = .ok (.iaload, 1) := by decide +kernel
theorem dX6_verdict_133 : decode cX6_verdict 133 = .ok (.aload_n 0, 1) := by decide +kernel
theorem dX6_verdict_134 : decode cX6_verdict 134 = .ok (.iload 5, 2) := by decide +kernel
theorem dX6_verdict_136 : decode cX6_verdict 136 = .ok (.bipush 6, 2) := by decide +kernel
theorem dX6_verdict_138 : decode cX6_verdict 138 = .ok (.iadd, 1) := by decide +kernel
theorem dX6_verdict_139 : decode cX6_verdict 139 = .ok (.iaload, 1) := by decide +kernel
theorem dX6_verdict_140 : decode cX6_verdict 140 = .ok (.ishr, 1) := by decide +kernel
theorem dX6_verdict_141 : decode cX6_verdict 141 = .ok (.iconst 1, 1) := by decide +kernel
theorem dX6_verdict_142 : decode cX6_verdict 142 = .ok (.iand, 1) := by decide +kernel
theorem dX6_verdict_143 : decode cX6_verdict 143 = .ok (.iconst 1, 1) := by decide +kernel
theorem dX6_verdict_144 : decode cX6_verdict 144 = .ok (.if_icmp .ne 6, 3) := by decide +kernel
theorem dX6_verdict_147 : decode cX6_verdict 147 = .ok (.bipush 6, 2) := by decide +kernel
theorem dX6_verdict_149 : decode cX6_verdict 149 = .ok (.ireturn, 1) := by decide +kernel
theorem dX6_verdict_150 : decode cX6_verdict 150 = .ok (.aload_n 0, 1) := by decide +kernel
theorem dX6_verdict_151 : decode cX6_verdict 151 = .ok (.iconst 3, 1) := by decide +kernel
theorem dX6_verdict_152 : decode cX6_verdict 152 = .ok (.invokestatic 118, 3) := by decide +kernel
theorem dX6_verdict_155 : decode cX6_verdict 155 = .ok (.ifCond .eq 30, 3) := by decide +kernel
theorem dX6_verdict_158 : decode cX6_verdict 158 = .ok (.aload_n 0, 1) := by decide +kernel
theorem dX6_verdict_159 : decode cX6_verdict 159 = .ok (.bipush 8, 2) := by decide +kernel
theorem dX6_verdict_161 : decode cX6_verdict 161 = .ok (.iaload, 1) := by decide +kernel
theorem dX6_verdict_162 : decode cX6_verdict 162 = .ok (.ifCond .le 23, 3) := by decide +kernel
theorem dX6_verdict_165 : decode cX6_verdict 165 = .ok (.aload_n 0, 1) := by decide +kernel
theorem dX6_verdict_166 : decode cX6_verdict 166 = .ok (.iconst 0, 1) := by decide +kernel
theorem dX6_verdict_167 : decode cX6_verdict 167 = .ok (.iaload, 1) := by decide +kernel
theorem dX6_verdict_168 : decode cX6_verdict 168 = .ok (.aload_n 0, 1) := by decide +kernel
theorem dX6_verdict_169 : decode cX6_verdict 169 = .ok (.iload 4, 2) := by decide +kernel
theorem dX6_verdict_171 : decode cX6_verdict 171 = .ok (.iconst 4, 1) := by decide +kernel
theorem dX6_verdict_172 : decode cX6_verdict 172 = .ok (.iadd, 1) := by decide +kernel
theorem dX6_verdict_173 : decode cX6_verdict 173 = .ok (.iaload, 1) := by decide +kernel
theorem dX6_verdict_174 : decode cX6_verdict 174 = .ok (.isub, 1) := by decide +kernel
theorem dX6_verdict_175 : decode cX6_verdict 175 = .ok (.aload_n 0, 1) := by decide +kernel
theorem dX6_verdict_176 : decode cX6_verdict 176 = .ok (.bipush 8, 2) := by decide +kernel
theorem dX6_verdict_178 : decode cX6_verdict 178 = .ok (.iaload, 1) := by decide +kernel
theorem dX6_verdict_179 : decode cX6_verdict 179 = .ok (.if_icmp .le 6, 3) := by decide +kernel
theorem dX6_verdict_182 : decode cX6_verdict 182 = .ok (.bipush 7, 2) := by decide +kernel
theorem dX6_verdict_184 : decode cX6_verdict 184 = .ok (.ireturn, 1) := by decide +kernel
theorem dX6_verdict_185 : decode cX6_verdict 185 = .ok (.aload_n 0, 1) := by decide +kernel
theorem dX6_verdict_186 : decode cX6_verdict 186 = .ok (.iconst 2, 1) := by decide +kernel
theorem dX6_verdict_187 : decode cX6_verdict 187 = .ok (.invokestatic 118, 3) := by decide +kernel
theorem dX6_verdict_190 : decode cX6_verdict 190 = .ok (.ifCond .eq 31, 3) := by decide +kernel
theorem dX6_verdict_193 : decode cX6_verdict 193 = .ok (.aload_n 0, 1) := by decide +kernel
theorem dX6_verdict_194 : decode cX6_verdict 194 = .ok (.iload 4, 2) := by decide +kernel
theorem dX6_verdict_196 : decode cX6_verdict 196 = .ok (.iconst 1, 1) := by decide +kernel
theorem dX6_verdict_197 : decode cX6_verdict 197 = .ok (.iadd, 1) := by decide +kernel
theorem dX6_verdict_198 : decode cX6_verdict 198 = .ok (.iaload, 1) := by decide +kernel
theorem dX6_verdict_199 : decode cX6_verdict 199 = .ok (.iconst 1, 1) := by decide +kernel
theorem dX6_verdict_200 : decode cX6_verdict 200 = .ok (.if_icmp .ne 21, 3) := by decide +kernel
theorem dX6_verdict_203 : decode cX6_verdict 203 = .ok (.aload_n 0, 1) := by decide +kernel
theorem dX6_verdict_204 : decode cX6_verdict 204 = .ok (.iload 4, 2) := by decide +kernel
theorem dX6_verdict_206 : decode cX6_verdict 206 = .ok (.bipush 6, 2) := by decide +kernel
theorem dX6_verdict_208 : decode cX6_verdict 208 = .ok (.iadd, 1) := by decide +kernel
theorem dX6_verdict_209 : decode cX6_verdict 209 = .ok (.iaload, 1) := by decide +kernel
theorem dX6_verdict_210 : decode cX6_verdict 210 = .ok (.iload_n 2, 1) := by decide +kernel
theorem dX6_verdict_211 : decode cX6_verdict 211 = .ok (.iushr, 1) := by decide +kernel
theorem dX6_verdict_212 : decode cX6_verdict 212 = .ok (.iconst 1, 1) := by decide +kernel
theorem dX6_verdict_213 : decode cX6_verdict 213 = .ok (.iand, 1) := by decide +kernel
theorem dX6_verdict_214 : decode cX6_verdict 214 = .ok (.iconst 1, 1) := by decide +kernel
theorem dX6_verdict_215 : decode cX6_verdict 215 = .ok (.if_icmp .ne 6, 3) := by decide +kernel
theorem dX6_verdict_218 : decode cX6_verdict 218 = .ok (.bipush 8, 2) := by decide +kernel
theorem dX6_verdict_220 : decode cX6_verdict 220 = .ok (.ireturn, 1) := by decide +kernel
theorem dX6_verdict_221 : decode cX6_verdict 221 = .ok (.aload_n 0, 1) := by decide +kernel
theorem dX6_verdict_222 : decode cX6_verdict 222 = .ok (.iload 5, 2) := by decide +kernel
theorem dX6_verdict_224 : decode cX6_verdict 224 = .ok (.iconst 3, 1) := by decide +kernel
theorem dX6_verdict_225 : decode cX6_verdict 225 = .ok (.iadd, 1) := by decide +kernel
theorem dX6_verdict_226 : decode cX6_verdict 226 = .ok (.iaload, 1) := by decide +kernel
theorem dX6_verdict_227 : decode cX6_verdict 227 = .ok (.iload_n 3, 1) := by decide +kernel
theorem dX6_verdict_228 : decode cX6_verdict 228 = .ok (.ishr, 1) := by decide +kernel
theorem dX6_verdict_229 : decode cX6_verdict 229 = .ok (.iconst 1, 1) := by decide +kernel
theorem dX6_verdict_230 : decode cX6_verdict 230 = .ok (.iand, 1) := by decide +kernel
theorem dX6_verdict_231 : decode cX6_verdict 231 = .ok (.ifCond .ne 6, 3) := by decide +kernel
theorem dX6_verdict_234 : decode cX6_verdict 234 = .ok (.bipush 9, 2) := by decide +kernel
theorem dX6_verdict_236 : decode cX6_verdict 236 = .ok (.ireturn, 1) := by decide +kernel
theorem dX6_verdict_237 : decode cX6_verdict 237 = .ok (.aload_n 0, 1) := by decide +kernel
theorem dX6_verdict_238 : decode cX6_verdict 238 = .ok (.bipush 7, 2) := by decide +kernel
theorem dX6_verdict_240 : decode cX6_verdict 240 = .ok (.invokestatic 118, 3) := by decide +kernel
theorem dX6_verdict_243 : decode cX6_verdict 243 = .ok (.ifCond .eq 44, 3) := by decide +kernel
theorem dX6_verdict_246 : decode cX6_verdict 246 = .ok (.aload_n 0, 1) := by decide +kernel
theorem dX6_verdict_247 : decode cX6_verdict 247 = .ok (.iload 4, 2) := by decide +kernel
theorem dX6_verdict_249 : decode cX6_verdict 249 = .ok (.iconst 2, 1) := by decide +kernel
theorem dX6_verdict_250 : decode cX6_verdict 250 = .ok (.iadd, 1) := by decide +kernel
theorem dX6_verdict_251 : decode cX6_verdict 251 = .ok (.iaload, 1) := by decide +kernel
theorem dX6_verdict_252 : decode cX6_verdict 252 = .ok (.iload_n 3, 1) := by decide +kernel
theorem dX6_verdict_253 : decode cX6_verdict 253 = .ok (.ishr, 1) := by decide +kernel
theorem dX6_verdict_254 : decode cX6_verdict 254 = .ok (.iconst 1, 1) := by decide +kernel
theorem dX6_verdict_255 : decode cX6_verdict 255 = .ok (.iand, 1) := by decide +kernel
theorem dX6_verdict_256 : decode cX6_verdict 256 = .ok (.iconst 1, 1) := by decide +kernel
theorem dX6_verdict_257 : decode cX6_verdict 257 = .ok (.if_icmp .ne 30, 3) := by decide +kernel
theorem dX6_verdict_260 : decode cX6_verdict 260 = .ok (.iload 6, 2) := by decide +kernel
theorem dX6_verdict_262 : decode cX6_verdict 262 = .ok (.aload_n 0, 1) := by decide +kernel
theorem dX6_verdict_263 : decode cX6_verdict 263 = .ok (.iload 5, 2) := by decide +kernel
theorem dX6_verdict_265 : decode cX6_verdict 265 = .ok (.bipush 7, 2) := by decide +kernel
theorem dX6_verdict_267 : decode cX6_verdict 267 = .ok (.iadd, 1) := by decide +kernel
theorem dX6_verdict_268 : decode cX6_verdict 268 = .ok (.iaload, 1) := by decide +kernel
theorem dX6_verdict_269 : decode cX6_verdict 269 = .ok (.isub, 1) := by decide +kernel
theorem dX6_verdict_270 : decode cX6_verdict 270 = .ok (.aload_n 0, 1) := by decide +kernel
theorem dX6_verdict_271 : decode cX6_verdict 271 = .ok (.bipush 10, 2) := by decide +kernel
theorem dX6_verdict_273 : decode cX6_verdict 273 = .ok (.iaload, 1) := by decide +kernel
theorem dX6_verdict_274 : decode cX6_verdict 274 = .ok (.aload_n 0, 1) := by decide +kernel
theorem dX6_verdict_275 : decode cX6_verdict 275 = .ok (.bipush 6, 2) := by decide +kernel
theorem dX6_verdict_277 : decode cX6_verdict 277 = .ok (.iaload, 1) := by decide +kernel
theorem dX6_verdict_278 : decode cX6_verdict 278 = .ok (.iadd, 1) := by decide +kernel
theorem dX6_verdict_279 : decode cX6_verdict 279 = .ok (.if_icmp .le 8, 3) := by decide +kernel
theorem dX6_verdict_282 : decode cX6_verdict 282 = .ok (.bipush 10, 2) := by decide +kernel
theorem dX6_verdict_284 : decode cX6_verdict 284 = .ok (.goto 4, 3) := by decide +kernel
theorem dX6_verdict_287 : decode cX6_verdict 287 = .ok (.iconst 0, 1) := by decide +kernel
theorem dX6_verdict_288 : decode cX6_verdict 288 = .ok (.ireturn, 1) := by decide +kernel
theorem dX6_shown_0 : decode cX6_shown 0 = .ok (.aload_n 1, 1) := by decide +kernel
theorem dX6_shown_1 : decode cX6_shown 1 = .ok (.iload_n 3, 1) := by decide +kernel
theorem dX6_shown_2 : decode cX6_shown 2 = .ok (.iload 4, 2) := by decide +kernel
theorem dX6_shown_4 : decode cX6_shown 4 = .ok (.iload 5, 2) := by decide +kernel
theorem dX6_shown_6 : decode cX6_shown 6 = .ok (.invokestatic 121, 3) := by decide +kernel
theorem dX6_shown_9 : decode cX6_shown 9 = .ok (.istore 6, 2) := by decide +kernel
theorem dX6_shown_11 : decode cX6_shown 11 = .ok (.iload 6, 2) := by decide +kernel
theorem dX6_shown_13 : decode cX6_shown 13 = .ok (.ifCond .ne 28, 3) := by decide +kernel
theorem dX6_shown_16 : decode cX6_shown 16 = .ok (.aload_n 1, 1) := by decide +kernel
theorem dX6_shown_17 : decode cX6_shown 17 = .ok (.iload_n 3, 1) := by decide +kernel
theorem dX6_shown_18 : decode cX6_shown 18 = .ok (.invokestatic 75, 3) := by decide +kernel
theorem dX6_shown_21 : decode cX6_shown 21 = .ok (.bipush 6, 2) := by decide +kernel
theorem dX6_shown_23 : decode cX6_shown 23 = .ok (.iadd, 1) := by decide +kernel
theorem dX6_shown_24 : decode cX6_shown 24 = .ok (.dup2, 1) := by decide +kernel
theorem dX6_shown_25 : decode cX6_shown 25 = .ok (.iaload, 1) := by decide +kernel
theorem dX6_shown_26 : decode cX6_shown 26 = .ok (.iconst 1, 1) := by decide +kernel
theorem dX6_shown_27 : decode cX6_shown 27 = .ok (.iload 4, 2) := by decide +kernel
theorem dX6_shown_29 : decode cX6_shown 29 = .ok (.ishl, 1) := by decide +kernel
theorem dX6_shown_30 : decode cX6_shown 30 = .ok (.ior, 1) := by decide +kernel
theorem dX6_shown_31 : decode cX6_shown 31 = .ok (.iastore, 1) := by decide +kernel
theorem dX6_shown_32 : decode cX6_shown 32 = .ok (.aload_n 1, 1) := by decide +kernel
theorem dX6_shown_33 : decode cX6_shown 33 = .ok (.iconst 5, 1) := by decide +kernel
theorem dX6_shown_34 : decode cX6_shown 34 = .ok (.iload_n 3, 1) := by decide +kernel
theorem dX6_shown_35 : decode cX6_shown 35 = .ok (.iadd, 1) := by decide +kernel
theorem dX6_shown_36 : decode cX6_shown 36 = .ok (.iload 4, 2) := by decide +kernel
theorem dX6_shown_38 : decode cX6_shown 38 = .ok (.invokestatic 102, 3) := by decide +kernel
theorem dX6_shown_41 : decode cX6_shown 41 = .ok (.aload_n 0, 1) := by decide +kernel
theorem dX6_shown_42 : decode cX6_shown 42 = .ok (.getfield 95, 3) := by decide +kernel
theorem dX6_shown_45 : decode cX6_shown 45 = .ok (.ifCond .eq 6, 3) := by decide +kernel
theorem dX6_shown_48 : decode cX6_shown 48 = .ok (.iload 6, 2) := by decide +kernel
theorem dX6_shown_50 : decode cX6_shown 50 = .ok (.ireturn, 1) := by decide +kernel
theorem dX6_shown_51 : decode cX6_shown 51 = .ok (.aload_n 0, 1) := by decide +kernel
theorem dX6_shown_52 : decode cX6_shown 52 = .ok (.dup, 1) := by decide +kernel
theorem dX6_shown_53 : decode cX6_shown 53 = .ok (.getfield 125, 3) := by decide +kernel
theorem dX6_shown_56 : decode cX6_shown 56 = .ok (.iconst 1, 1) := by decide +kernel
theorem dX6_shown_57 : decode cX6_shown 57 = .ok (.iadd, 1) := by decide +kernel
theorem dX6_shown_58 : decode cX6_shown 58 = .ok (.putfield 125, 3) := by decide +kernel
theorem dX6_shown_61 : decode cX6_shown 61 = .ok (.aload_n 0, 1) := by decide +kernel
theorem dX6_shown_62 : decode cX6_shown 62 = .ok (.getfield 128, 3) := by decide +kernel
theorem dX6_shown_65 : decode cX6_shown 65 = .ok (.bipush 60, 2) := by decide +kernel
theorem dX6_shown_67 : decode cX6_shown 67 = .ok (.if_icmp .ne 47, 3) := by decide +kernel
theorem dX6_shown_70 : decode cX6_shown 70 = .ok (.iconst 0, 1) := by decide +kernel
theorem dX6_shown_71 : decode cX6_shown 71 = .ok (.istore 7, 2) := by decide +kernel
theorem dX6_shown_73 : decode cX6_shown 73 = .ok (.iload 7, 2) := by decide +kernel
theorem dX6_shown_75 : decode cX6_shown 75 = .ok (.sipush 354, 3) := by decide +kernel
theorem dX6_shown_78 : decode cX6_shown 78 = .ok (.if_icmp .ge 26, 3) := by decide +kernel
theorem dX6_shown_81 : decode cX6_shown 81 = .ok (.aload_n 0, 1) := by decide +kernel
theorem dX6_shown_82 : decode cX6_shown 82 = .ok (.getfield 13, 3) := by decide +kernel
theorem dX6_shown_85 : decode cX6_shown 85 = .ok (.iload 7, 2) := by decide +kernel
theorem dX6_shown_87 : decode cX6_shown 87 = .ok (.aload_n 0, 1) := by decide +kernel
theorem dX6_shown_88 : decode cX6_shown 88 = .ok (.getfield 13, 3) := by decide +kernel
theorem dX6_shown_91 : decode cX6_shown 91 = .ok (.iload 7, 2) := by decide +kernel
theorem dX6_shown_93 : decode cX6_shown 93 = .ok (.bipush 6, 2) := by decide +kernel
theorem dX6_shown_95 : decode cX6_shown 95 = .ok (.iadd, 1) := by decide +kernel
theorem dX6_shown_96 : decode cX6_shown 96 = .ok (.iaload, 1) := by decide +kernel
theorem dX6_shown_97 : decode cX6_shown 97 = .ok (.iastore, 1) := by decide +kernel
theorem dX6_shown_98 : decode cX6_shown 98 = .ok (.iinc 7 1, 3) := by decide +kernel
theorem dX6_shown_101 : decode cX6_shown 101 = .ok (.goto (-28), 3) := by decide +kernel
theorem dX6_shown_104 : decode cX6_shown 104 = .ok (.aload_n 0, 1) := by decide +kernel
theorem dX6_shown_105 : decode cX6_shown 105 = .ok (.dup, 1) := by decide +kernel
theorem dX6_shown_106 : decode cX6_shown 106 = .ok (.getfield 128, 3) := by decide +kernel
theorem dX6_shown_109 : decode cX6_shown 109 = .ok (.iconst 1, 1) := by decide +kernel
theorem dX6_shown_110 : decode cX6_shown 110 = .ok (.isub, 1) := by decide +kernel
theorem dX6_shown_111 : decode cX6_shown 111 = .ok (.putfield 128, 3) := by decide +kernel
theorem dX6_shown_114 : decode cX6_shown 114 = .ok (.bipush 6, 2) := by decide +kernel
theorem dX6_shown_116 : decode cX6_shown 116 = .ok (.aload_n 0, 1) := by decide +kernel
theorem dX6_shown_117 : decode cX6_shown 117 = .ok (.getfield 128, 3) := by decide +kernel
theorem dX6_shown_120 : decode cX6_shown 120 = .ok (.imul, 1) := by decide +kernel
theorem dX6_shown_121 : decode cX6_shown 121 = .ok (.istore 7, 2) := by decide +kernel
theorem dX6_shown_123 : decode cX6_shown 123 = .ok (.aload_n 0, 1) := by decide +kernel
theorem dX6_shown_124 : decode cX6_shown 124 = .ok (.getfield 13, 3) := by decide +kernel
theorem dX6_shown_127 : decode cX6_shown 127 = .ok (.iload 7, 2) := by decide +kernel
theorem dX6_shown_129 : decode cX6_shown 129 = .ok (.aload_n 1, 1) := by decide +kernel
theorem dX6_shown_130 : decode cX6_shown 130 = .ok (.iconst 0, 1) := by decide +kernel
theorem dX6_shown_131 : decode cX6_shown 131 = .ok (.iaload, 1) := by decide +kernel
theorem dX6_shown_132 : decode cX6_shown 132 = .ok (.iastore, 1) := by decide +kernel
theorem dX6_shown_133 : decode cX6_shown 133 = .ok (.aload_n 0, 1) := by decide +kernel
theorem dX6_shown_134 : decode cX6_shown 134 = .ok (.getfield 13, 3) := by decide +kernel
theorem dX6_shown_137 : decode cX6_shown 137 = .ok (.iload 7, 2) := by decide +kernel
theorem dX6_shown_139 : decode cX6_shown 139 = .ok (.iconst 1, 1) := by decide +kernel
theorem dX6_shown_140 : decode cX6_shown 140 = .ok (.iadd, 1) := by decide +kernel
theorem dX6_shown_141 : decode cX6_shown 141 = .ok (.iload_n 3, 1) := by decide +kernel
theorem dX6_shown_142 : decode cX6_shown 142 = .ok (.iastore, 1) := by decide +kernel
theorem dX6_shown_143 : decode cX6_shown 143 = .ok (.aload_n 0, 1) := by decide +kernel
theorem dX6_shown_144 : decode cX6_shown 144 = .ok (.getfield 13, 3) := by decide +kernel
theorem dX6_shown_147 : decode cX6_shown 147 = .ok (.iload 7, 2) := by decide +kernel
theorem dX6_shown_149 : decode cX6_shown 149 = .ok (.iconst 2, 1) := by decide +kernel
theorem dX6_shown_150 : decode cX6_shown 150 = .ok (.iadd, 1) := by decide +kernel
theorem dX6_shown_151 : decode cX6_shown 151 = .ok (.iload_n 2, 1) := by decide +kernel
theorem dX6_shown_152 : decode cX6_shown 152 = .ok (.iastore, 1) := by decide +kernel
theorem dX6_shown_153 : decode cX6_shown 153 = .ok (.aload_n 0, 1) := by decide +kernel
theorem dX6_shown_154 : decode cX6_shown 154 = .ok (.getfield 13, 3) := by decide +kernel
theorem dX6_shown_157 : decode cX6_shown 157 = .ok (.iload 7, 2) := by decide +kernel
theorem dX6_shown_159 : decode cX6_shown 159 = .ok (.iconst 3, 1) := by decide +kernel
theorem dX6_shown_160 : decode cX6_shown 160 = .ok (.iadd, 1) := by decide +kernel
theorem dX6_shown_161 : decode cX6_shown 161 = .ok (.iload 4, 2) := by decide +kernel
theorem dX6_shown_163 : decode cX6_shown 163 = .ok (.iastore, 1) := by decide +kernel
theorem dX6_shown_164 : decode cX6_shown 164 = .ok (.aload_n 0, 1) := by decide +kernel
theorem dX6_shown_165 : decode cX6_shown 165 = .ok (.getfield 13, 3) := by decide +kernel
theorem dX6_shown_168 : decode cX6_shown 168 = .ok (.iload 7, 2) := by decide +kernel
theorem dX6_shown_170 : decode cX6_shown 170 = .ok (.iconst 4, 1) := by decide +kernel
theorem dX6_shown_171 : decode cX6_shown 171 = .ok (.iadd, 1) := by decide +kernel
theorem dX6_shown_172 : decode cX6_shown 172 = .ok (.iload 5, 2) := by decide +kernel
theorem dX6_shown_174 : decode cX6_shown 174 = .ok (.iastore, 1) := by decide +kernel
theorem dX6_shown_175 : decode cX6_shown 175 = .ok (.aload_n 0, 1) := by decide +kernel
theorem dX6_shown_176 : decode cX6_shown 176 = .ok (.getfield 13, 3) := by decide +kernel
theorem dX6_shown_179 : decode cX6_shown 179 = .ok (.iload 7, 2) := by decide +kernel
theorem dX6_shown_181 : decode cX6_shown 181 = .ok (.iconst 5, 1) := by decide +kernel
theorem dX6_shown_182 : decode cX6_shown 182 = .ok (.iadd, 1) := by decide +kernel
theorem dX6_shown_183 : decode cX6_shown 183 = .ok (.iload 6, 2) := by decide +kernel
theorem dX6_shown_185 : decode cX6_shown 185 = .ok (.iastore, 1) := by decide +kernel
theorem dX6_shown_186 : decode cX6_shown 186 = .ok (.aload_n 0, 1) := by decide +kernel
theorem dX6_shown_187 : decode cX6_shown 187 = .ok (.dup, 1) := by decide +kernel
theorem dX6_shown_188 : decode cX6_shown 188 = .ok (.getfield 128, 3) := by decide +kernel
theorem dX6_shown_191 : decode cX6_shown 191 = .ok (.iconst 1, 1) := by decide +kernel
theorem dX6_shown_192 : decode cX6_shown 192 = .ok (.iadd, 1) := by decide +kernel
theorem dX6_shown_193 : decode cX6_shown 193 = .ok (.putfield 128, 3) := by decide +kernel
theorem dX6_shown_196 : decode cX6_shown 196 = .ok (.iload 6, 2) := by decide +kernel
theorem dX6_shown_198 : decode cX6_shown 198 = .ok (.ireturn, 1) := by decide +kernel
theorem dX6_comes_0 : decode cX6_comes 0 = .ok (.iload_n 2, 1) := by decide +kernel
theorem dX6_comes_1 : decode cX6_comes 1 = .ok (.invokestatic 99, 3) := by decide +kernel
theorem dX6_comes_4 : decode cX6_comes 4 = .ok (.istore_n 3, 1) := by decide +kernel
theorem dX6_comes_5 : decode cX6_comes 5 = .ok (.aload_n 1, 1) := by decide +kernel
theorem dX6_comes_6 : decode cX6_comes 6 = .ok (.iload_n 3, 1) := by decide +kernel
theorem dX6_comes_7 : decode cX6_comes 7 = .ok (.iaload, 1) := by decide +kernel
theorem dX6_comes_8 : decode cX6_comes 8 = .ok (.istore 4, 2) := by decide +kernel
theorem dX6_comes_10 : decode cX6_comes 10 = .ok (.aload_n 1, 1) := by decide +kernel
theorem dX6_comes_11 : decode cX6_comes 11 = .ok (.iload_n 3, 1) := by decide +kernel
theorem dX6_comes_12 : decode cX6_comes 12 = .ok (.iconst 1, 1) := by decide +kernel
theorem dX6_comes_13 : decode cX6_comes 13 = .ok (.iadd, 1) := by decide +kernel
theorem dX6_comes_14 : decode cX6_comes 14 = .ok (.iaload, 1) := by decide +kernel
theorem dX6_comes_15 : decode cX6_comes 15 = .ok (.istore 5, 2) := by decide +kernel
theorem dX6_comes_17 : decode cX6_comes 17 = .ok (.aload_n 1, 1) := by decide +kernel
theorem dX6_comes_18 : decode cX6_comes 18 = .ok (.iload_n 3, 1) := by decide +kernel
theorem dX6_comes_19 : decode cX6_comes 19 = .ok (.iconst 2, 1) := by decide +kernel
theorem dX6_comes_20 : decode cX6_comes 20 = .ok (.iadd, 1) := by decide +kernel
theorem dX6_comes_21 : decode cX6_comes 21 = .ok (.iaload, 1) := by decide +kernel
theorem dX6_comes_22 : decode cX6_comes 22 = .ok (.istore 6, 2) := by decide +kernel
theorem dX6_comes_24 : decode cX6_comes 24 = .ok (.aload_n 1, 1) := by decide +kernel
theorem dX6_comes_25 : decode cX6_comes 25 = .ok (.iload_n 3, 1) := by decide +kernel
theorem dX6_comes_26 : decode cX6_comes 26 = .ok (.iconst 3, 1) := by decide +kernel
theorem dX6_comes_27 : decode cX6_comes 27 = .ok (.iadd, 1) := by decide +kernel
theorem dX6_comes_28 : decode cX6_comes 28 = .ok (.iaload, 1) := by decide +kernel
theorem dX6_comes_29 : decode cX6_comes 29 = .ok (.istore 7, 2) := by decide +kernel
theorem dX6_comes_31 : decode cX6_comes 31 = .ok (.aload_n 1, 1) := by decide +kernel
theorem dX6_comes_32 : decode cX6_comes 32 = .ok (.iload_n 3, 1) := by decide +kernel
theorem dX6_comes_33 : decode cX6_comes 33 = .ok (.iconst 4, 1) := by decide +kernel
theorem dX6_comes_34 : decode cX6_comes 34 = .ok (.iadd, 1) := by decide +kernel
theorem dX6_comes_35 : decode cX6_comes 35 = .ok (.iaload, 1) := by decide +kernel
theorem dX6_comes_36 : decode cX6_comes 36 = .ok (.istore 8, 2) := by decide +kernel
theorem dX6_comes_38 : decode cX6_comes 38 = .ok (.aload_n 1, 1) := by decide +kernel
theorem dX6_comes_39 : decode cX6_comes 39 = .ok (.iload_n 3, 1) := by decide +kernel
theorem dX6_comes_40 : decode cX6_comes 40 = .ok (.iconst 5, 1) := by decide +kernel
theorem dX6_comes_41 : decode cX6_comes 41 = .ok (.iadd, 1) := by decide +kernel
theorem dX6_comes_42 : decode cX6_comes 42 = .ok (.iaload, 1) := by decide +kernel
theorem dX6_comes_43 : decode cX6_comes 43 = .ok (.istore 9, 2) := by decide +kernel
theorem dX6_comes_45 : decode cX6_comes 45 = .ok (.aload_n 1, 1) := by decide +kernel
theorem dX6_comes_46 : decode cX6_comes 46 = .ok (.iload_n 2, 1) := by decide +kernel
theorem dX6_comes_47 : decode cX6_comes 47 = .ok (.invokestatic 131, 3) := by decide +kernel
theorem dX6_comes_50 : decode cX6_comes 50 = .ok (.iload 6, 2) := by decide +kernel
theorem dX6_comes_52 : decode cX6_comes 52 = .ok (.tableswitch 107 0 4 #[36, 50, 64, 80, 93], 36) := by decide +kernel
theorem dX6_comes_88 : decode cX6_comes 88 = .ok (.aload_n 0, 1) := by decide +kernel
theorem dX6_comes_89 : decode cX6_comes 89 = .ok (.aload_n 1, 1) := by decide +kernel
theorem dX6_comes_90 : decode cX6_comes 90 = .ok (.iload 4, 2) := by decide +kernel
theorem dX6_comes_92 : decode cX6_comes 92 = .ok (.iload 7, 2) := by decide +kernel
theorem dX6_comes_94 : decode cX6_comes 94 = .ok (.iload 8, 2) := by decide +kernel
theorem dX6_comes_96 : decode cX6_comes 96 = .ok (.iload 9, 2) := by decide +kernel
theorem dX6_comes_98 : decode cX6_comes 98 = .ok (.invokevirtual 134, 3) := by decide +kernel
theorem dX6_comes_101 : decode cX6_comes 101 = .ok (.ireturn, 1) := by decide +kernel
theorem dX6_comes_102 : decode cX6_comes 102 = .ok (.aload_n 0, 1) := by decide +kernel
theorem dX6_comes_103 : decode cX6_comes 103 = .ok (.aload_n 1, 1) := by decide +kernel
theorem dX6_comes_104 : decode cX6_comes 104 = .ok (.iload 5, 2) := by decide +kernel
theorem dX6_comes_106 : decode cX6_comes 106 = .ok (.iload 7, 2) := by decide +kernel
theorem dX6_comes_108 : decode cX6_comes 108 = .ok (.iload 8, 2) := by decide +kernel
theorem dX6_comes_110 : decode cX6_comes 110 = .ok (.iload 9, 2) := by decide +kernel
theorem dX6_comes_112 : decode cX6_comes 112 = .ok (.invokevirtual 138, 3) := by decide +kernel
theorem dX6_comes_115 : decode cX6_comes 115 = .ok (.ireturn, 1) := by decide +kernel
theorem dX6_comes_116 : decode cX6_comes 116 = .ok (.aload_n 0, 1) := by decide +kernel
theorem dX6_comes_117 : decode cX6_comes 117 = .ok (.aload_n 1, 1) := by decide +kernel
theorem dX6_comes_118 : decode cX6_comes 118 = .ok (.iload 4, 2) := by decide +kernel
theorem dX6_comes_120 : decode cX6_comes 120 = .ok (.iload 5, 2) := by decide +kernel
theorem dX6_comes_122 : decode cX6_comes 122 = .ok (.iconst 5, 1) := by decide +kernel
theorem dX6_comes_123 : decode cX6_comes 123 = .ok (.isub, 1) := by decide +kernel
theorem dX6_comes_124 : decode cX6_comes 124 = .ok (.iload 7, 2) := by decide +kernel
theorem dX6_comes_126 : decode cX6_comes 126 = .ok (.iload 8, 2) := by decide +kernel
theorem dX6_comes_128 : decode cX6_comes 128 = .ok (.invokevirtual 141, 3) := by decide +kernel
theorem dX6_comes_131 : decode cX6_comes 131 = .ok (.ireturn, 1) := by decide +kernel
theorem dX6_comes_132 : decode cX6_comes 132 = .ok (.aload_n 0, 1) := by decide +kernel
theorem dX6_comes_133 : decode cX6_comes 133 = .ok (.aload_n 1, 1) := by decide +kernel
theorem dX6_comes_134 : decode cX6_comes 134 = .ok (.iload 4, 2) := by decide +kernel
theorem dX6_comes_136 : decode cX6_comes 136 = .ok (.iload 7, 2) := by decide +kernel
theorem dX6_comes_138 : decode cX6_comes 138 = .ok (.iload 9, 2) := by decide +kernel
theorem dX6_comes_140 : decode cX6_comes 140 = .ok (.iconst 0, 1) := by decide +kernel
theorem dX6_comes_141 : decode cX6_comes 141 = .ok (.invokevirtual 144, 3) := by decide +kernel
theorem dX6_comes_144 : decode cX6_comes 144 = .ok (.ireturn, 1) := by decide +kernel
theorem dX6_comes_145 : decode cX6_comes 145 = .ok (.aload_n 0, 1) := by decide +kernel
theorem dX6_comes_146 : decode cX6_comes 146 = .ok (.aload_n 1, 1) := by decide +kernel
theorem dX6_comes_147 : decode cX6_comes 147 = .ok (.iload 4, 2) := by decide +kernel
theorem dX6_comes_149 : decode cX6_comes 149 = .ok (.iload 7, 2) := by decide +kernel
theorem dX6_comes_151 : decode cX6_comes 151 = .ok (.iload 8, 2) := by decide +kernel
theorem dX6_comes_153 : decode cX6_comes 153 = .ok (.iload 9, 2) := by decide +kernel
theorem dX6_comes_155 : decode cX6_comes 155 = .ok (.invokevirtual 148, 3) := by decide +kernel
theorem dX6_comes_158 : decode cX6_comes 158 = .ok (.ireturn, 1) := by decide +kernel
theorem dX6_comes_159 : decode cX6_comes 159 = .ok (.aload_n 1, 1) := by decide +kernel
theorem dX6_comes_160 : decode cX6_comes 160 = .ok (.iload 5, 2) := by decide +kernel
theorem dX6_comes_162 : decode cX6_comes 162 = .ok (.iconst 5, 1) := by decide +kernel
theorem dX6_comes_163 : decode cX6_comes 163 = .ok (.isub, 1) := by decide +kernel
theorem dX6_comes_164 : decode cX6_comes 164 = .ok (.invokestatic 75, 3) := by decide +kernel
theorem dX6_comes_167 : decode cX6_comes 167 = .ok (.iconst 5, 1) := by decide +kernel
theorem dX6_comes_168 : decode cX6_comes 168 = .ok (.iadd, 1) := by decide +kernel
theorem dX6_comes_169 : decode cX6_comes 169 = .ok (.dup2, 1) := by decide +kernel
theorem dX6_comes_170 : decode cX6_comes 170 = .ok (.iaload, 1) := by decide +kernel
theorem dX6_comes_171 : decode cX6_comes 171 = .ok (.iconst 1, 1) := by decide +kernel
theorem dX6_comes_172 : decode cX6_comes 172 = .ok (.iload 7, 2) := by decide +kernel
theorem dX6_comes_174 : decode cX6_comes 174 = .ok (.ishl, 1) := by decide +kernel
theorem dX6_comes_175 : decode cX6_comes 175 = .ok (.ior, 1) := by decide +kernel
theorem dX6_comes_176 : decode cX6_comes 176 = .ok (.iastore, 1) := by decide +kernel
theorem dX6_comes_177 : decode cX6_comes 177 = .ok (.iconst 1, 1) := by decide +kernel
theorem dX6_comes_178 : decode cX6_comes 178 = .ok (.ireturn, 1) := by decide +kernel
theorem dX6_ticks_0 : decode cX6_ticks 0 = .ok (.aload_n 1, 1) := by decide +kernel
theorem dX6_ticks_1 : decode cX6_ticks 1 = .ok (.iconst 0, 1) := by decide +kernel
theorem dX6_ticks_2 : decode cX6_ticks 2 = .ok (.dup2, 1) := by decide +kernel
theorem dX6_ticks_3 : decode cX6_ticks 3 = .ok (.iaload, 1) := by decide +kernel
theorem dX6_ticks_4 : decode cX6_ticks 4 = .ok (.iconst 1, 1) := by decide +kernel
theorem dX6_ticks_5 : decode cX6_ticks 5 = .ok (.iadd, 1) := by decide +kernel
theorem dX6_ticks_6 : decode cX6_ticks 6 = .ok (.iastore, 1) := by decide +kernel
theorem dX6_ticks_7 : decode cX6_ticks 7 = .ok (.aload_n 1, 1) := by decide +kernel
theorem dX6_ticks_8 : decode cX6_ticks 8 = .ok (.iconst 1, 1) := by decide +kernel
theorem dX6_ticks_9 : decode cX6_ticks 9 = .ok (.iaload, 1) := by decide +kernel
theorem dX6_ticks_10 : decode cX6_ticks 10 = .ok (.iconst 1, 1) := by decide +kernel
theorem dX6_ticks_11 : decode cX6_ticks 11 = .ok (.if_icmp .ne 107, 3) := by decide +kernel
theorem dX6_ticks_14 : decode cX6_ticks 14 = .ok (.aload_n 1, 1) := by decide +kernel
theorem dX6_ticks_15 : decode cX6_ticks 15 = .ok (.iconst 0, 1) := by decide +kernel
theorem dX6_ticks_16 : decode cX6_ticks 16 = .ok (.iaload, 1) := by decide +kernel
theorem dX6_ticks_17 : decode cX6_ticks 17 = .ok (.aload_n 1, 1) := by decide +kernel
theorem dX6_ticks_18 : decode cX6_ticks 18 = .ok (.bipush 7, 2) := by decide +kernel
theorem dX6_ticks_20 : decode cX6_ticks 20 = .ok (.iaload, 1) := by decide +kernel
theorem dX6_ticks_21 : decode cX6_ticks 21 = .ok (.irem, 1) := by decide +kernel
theorem dX6_ticks_22 : decode cX6_ticks 22 = .ok (.ifCond .ne 96, 3) := by decide +kernel
theorem dX6_ticks_25 : decode cX6_ticks 25 = .ok (.iconst 0, 1) := by decide +kernel
theorem dX6_ticks_26 : decode cX6_ticks 26 = .ok (.istore_n 2, 1) := by decide +kernel
theorem dX6_ticks_27 : decode cX6_ticks 27 = .ok (.iconst 0, 1) := by decide +kernel
theorem dX6_ticks_28 : decode cX6_ticks 28 = .ok (.istore_n 3, 1) := by decide +kernel
theorem dX6_ticks_29 : decode cX6_ticks 29 = .ok (.iload_n 3, 1) := by decide +kernel
theorem dX6_ticks_30 : decode cX6_ticks 30 = .ok (.aload_n 1, 1) := by decide +kernel
theorem dX6_ticks_31 : decode cX6_ticks 31 = .ok (.bipush 13, 2) := by decide +kernel
theorem dX6_ticks_33 : decode cX6_ticks 33 = .ok (.iaload, 1) := by decide +kernel
theorem dX6_ticks_34 : decode cX6_ticks 34 = .ok (.if_icmp .ge 31, 3) := by decide +kernel
theorem dX6_ticks_37 : decode cX6_ticks 37 = .ok (.iload_n 2, 1) := by decide +kernel
theorem dX6_ticks_38 : decode cX6_ticks 38 = .ok (.aload_n 1, 1) := by decide +kernel
theorem dX6_ticks_39 : decode cX6_ticks 39 = .ok (.iload_n 3, 1) := by decide +kernel
theorem dX6_ticks_40 : decode cX6_ticks 40 = .ok (.invokestatic 85, 3) := by decide +kernel
theorem dX6_ticks_43 : decode cX6_ticks 43 = .ok (.iconst 1, 1) := by decide +kernel
theorem dX6_ticks_44 : decode cX6_ticks 44 = .ok (.iadd, 1) := by decide +kernel
theorem dX6_ticks_45 : decode cX6_ticks 45 = .ok (.iaload, 1) := by decide +kernel
theorem dX6_ticks_46 : decode cX6_ticks 46 = .ok (.iconst (-1), 1) := by decide +kernel
theorem dX6_ticks_47 : decode cX6_ticks 47 = .ok (.if_icmp .ne 7, 3) := by decide +kernel
theorem dX6_ticks_50 : decode cX6_ticks 50 = .ok (.iconst 0, 1) := by decide +kernel
theorem dX6_ticks_51 : decode cX6_ticks 51 = .ok (.goto 6, 3) := by decide +kernel
theorem dX6_ticks_54 : decode cX6_ticks 54 = .ok (.iconst 1, 1) := by decide +kernel
theorem dX6_ticks_55 : decode cX6_ticks 55 = .ok (.iload_n 3, 1) := by decide +kernel
theorem dX6_ticks_56 : decode cX6_ticks 56 = .ok (.ishl, 1) := by decide +kernel
theorem dX6_ticks_57 : decode cX6_ticks 57 = .ok (.ior, 1) := by decide +kernel
theorem dX6_ticks_58 : decode cX6_ticks 58 = .ok (.istore_n 2, 1) := by decide +kernel
theorem dX6_ticks_59 : decode cX6_ticks 59 = .ok (.iinc 3 1, 3) := by decide +kernel
theorem dX6_ticks_62 : decode cX6_ticks 62 = .ok (.goto (-33), 3) := by decide +kernel
theorem dX6_ticks_65 : decode cX6_ticks 65 = .ok (.iconst 0, 1) := by decide +kernel
theorem dX6_ticks_66 : decode cX6_ticks 66 = .ok (.istore_n 3, 1) := by decide +kernel
theorem dX6_ticks_67 : decode cX6_ticks 67 = .ok (.iload_n 3, 1) := by decide +kernel
theorem dX6_ticks_68 : decode cX6_ticks 68 = .ok (.aload_n 1, 1) := by decide +kernel
theorem dX6_ticks_69 : decode cX6_ticks 69 = .ok (.bipush 11, 2) := by decide +kernel
theorem dX6_ticks_71 : decode cX6_ticks 71 = .ok (.iaload, 1) := by decide +kernel
theorem dX6_ticks_72 : decode cX6_ticks 72 = .ok (.if_icmp .ge 46, 3) := by decide +kernel
theorem dX6_ticks_75 : decode cX6_ticks 75 = .ok (.aload_n 1, 1) := by decide +kernel
theorem dX6_ticks_76 : decode cX6_ticks 76 = .ok (.iload_n 3, 1) := by decide +kernel
theorem dX6_ticks_77 : decode cX6_ticks 77 = .ok (.invokestatic 75, 3) := by decide +kernel
theorem dX6_ticks_80 : decode cX6_ticks 80 = .ok (.iconst 3, 1) := by decide +kernel
theorem dX6_ticks_81 : decode cX6_ticks 81 = .ok (.iadd, 1) := by decide +kernel
theorem dX6_ticks_82 : decode cX6_ticks 82 = .ok (.iaload, 1) := by decide +kernel
theorem dX6_ticks_83 : decode cX6_ticks 83 = .ok (.ifCond .ne 6, 3) := by decide +kernel
theorem dX6_ticks_86 : decode cX6_ticks 86 = .ok (.goto 26, 3) := by decide +kernel
theorem dX6_ticks_89 : decode cX6_ticks 89 = .ok (.aload_n 1, 1) := by decide +kernel
theorem dX6_ticks_90 : decode cX6_ticks 90 = .ok (.iload_n 3, 1) := by decide +kernel
theorem dX6_ticks_91 : decode cX6_ticks 91 = .ok (.invokestatic 75, 3) := by decide +kernel
theorem dX6_ticks_94 : decode cX6_ticks 94 = .ok (.iconst 5, 1) := by decide +kernel
theorem dX6_ticks_95 : decode cX6_ticks 95 = .ok (.iadd, 1) := by decide +kernel
theorem dX6_ticks_96 : decode cX6_ticks 96 = .ok (.dup2, 1) := by decide +kernel
theorem dX6_ticks_97 : decode cX6_ticks 97 = .ok (.iaload, 1) := by decide +kernel
theorem dX6_ticks_98 : decode cX6_ticks 98 = .ok (.iload_n 2, 1) := by decide +kernel
theorem dX6_ticks_99 : decode cX6_ticks 99 = .ok (.ior, 1) := by decide +kernel
theorem dX6_ticks_100 : decode cX6_ticks 100 = .ok (.iastore, 1) := by decide +kernel
theorem dX6_ticks_101 : decode cX6_ticks 101 = .ok (.aload_n 1, 1) := by decide +kernel
theorem dX6_ticks_102 : decode cX6_ticks 102 = .ok (.iload_n 3, 1) := by decide +kernel
theorem dX6_ticks_103 : decode cX6_ticks 103 = .ok (.invokestatic 75, 3) := by decide +kernel
theorem dX6_ticks_106 : decode cX6_ticks 106 = .ok (.iconst 4, 1) := by decide +kernel
theorem dX6_ticks_107 : decode cX6_ticks 107 = .ok (.iadd, 1) := by decide +kernel
theorem dX6_ticks_108 : decode cX6_ticks 108 = .ok (.aload_n 1, 1) := by decide +kernel
theorem dX6_ticks_109 : decode cX6_ticks 109 = .ok (.iconst 0, 1) := by decide +kernel
theorem dX6_ticks_110 : decode cX6_ticks 110 = .ok (.iaload, 1) := by decide +kernel
theorem dX6_ticks_111 : decode cX6_ticks 111 = .ok (.iastore, 1) := by decide +kernel
theorem dX6_ticks_112 : decode cX6_ticks 112 = .ok (.iinc 3 1, 3) := by decide +kernel
theorem dX6_ticks_115 : decode cX6_ticks 115 = .ok (.goto (-48), 3) := by decide +kernel
theorem dX6_ticks_118 : decode cX6_ticks 118 = .ok (.aload_n 1, 1) := by decide +kernel
theorem dX6_ticks_119 : decode cX6_ticks 119 = .ok (.invokestatic 151, 3) := by decide +kernel
theorem dX6_ticks_122 : decode cX6_ticks 122 = .ok (.istore_n 2, 1) := by decide +kernel
theorem dX6_ticks_123 : decode cX6_ticks 123 = .ok (.iload_n 2, 1) := by decide +kernel
theorem dX6_ticks_124 : decode cX6_ticks 124 = .ok (.ifCond .lt 18, 3) := by decide +kernel
theorem dX6_ticks_127 : decode cX6_ticks 127 = .ok (.aload_n 0, 1) := by decide +kernel
theorem dX6_ticks_128 : decode cX6_ticks 128 = .ok (.aload_n 1, 1) := by decide +kernel
theorem dX6_ticks_129 : decode cX6_ticks 129 = .ok (.iload_n 2, 1) := by decide +kernel
theorem dX6_ticks_130 : decode cX6_ticks 130 = .ok (.invokevirtual 155, 3) := by decide +kernel
theorem dX6_ticks_133 : decode cX6_ticks 133 = .ok (.istore_n 3, 1) := by decide +kernel
theorem dX6_ticks_134 : decode cX6_ticks 134 = .ok (.aload_n 1, 1) := by decide +kernel
theorem dX6_ticks_135 : decode cX6_ticks 135 = .ok (.invokestatic 151, 3) := by decide +kernel
theorem dX6_ticks_138 : decode cX6_ticks 138 = .ok (.istore_n 2, 1) := by decide +kernel
theorem dX6_ticks_139 : decode cX6_ticks 139 = .ok (.goto (-16), 3) := by decide +kernel
theorem dX6_ticks_142 : decode cX6_ticks 142 = .ok (.return_, 1) := by decide +kernel
theorem dX6_firstLate_0 : decode cX6_firstLate 0 = .ok (.iconst 0, 1) := by decide +kernel
theorem dX6_firstLate_1 : decode cX6_firstLate 1 = .ok (.istore_n 1, 1) := by decide +kernel
theorem dX6_firstLate_2 : decode cX6_firstLate 2 = .ok (.iload_n 1, 1) := by decide +kernel
theorem dX6_firstLate_3 : decode cX6_firstLate 3 = .ok (.aload_n 0, 1) := by decide +kernel
theorem dX6_firstLate_4 : decode cX6_firstLate 4 = .ok (.bipush 14, 2) := by decide +kernel
theorem dX6_firstLate_6 : decode cX6_firstLate 6 = .ok (.iaload, 1) := by decide +kernel
theorem dX6_firstLate_7 : decode cX6_firstLate 7 = .ok (.if_icmp .ge 31, 3) := by decide +kernel
theorem dX6_firstLate_10 : decode cX6_firstLate 10 = .ok (.aload_n 0, 1) := by decide +kernel
theorem dX6_firstLate_11 : decode cX6_firstLate 11 = .ok (.iconst 0, 1) := by decide +kernel
theorem dX6_firstLate_12 : decode cX6_firstLate 12 = .ok (.iaload, 1) := by decide +kernel
theorem dX6_firstLate_13 : decode cX6_firstLate 13 = .ok (.aload_n 0, 1) := by decide +kernel
theorem dX6_firstLate_14 : decode cX6_firstLate 14 = .ok (.iload_n 1, 1) := by decide +kernel
theorem dX6_firstLate_15 : decode cX6_firstLate 15 = .ok (.invokestatic 99, 3) := by decide +kernel
theorem dX6_firstLate_18 : decode cX6_firstLate 18 = .ok (.bipush 6, 2) := by decide +kernel
theorem dX6_firstLate_20 : decode cX6_firstLate 20 = .ok (.iadd, 1) := by decide +kernel
theorem dX6_firstLate_21 : decode cX6_firstLate 21 = .ok (.iaload, 1) := by decide +kernel
theorem dX6_firstLate_22 : decode cX6_firstLate 22 = .ok (.isub, 1) := by decide +kernel
theorem dX6_firstLate_23 : decode cX6_firstLate 23 = .ok (.aload_n 0, 1) := by decide +kernel
theorem dX6_firstLate_24 : decode cX6_firstLate 24 = .ok (.bipush 9, 2) := by decide +kernel
theorem dX6_firstLate_26 : decode cX6_firstLate 26 = .ok (.iaload, 1) := by decide +kernel
theorem dX6_firstLate_27 : decode cX6_firstLate 27 = .ok (.if_icmp .lt 5, 3) := by decide +kernel
theorem dX6_firstLate_30 : decode cX6_firstLate 30 = .ok (.iload_n 1, 1) := by decide +kernel
theorem dX6_firstLate_31 : decode cX6_firstLate 31 = .ok (.ireturn, 1) := by decide +kernel
theorem dX6_firstLate_32 : decode cX6_firstLate 32 = .ok (.iinc 1 1, 3) := by decide +kernel
theorem dX6_firstLate_35 : decode cX6_firstLate 35 = .ok (.goto (-33), 3) := by decide +kernel
theorem dX6_firstLate_38 : decode cX6_firstLate 38 = .ok (.iconst (-1), 1) := by decide +kernel
theorem dX6_firstLate_39 : decode cX6_firstLate 39 = .ok (.ireturn, 1) := by decide +kernel
theorem dX6_paired_0 : decode cX6_paired 0 = .ok (.aload_n 0, 1) := by decide +kernel
theorem dX6_paired_1 : decode cX6_paired 1 = .ok (.getfield 9, 3) := by decide +kernel
theorem dX6_paired_4 : decode cX6_paired 4 = .ok (.bipush 15, 2) := by decide +kernel
theorem dX6_paired_6 : decode cX6_paired 6 = .ok (.dup2, 1) := by decide +kernel
theorem dX6_paired_7 : decode cX6_paired 7 = .ok (.iaload, 1) := by decide +kernel
theorem dX6_paired_8 : decode cX6_paired 8 = .ok (.iconst 1, 1) := by decide +kernel
theorem dX6_paired_9 : decode cX6_paired 9 = .ok (.iadd, 1) := by decide +kernel
theorem dX6_paired_10 : decode cX6_paired 10 = .ok (.iastore, 1) := by decide +kernel
theorem dX6_paired_11 : decode cX6_paired 11 = .ok (.aload_n 0, 1) := by decide +kernel
theorem dX6_paired_12 : decode cX6_paired 12 = .ok (.getfield 9, 3) := by decide +kernel
theorem dX6_paired_15 : decode cX6_paired 15 = .ok (.iload_n 1, 1) := by decide +kernel
theorem dX6_paired_16 : decode cX6_paired 16 = .ok (.invokestatic 82, 3) := by decide +kernel
theorem dX6_paired_19 : decode cX6_paired 19 = .ok (.iconst 1, 1) := by decide +kernel
theorem dX6_paired_20 : decode cX6_paired 20 = .ok (.iadd, 1) := by decide +kernel
theorem dX6_paired_21 : decode cX6_paired 21 = .ok (.aload_n 0, 1) := by decide +kernel
theorem dX6_paired_22 : decode cX6_paired 22 = .ok (.getfield 9, 3) := by decide +kernel
theorem dX6_paired_25 : decode cX6_paired 25 = .ok (.bipush 15, 2) := by decide +kernel
theorem dX6_paired_27 : decode cX6_paired 27 = .ok (.iaload, 1) := by decide +kernel
theorem dX6_paired_28 : decode cX6_paired 28 = .ok (.iastore, 1) := by decide +kernel
theorem dX6_paired_29 : decode cX6_paired 29 = .ok (.aload_n 0, 1) := by decide +kernel
theorem dX6_paired_30 : decode cX6_paired 30 = .ok (.getfield 9, 3) := by decide +kernel
theorem dX6_paired_33 : decode cX6_paired 33 = .ok (.bipush 15, 2) := by decide +kernel
theorem dX6_paired_35 : decode cX6_paired 35 = .ok (.iaload, 1) := by decide +kernel
theorem dX6_paired_36 : decode cX6_paired 36 = .ok (.ireturn, 1) := by decide +kernel
theorem dX6_ask_0 : decode cX6_ask 0 = .ok (.aload_n 0, 1) := by decide +kernel
theorem dX6_ask_1 : decode cX6_ask 1 = .ok (.iconst 0, 1) := by decide +kernel
theorem dX6_ask_2 : decode cX6_ask 2 = .ok (.putfield 64, 3) := by decide +kernel
theorem dX6_ask_5 : decode cX6_ask 5 = .ok (.iload_n 1, 1) := by decide +kernel
theorem dX6_ask_6 : decode cX6_ask 6 = .ok (.iconst 0, 1) := by decide +kernel
theorem dX6_ask_7 : decode cX6_ask 7 = .ok (.iconst 4, 1) := by decide +kernel
theorem dX6_ask_8 : decode cX6_ask 8 = .ok (.invokestatic 67, 3) := by decide +kernel
theorem dX6_ask_11 : decode cX6_ask 11 = .ok (.ifCond .eq 22, 3) := by decide +kernel
theorem dX6_ask_14 : decode cX6_ask 14 = .ok (.aload_n 0, 1) := by decide +kernel
theorem dX6_ask_15 : decode cX6_ask 15 = .ok (.iload_n 2, 1) := by decide +kernel
theorem dX6_ask_16 : decode cX6_ask 16 = .ok (.invokevirtual 78, 3) := by decide +kernel
theorem dX6_ask_19 : decode cX6_ask 19 = .ok (.ifCond .eq 14, 3) := by decide +kernel
theorem dX6_ask_22 : decode cX6_ask 22 = .ok (.iload_n 3, 1) := by decide +kernel
theorem dX6_ask_23 : decode cX6_ask 23 = .ok (.iconst 1, 1) := by decide +kernel
theorem dX6_ask_24 : decode cX6_ask 24 = .ok (.sipush 255, 3) := by decide +kernel
theorem dX6_ask_27 : decode cX6_ask 27 = .ok (.invokestatic 67, 3) := by decide +kernel
theorem dX6_ask_30 : decode cX6_ask 30 = .ok (.ifCond .ne 6, 3) := by decide +kernel
theorem dX6_ask_33 : decode cX6_ask 33 = .ok (.bipush (-2), 2) := by decide +kernel
theorem dX6_ask_35 : decode cX6_ask 35 = .ok (.ireturn, 1) := by decide +kernel
theorem dX6_ask_36 : decode cX6_ask 36 = .ok (.aload_n 0, 1) := by decide +kernel
theorem dX6_ask_37 : decode cX6_ask 37 = .ok (.iload_n 1, 1) := by decide +kernel
theorem dX6_ask_38 : decode cX6_ask 38 = .ok (.invokevirtual 159, 3) := by decide +kernel
theorem dX6_ask_41 : decode cX6_ask 41 = .ok (.istore 4, 2) := by decide +kernel
theorem dX6_ask_43 : decode cX6_ask 43 = .ok (.aload_n 0, 1) := by decide +kernel
theorem dX6_ask_44 : decode cX6_ask 44 = .ok (.aload_n 0, 1) := by decide +kernel
theorem dX6_ask_45 : decode cX6_ask 45 = .ok (.getfield 9, 3) := by decide +kernel
theorem dX6_ask_48 : decode cX6_ask 48 = .ok (.iload_n 1, 1) := by decide +kernel
theorem dX6_ask_49 : decode cX6_ask 49 = .ok (.bipush 9, 2) := by decide +kernel
theorem dX6_ask_51 : decode cX6_ask 51 = .ok (.iconst 0, 1) := by decide +kernel
theorem dX6_ask_52 : decode cX6_ask 52 = .ok (.iload_n 2, 1) := by decide +kernel
theorem dX6_ask_53 : decode cX6_ask 53 = .ok (.iload_n 3, 1) := by decide +kernel
theorem dX6_ask_54 : decode cX6_ask 54 = .ok (.iload 4, 2) := by decide +kernel
theorem dX6_ask_56 : decode cX6_ask 56 = .ok (.invokevirtual 106, 3) := by decide +kernel
theorem dX6_ask_59 : decode cX6_ask 59 = .ok (.iload 4, 2) := by decide +kernel
theorem dX6_ask_61 : decode cX6_ask 61 = .ok (.ireturn, 1) := by decide +kernel
theorem dX6_turn_0 : decode cX6_turn 0 = .ok (.aload_n 0, 1) := by decide +kernel
theorem dX6_turn_1 : decode cX6_turn 1 = .ok (.iconst 0, 1) := by decide +kernel
theorem dX6_turn_2 : decode cX6_turn 2 = .ok (.putfield 64, 3) := by decide +kernel
theorem dX6_turn_5 : decode cX6_turn 5 = .ok (.iload_n 1, 1) := by decide +kernel
theorem dX6_turn_6 : decode cX6_turn 6 = .ok (.iconst 0, 1) := by decide +kernel
theorem dX6_turn_7 : decode cX6_turn 7 = .ok (.iconst 4, 1) := by decide +kernel
theorem dX6_turn_8 : decode cX6_turn 8 = .ok (.invokestatic 67, 3) := by decide +kernel
