theorem dX8_writeOpening_91 : decode cX8_writeOpening 91 = .ok (.aload_n 0, 1) := by decide +kernel
theorem dX8_writeOpening_92 : decode cX8_writeOpening 92 = .ok (.getfield 56, 3) := by decide +kernel
theorem dX8_writeOpening_95 : decode cX8_writeOpening 95 = .ok (.bipush 32, 2) := by decide +kernel
theorem dX8_writeOpening_97 : decode cX8_writeOpening 97 = .ok (.invokevirtual 285, 3) := by decide +kernel
theorem dX8_writeOpening_100 : decode cX8_writeOpening 100 = .ok (.return_, 1) := by decide +kernel
set_option maxRecDepth 20000 in
theorem ggX8_signOfFrame_X0_placeOf : GoodIn wsX8_signOfFrame wsX0_placeOf := goodIn_r _ [6, 7, 8, 9, 10, 11, 12, 13, 30, 31, 32, 33, 34, 35, 36] (by decide +kernel) (by decide +kernel)
set_option maxRecDepth 20000 in
theorem gX8_signOfFrame_X0_placeOf : GoodIn wsX8_signOfFrame (wsV RX8 128 RX0 yX0_placeOf wsX0_placeOf) := goodIn_app (goodIn_of _ (by decide +kernel)) ggX8_signOfFrame_X0_placeOf
set_option maxRecDepth 20000 in
theorem ggX8_signOfFrame_X0_playedAt : GoodIn wsX8_signOfFrame wsX0_playedAt := goodIn_r _ [17, 18, 8, 9, 10, 11, 12, 13, 30, 31, 32, 33, 34, 35, 36] (by decide +kernel) (by decide +kernel)
set_option maxRecDepth 20000 in
theorem gX8_signOfFrame_X0_playedAt : GoodIn wsX8_signOfFrame (wsV RX8 137 RX0 yX0_playedAt wsX0_playedAt) := goodIn_app (goodIn_of _ (by decide +kernel)) ggX8_signOfFrame_X0_playedAt
theorem dX8_signOfFrame_0 : decode cX8_signOfFrame 0 = .ok (.aload_n 0, 1) := by decide +kernel
theorem dX8_signOfFrame_1 : decode cX8_signOfFrame 1 = .ok (.getfield 21, 3) := by decide +kernel
theorem dX8_signOfFrame_4 : decode cX8_signOfFrame 4 = .ok (.iload_n 1, 1) := by decide +kernel
theorem dX8_signOfFrame_5 : decode cX8_signOfFrame 5 = .ok (.invokevirtual 128, 3) := by decide +kernel
theorem dX8_signOfFrame_8 : decode cX8_signOfFrame 8 = .ok (.istore_n 2, 1) := by decide +kernel
theorem dX8_signOfFrame_9 : decode cX8_signOfFrame 9 = .ok (.iload_n 2, 1) := by decide +kernel
theorem dX8_signOfFrame_10 : decode cX8_signOfFrame 10 = .ok (.iconst (-1), 1) := by decide +kernel
theorem dX8_signOfFrame_11 : decode cX8_signOfFrame 11 = .ok (.if_icmp .ne 6, 3) := by decide +kernel
theorem dX8_signOfFrame_14 : decode cX8_signOfFrame 14 = .ok (.bipush 46, 2) := by decide +kernel
theorem dX8_signOfFrame_16 : decode cX8_signOfFrame 16 = .ok (.ireturn, 1) := by decide +kernel
theorem dX8_signOfFrame_17 : decode cX8_signOfFrame 17 = .ok (.aload_n 0, 1) := by decide +kernel
theorem dX8_signOfFrame_18 : decode cX8_signOfFrame 18 = .ok (.getfield 21, 3) := by decide +kernel
theorem dX8_signOfFrame_21 : decode cX8_signOfFrame 21 = .ok (.iload_n 2, 1) := by decide +kernel
theorem dX8_signOfFrame_22 : decode cX8_signOfFrame 22 = .ok (.invokevirtual 137, 3) := by decide +kernel
theorem dX8_signOfFrame_25 : decode cX8_signOfFrame 25 = .ok (.bipush (-9), 2) := by decide +kernel
theorem dX8_signOfFrame_27 : decode cX8_signOfFrame 27 = .ok (.if_icmp .ne 8, 3) := by decide +kernel
theorem dX8_signOfFrame_30 : decode cX8_signOfFrame 30 = .ok (.bipush 45, 2) := by decide +kernel
theorem dX8_signOfFrame_32 : decode cX8_signOfFrame 32 = .ok (.goto 5, 3) := by decide +kernel
theorem dX8_signOfFrame_35 : decode cX8_signOfFrame 35 = .ok (.bipush 43, 2) := by decide +kernel
theorem dX8_signOfFrame_37 : decode cX8_signOfFrame 37 = .ok (.ireturn, 1) := by decide +kernel
theorem dX9_init_0 : decode cX9_init 0 = .ok (.aload_n 0, 1) := by decide +kernel
theorem dX9_init_1 : decode cX9_init 1 = .ok (.invokespecial 1, 3) := by decide +kernel
theorem dX9_init_4 : decode cX9_init 4 = .ok (.aload_n 0, 1) := by decide +kernel
theorem dX9_init_5 : decode cX9_init 5 = .ok (.bipush 25, 2) := by decide +kernel
theorem dX9_init_7 : decode cX9_init 7 = .ok (.newarray .int, 2) := by decide +kernel
theorem dX9_init_9 : decode cX9_init 9 = .ok (.dup, 1) := by decide +kernel
theorem dX9_init_10 : decode cX9_init 10 = .ok (.iconst 0, 1) := by decide +kernel
theorem dX9_init_11 : decode cX9_init 11 = .ok (.bipush 102, 2) := by decide +kernel
theorem dX9_init_13 : decode cX9_init 13 = .ok (.iastore, 1) := by decide +kernel
theorem dX9_init_14 : decode cX9_init 14 = .ok (.dup, 1) := by decide +kernel
theorem dX9_init_15 : decode cX9_init 15 = .ok (.iconst 1, 1) := by decide +kernel
theorem dX9_init_16 : decode cX9_init 16 = .ok (.bipush 105, 2) := by decide +kernel
theorem dX9_init_18 : decode cX9_init 18 = .ok (.iastore, 1) := by decide +kernel
theorem dX9_init_19 : decode cX9_init 19 = .ok (.dup, 1) := by decide +kernel
theorem dX9_init_20 : decode cX9_init 20 = .ok (.iconst 2, 1) := by decide +kernel
theorem dX9_init_21 : decode cX9_init 21 = .ok (.bipush 120, 2) := by decide +kernel
theorem dX9_init_23 : decode cX9_init 23 = .ok (.iastore, 1) := by decide +kernel
theorem dX9_init_24 : decode cX9_init 24 = .ok (.dup, 1) := by decide +kernel
theorem dX9_init_25 : decode cX9_init 25 = .ok (.iconst 3, 1) := by decide +kernel
theorem dX9_init_26 : decode cX9_init 26 = .ok (.bipush 101, 2) := by decide +kernel
theorem dX9_init_28 : decode cX9_init 28 = .ok (.iastore, 1) := by decide +kernel
theorem dX9_init_29 : decode cX9_init 29 = .ok (.dup, 1) := by decide +kernel
theorem dX9_init_30 : decode cX9_init 30 = .ok (.iconst 4, 1) := by decide +kernel
theorem dX9_init_31 : decode cX9_init 31 = .ok (.bipush 100, 2) := by decide +kernel
theorem dX9_init_33 : decode cX9_init 33 = .ok (.iastore, 1) := by decide +kernel
theorem dX9_init_34 : decode cX9_init 34 = .ok (.dup, 1) := by decide +kernel
theorem dX9_init_35 : decode cX9_init 35 = .ok (.iconst 5, 1) := by decide +kernel
theorem dX9_init_36 : decode cX9_init 36 = .ok (.bipush 115, 2) := by decide +kernel
theorem dX9_init_38 : decode cX9_init 38 = .ok (.iastore, 1) := by decide +kernel
theorem dX9_init_39 : decode cX9_init 39 = .ok (.dup, 1) := by decide +kernel
theorem dX9_init_40 : decode cX9_init 40 = .ok (.bipush 6, 2) := by decide +kernel
theorem dX9_init_42 : decode cX9_init 42 = .ok (.bipush 104, 2) := by decide +kernel
theorem dX9_init_44 : decode cX9_init 44 = .ok (.iastore, 1) := by decide +kernel
theorem dX9_init_45 : decode cX9_init 45 = .ok (.dup, 1) := by decide +kernel
theorem dX9_init_46 : decode cX9_init 46 = .ok (.bipush 7, 2) := by decide +kernel
theorem dX9_init_48 : decode cX9_init 48 = .ok (.bipush 97, 2) := by decide +kernel
theorem dX9_init_50 : decode cX9_init 50 = .ok (.iastore, 1) := by decide +kernel
theorem dX9_init_51 : decode cX9_init 51 = .ok (.dup, 1) := by decide +kernel
theorem dX9_init_52 : decode cX9_init 52 = .ok (.bipush 8, 2) := by decide +kernel
theorem dX9_init_54 : decode cX9_init 54 = .ok (.bipush 114, 2) := by decide +kernel
theorem dX9_init_56 : decode cX9_init 56 = .ok (.iastore, 1) := by decide +kernel
theorem dX9_init_57 : decode cX9_init 57 = .ok (.dup, 1) := by decide +kernel
theorem dX9_init_58 : decode cX9_init 58 = .ok (.bipush 9, 2) := by decide +kernel
theorem dX9_init_60 : decode cX9_init 60 = .ok (.bipush 101, 2) := by decide +kernel
theorem dX9_init_62 : decode cX9_init 62 = .ok (.iastore, 1) := by decide +kernel
theorem dX9_init_63 : decode cX9_init 63 = .ok (.dup, 1) := by decide +kernel
theorem dX9_init_64 : decode cX9_init 64 = .ok (.bipush 10, 2) := by decide +kernel
theorem dX9_init_66 : decode cX9_init 66 = .ok (.bipush 115, 2) := by decide +kernel
theorem dX9_init_68 : decode cX9_init 68 = .ok (.iastore, 1) := by decide +kernel
theorem dX9_init_69 : decode cX9_init 69 = .ok (.dup, 1) := by decide +kernel
theorem dX9_init_70 : decode cX9_init 70 = .ok (.bipush 11, 2) := by decide +kernel
theorem dX9_init_72 : decode cX9_init 72 = .ok (.bipush 112, 2) := by decide +kernel
theorem dX9_init_74 : decode cX9_init 74 = .ok (.iastore, 1) := by decide +kernel
theorem dX9_init_75 : decode cX9_init 75 = .ok (.dup, 1) := by decide +kernel
theorem dX9_init_76 : decode cX9_init 76 = .ok (.bipush 12, 2) := by decide +kernel
theorem dX9_init_78 : decode cX9_init 78 = .ok (.bipush 105, 2) := by decide +kernel
theorem dX9_init_80 : decode cX9_init 80 = .ok (.iastore, 1) := by decide +kernel
theorem dX9_init_81 : decode cX9_init 81 = .ok (.dup, 1) := by decide +kernel
theorem dX9_init_82 : decode cX9_init 82 = .ok (.bipush 13, 2) := by decide +kernel
theorem dX9_init_84 : decode cX9_init 84 = .ok (.bipush 107, 2) := by decide +kernel
theorem dX9_init_86 : decode cX9_init 86 = .ok (.iastore, 1) := by decide +kernel
theorem dX9_init_87 : decode cX9_init 87 = .ok (.dup, 1) := by decide +kernel
theorem dX9_init_88 : decode cX9_init 88 = .ok (.bipush 14, 2) := by decide +kernel
theorem dX9_init_90 : decode cX9_init 90 = .ok (.bipush 101, 2) := by decide +kernel
theorem dX9_init_92 : decode cX9_init 92 = .ok (.iastore, 1) := by decide +kernel
theorem dX9_init_93 : decode cX9_init 93 = .ok (.dup, 1) := by decide +kernel
theorem dX9_init_94 : decode cX9_init 94 = .ok (.bipush 15, 2) := by decide +kernel
theorem dX9_init_96 : decode cX9_init 96 = .ok (.bipush 100, 2) := by decide +kernel
theorem dX9_init_98 : decode cX9_init 98 = .ok (.iastore, 1) := by decide +kernel
theorem dX9_init_99 : decode cX9_init 99 = .ok (.dup, 1) := by decide +kernel
theorem dX9_init_100 : decode cX9_init 100 = .ok (.bipush 16, 2) := by decide +kernel
theorem dX9_init_102 : decode cX9_init 102 = .ok (.bipush 114, 2) := by decide +kernel
theorem dX9_init_104 : decode cX9_init 104 = .ok (.iastore, 1) := by decide +kernel
theorem dX9_init_105 : decode cX9_init 105 = .ok (.dup, 1) := by decide +kernel
theorem dX9_init_106 : decode cX9_init 106 = .ok (.bipush 17, 2) := by decide +kernel
theorem dX9_init_108 : decode cX9_init 108 = .ok (.bipush 105, 2) := by decide +kernel
theorem dX9_init_110 : decode cX9_init 110 = .ok (.iastore, 1) := by decide +kernel
theorem dX9_init_111 : decode cX9_init 111 = .ok (.dup, 1) := by decide +kernel
theorem dX9_init_112 : decode cX9_init 112 = .ok (.bipush 18, 2) := by decide +kernel
theorem dX9_init_114 : decode cX9_init 114 = .ok (.bipush 102, 2) := by decide +kernel
theorem dX9_init_116 : decode cX9_init 116 = .ok (.iastore, 1) := by decide +kernel
theorem dX9_init_117 : decode cX9_init 117 = .ok (.dup, 1) := by decide +kernel
theorem dX9_init_118 : decode cX9_init 118 = .ok (.bipush 19, 2) := by decide +kernel
theorem dX9_init_120 : decode cX9_init 120 = .ok (.bipush 116, 2) := by decide +kernel
theorem dX9_init_122 : decode cX9_init 122 = .ok (.iastore, 1) := by decide +kernel
theorem dX9_init_123 : decode cX9_init 123 = .ok (.dup, 1) := by decide +kernel
theorem dX9_init_124 : decode cX9_init 124 = .ok (.bipush 20, 2) := by decide +kernel
theorem dX9_init_126 : decode cX9_init 126 = .ok (.bipush 109, 2) := by decide +kernel
theorem dX9_init_128 : decode cX9_init 128 = .ok (.iastore, 1) := by decide +kernel
theorem dX9_init_129 : decode cX9_init 129 = .ok (.dup, 1) := by decide +kernel
theorem dX9_init_130 : decode cX9_init 130 = .ok (.bipush 21, 2) := by decide +kernel
theorem dX9_init_132 : decode cX9_init 132 = .ok (.bipush 101, 2) := by decide +kernel
theorem dX9_init_134 : decode cX9_init 134 = .ok (.iastore, 1) := by decide +kernel
theorem dX9_init_135 : decode cX9_init 135 = .ok (.dup, 1) := by decide +kernel
theorem dX9_init_136 : decode cX9_init 136 = .ok (.bipush 22, 2) := by decide +kernel
theorem dX9_init_138 : decode cX9_init 138 = .ok (.bipush 97, 2) := by decide +kernel
theorem dX9_init_140 : decode cX9_init 140 = .ok (.iastore, 1) := by decide +kernel
theorem dX9_init_141 : decode cX9_init 141 = .ok (.dup, 1) := by decide +kernel
theorem dX9_init_142 : decode cX9_init 142 = .ok (.bipush 23, 2) := by decide +kernel
theorem dX9_init_144 : decode cX9_init 144 = .ok (.bipush 110, 2) := by decide +kernel
theorem dX9_init_146 : decode cX9_init 146 = .ok (.iastore, 1) := by decide +kernel
theorem dX9_init_147 : decode cX9_init 147 = .ok (.dup, 1) := by decide +kernel
theorem dX9_init_148 : decode cX9_init 148 = .ok (.bipush 24, 2) := by decide +kernel
theorem dX9_init_150 : decode cX9_init 150 = .ok (.iconst 0, 1) := by decide +kernel
theorem dX9_init_151 : decode cX9_init 151 = .ok (.iastore, 1) := by decide +kernel
theorem dX9_init_152 : decode cX9_init 152 = .ok (.putfield 7, 3) := by decide +kernel
theorem dX9_init_155 : decode cX9_init 155 = .ok (.aload_n 0, 1) := by decide +kernel
theorem dX9_init_156 : decode cX9_init 156 = .ok (.bipush 8, 2) := by decide +kernel
theorem dX9_init_158 : decode cX9_init 158 = .ok (.newarray .int, 2) := by decide +kernel
theorem dX9_init_160 : decode cX9_init 160 = .ok (.putfield 13, 3) := by decide +kernel
theorem dX9_init_163 : decode cX9_init 163 = .ok (.aload_n 0, 1) := by decide +kernel
theorem dX9_init_164 : decode cX9_init 164 = .ok (.bipush 60, 2) := by decide +kernel
theorem dX9_init_166 : decode cX9_init 166 = .ok (.putfield 16, 3) := by decide +kernel
theorem dX9_init_169 : decode cX9_init 169 = .ok (.aload_n 0, 1) := by decide +kernel
theorem dX9_init_170 : decode cX9_init 170 = .ok (.bipush 80, 2) := by decide +kernel
theorem dX9_init_172 : decode cX9_init 172 = .ok (.putfield 20, 3) := by decide +kernel
theorem dX9_init_175 : decode cX9_init 175 = .ok (.aload_n 0, 1) := by decide +kernel
theorem dX9_init_176 : decode cX9_init 176 = .ok (.bipush 120, 2) := by decide +kernel
theorem dX9_init_178 : decode cX9_init 178 = .ok (.newarray .int, 2) := by decide +kernel
theorem dX9_init_180 : decode cX9_init 180 = .ok (.putfield 23, 3) := by decide +kernel
theorem dX9_init_183 : decode cX9_init 183 = .ok (.aload_n 0, 1) := by decide +kernel
theorem dX9_init_184 : decode cX9_init 184 = .ok (.bipush 120, 2) := by decide +kernel
theorem dX9_init_186 : decode cX9_init 186 = .ok (.newarray .int, 2) := by decide +kernel
theorem dX9_init_188 : decode cX9_init 188 = .ok (.putfield 26, 3) := by decide +kernel
theorem dX9_init_191 : decode cX9_init 191 = .ok (.aload_n 0, 1) := by decide +kernel
theorem dX9_init_192 : decode cX9_init 192 = .ok (.bipush 120, 2) := by decide +kernel
theorem dX9_init_194 : decode cX9_init 194 = .ok (.newarray .int, 2) := by decide +kernel
theorem dX9_init_196 : decode cX9_init 196 = .ok (.putfield 29, 3) := by decide +kernel
theorem dX9_init_199 : decode cX9_init 199 = .ok (.aload_n 0, 1) := by decide +kernel
theorem dX9_init_200 : decode cX9_init 200 = .ok (.sipush 300, 3) := by decide +kernel
theorem dX9_init_203 : decode cX9_init 203 = .ok (.newarray .int, 2) := by decide +kernel
theorem dX9_init_205 : decode cX9_init 205 = .ok (.putfield 32, 3) := by decide +kernel
theorem dX9_init_208 : decode cX9_init 208 = .ok (.aload_n 0, 1) := by decide +kernel
theorem dX9_init_209 : decode cX9_init 209 = .ok (.bipush 120, 2) := by decide +kernel
theorem dX9_init_211 : decode cX9_init 211 = .ok (.newarray .int, 2) := by decide +kernel
theorem dX9_init_213 : decode cX9_init 213 = .ok (.putfield 35, 3) := by decide +kernel
theorem dX9_init_216 : decode cX9_init 216 = .ok (.aload_n 0, 1) := by decide +kernel
theorem dX9_init_217 : decode cX9_init 217 = .ok (.bipush 120, 2) := by decide +kernel
theorem dX9_init_219 : decode cX9_init 219 = .ok (.newarray .int, 2) := by decide +kernel
theorem dX9_init_221 : decode cX9_init 221 = .ok (.putfield 38, 3) := by decide +kernel
theorem dX9_init_224 : decode cX9_init 224 = .ok (.aload_n 0, 1) := by decide +kernel
theorem dX9_init_225 : decode cX9_init 225 = .ok (.bipush 120, 2) := by decide +kernel
theorem dX9_init_227 : decode cX9_init 227 = .ok (.newarray .int, 2) := by decide +kernel
theorem dX9_init_229 : decode cX9_init 229 = .ok (.putfield 41, 3) := by decide +kernel
theorem dX9_init_232 : decode cX9_init 232 = .ok (.aload_n 0, 1) := by decide +kernel
theorem dX9_init_233 : decode cX9_init 233 = .ok (.bipush 120, 2) := by decide +kernel
theorem dX9_init_235 : decode cX9_init 235 = .ok (.newarray .int, 2) := by decide +kernel
theorem dX9_init_237 : decode cX9_init 237 = .ok (.putfield 44, 3) := by decide +kernel
theorem dX9_init_240 : decode cX9_init 240 = .ok (.aload_n 0, 1) := by decide +kernel
theorem dX9_init_241 : decode cX9_init 241 = .ok (.bipush 120, 2) := by decide +kernel
theorem dX9_init_243 : decode cX9_init 243 = .ok (.newarray .long, 2) := by decide +kernel
theorem dX9_init_245 : decode cX9_init 245 = .ok (.putfield 47, 3) := by decide +kernel
theorem dX9_init_248 : decode cX9_init 248 = .ok (.aload_n 0, 1) := by decide +kernel
theorem dX9_init_249 : decode cX9_init 249 = .ok (.sipush 400, 3) := by decide +kernel
theorem dX9_init_252 : decode cX9_init 252 = .ok (.newarray .int, 2) := by decide +kernel
theorem dX9_init_254 : decode cX9_init 254 = .ok (.putfield 51, 3) := by decide +kernel
theorem dX9_init_257 : decode cX9_init 257 = .ok (.iconst 0, 1) := by decide +kernel
theorem dX9_init_258 : decode cX9_init 258 = .ok (.istore_n 1, 1) := by decide +kernel
theorem dX9_init_259 : decode cX9_init 259 = .ok (.iload_n 1, 1) := by decide +kernel
theorem dX9_init_260 : decode cX9_init 260 = .ok (.sipush 300, 3) := by decide +kernel
theorem dX9_init_263 : decode cX9_init 263 = .ok (.if_icmp .ge 17, 3) := by decide +kernel
theorem dX9_init_266 : decode cX9_init 266 = .ok (.aload_n 0, 1) := by decide +kernel
theorem dX9_init_267 : decode cX9_init 267 = .ok (.getfield 32, 3) := by decide +kernel
theorem dX9_init_270 : decode cX9_init 270 = .ok (.iload_n 1, 1) := by decide +kernel
theorem dX9_init_271 : decode cX9_init 271 = .ok (.bipush (-9), 2) := by decide +kernel
theorem dX9_init_273 : decode cX9_init 273 = .ok (.iastore, 1) := by decide +kernel
theorem dX9_init_274 : decode cX9_init 274 = .ok (.iinc 1 1, 3) := by decide +kernel
theorem dX9_init_277 : decode cX9_init 277 = .ok (.goto (-18), 3) := by decide +kernel
theorem dX9_init_280 : decode cX9_init 280 = .ok (.return_, 1) := by decide +kernel
theorem dX9_within_0 : decode cX9_within 0 = .ok (.iload_n 0, 1) := by decide +kernel
theorem dX9_within_1 : decode cX9_within 1 = .ok (.iload_n 1, 1) := by decide +kernel
theorem dX9_within_2 : decode cX9_within 2 = .ok (.if_icmp .lt 12, 3) := by decide +kernel
theorem dX9_within_5 : decode cX9_within 5 = .ok (.iload_n 0, 1) := by decide +kernel
theorem dX9_within_6 : decode cX9_within 6 = .ok (.iload_n 2, 1) := by decide +kernel
theorem dX9_within_7 : decode cX9_within 7 = .ok (.if_icmp .gt 7, 3) := by decide +kernel
theorem dX9_within_10 : decode cX9_within 10 = .ok (.iconst 1, 1) := by decide +kernel
theorem dX9_within_11 : decode cX9_within 11 = .ok (.goto 4, 3) := by decide +kernel
theorem dX9_within_14 : decode cX9_within 14 = .ok (.iconst 0, 1) := by decide +kernel
theorem dX9_within_15 : decode cX9_within 15 = .ok (.ireturn, 1) := by decide +kernel
theorem dX9_down_0 : decode cX9_down 0 = .ok (.lload_n 0, 1) := by decide +kernel
theorem dX9_down_1 : decode cX9_down 1 = .ok (.lconst 0, 1) := by decide +kernel
theorem dX9_down_2 : decode cX9_down 2 = .ok (.lcmp, 1) := by decide +kernel
theorem dX9_down_3 : decode cX9_down 3 = .ok (.ifCond .lt 9, 3) := by decide +kernel
theorem dX9_down_6 : decode cX9_down 6 = .ok (.lload_n 0, 1) := by decide +kernel
theorem dX9_down_7 : decode cX9_down 7 = .ok (.lload_n 2, 1) := by decide +kernel
theorem dX9_down_8 : decode cX9_down 8 = .ok (.ldiv, 1) := by decide +kernel
theorem dX9_down_9 : decode cX9_down 9 = .ok (.goto 11, 3) := by decide +kernel
theorem dX9_down_12 : decode cX9_down 12 = .ok (.lload_n 2, 1) := by decide +kernel
theorem dX9_down_13 : decode cX9_down 13 = .ok (.lconst 1, 1) := by decide +kernel
theorem dX9_down_14 : decode cX9_down 14 = .ok (.lsub, 1) := by decide +kernel
theorem dX9_down_15 : decode cX9_down 15 = .ok (.lload_n 0, 1) := by decide +kernel
theorem dX9_down_16 : decode cX9_down 16 = .ok (.lsub, 1) := by decide +kernel
theorem dX9_down_17 : decode cX9_down 17 = .ok (.lload_n 2, 1) := by decide +kernel
theorem dX9_down_18 : decode cX9_down 18 = .ok (.ldiv, 1) := by decide +kernel
theorem dX9_down_19 : decode cX9_down 19 = .ok (.lneg, 1) := by decide +kernel
theorem dX9_down_20 : decode cX9_down 20 = .ok (.lreturn, 1) := by decide +kernel
set_option maxRecDepth 20000 in
theorem ggX9_key_X9_within : GoodIn wsX9_key wsX9_within := goodIn_r _ [6] (by decide +kernel) (by decide +kernel)
set_option maxRecDepth 20000 in
theorem gX9_key_X9_within : GoodIn wsX9_key (va_wsS RX9 54 yX9_within wsX9_within) := goodIn_app (goodIn_of _ (by decide +kernel)) ggX9_key_X9_within
theorem dX9_key_0 : decode cX9_key 0 = .ok (.iload_n 1, 1) := by decide +kernel
theorem dX9_key_1 : decode cX9_key 1 = .ok (.iconst 0, 1) := by decide +kernel
theorem dX9_key_2 : decode cX9_key 2 = .ok (.bipush 127, 2) := by decide +kernel
theorem dX9_key_4 : decode cX9_key 4 = .ok (.invokestatic 54, 3) := by decide +kernel
theorem dX9_key_7 : decode cX9_key 7 = .ok (.ifCond .ne 6, 3) := by decide +kernel
theorem dX9_key_10 : decode cX9_key 10 = .ok (.bipush (-2), 2) := by decide +kernel
theorem dX9_key_12 : decode cX9_key 12 = .ok (.ireturn, 1) := by decide +kernel
theorem dX9_key_13 : decode cX9_key 13 = .ok (.aload_n 0, 1) := by decide +kernel
theorem dX9_key_14 : decode cX9_key 14 = .ok (.getfield 58, 3) := by decide +kernel
theorem dX9_key_17 : decode cX9_key 17 = .ok (.bipush 8, 2) := by decide +kernel
theorem dX9_key_19 : decode cX9_key 19 = .ok (.if_icmp .ne 6, 3) := by decide +kernel
theorem dX9_key_22 : decode cX9_key 22 = .ok (.bipush (-4), 2) := by decide +kernel
theorem dX9_key_24 : decode cX9_key 24 = .ok (.ireturn, 1) := by decide +kernel
theorem dX9_key_25 : decode cX9_key 25 = .ok (.aload_n 0, 1) := by decide +kernel
theorem dX9_key_26 : decode cX9_key 26 = .ok (.getfield 13, 3) := by decide +kernel
theorem dX9_key_29 : decode cX9_key 29 = .ok (.aload_n 0, 1) := by decide +kernel
theorem dX9_key_30 : decode cX9_key 30 = .ok (.getfield 58, 3) := by decide +kernel
theorem dX9_key_33 : decode cX9_key 33 = .ok (.iload_n 1, 1) := by decide +kernel
theorem dX9_key_34 : decode cX9_key 34 = .ok (.iastore, 1) := by decide +kernel
theorem dX9_key_35 : decode cX9_key 35 = .ok (.aload_n 0, 1) := by decide +kernel
theorem dX9_key_36 : decode cX9_key 36 = .ok (.dup, 1) := by decide +kernel
theorem dX9_key_37 : decode cX9_key 37 = .ok (.getfield 58, 3) := by decide +kernel
theorem dX9_key_40 : decode cX9_key 40 = .ok (.iconst 1, 1) := by decide +kernel
theorem dX9_key_41 : decode cX9_key 41 = .ok (.iadd, 1) := by decide +kernel
theorem dX9_key_42 : decode cX9_key 42 = .ok (.putfield 58, 3) := by decide +kernel
theorem dX9_key_45 : decode cX9_key 45 = .ok (.aload_n 0, 1) := by decide +kernel
theorem dX9_key_46 : decode cX9_key 46 = .ok (.getfield 58, 3) := by decide +kernel
theorem dX9_key_49 : decode cX9_key 49 = .ok (.ireturn, 1) := by decide +kernel
theorem dX9_wipe_0 : decode cX9_wipe 0 = .ok (.aload_n 0, 1) := by decide +kernel
theorem dX9_wipe_1 : decode cX9_wipe 1 = .ok (.getfield 58, 3) := by decide +kernel
theorem dX9_wipe_4 : decode cX9_wipe 4 = .ok (.istore_n 1, 1) := by decide +kernel
theorem dX9_wipe_5 : decode cX9_wipe 5 = .ok (.aload_n 0, 1) := by decide +kernel
theorem dX9_wipe_6 : decode cX9_wipe 6 = .ok (.iconst 0, 1) := by decide +kernel
theorem dX9_wipe_7 : decode cX9_wipe 7 = .ok (.putfield 58, 3) := by decide +kernel
theorem dX9_wipe_10 : decode cX9_wipe 10 = .ok (.iload_n 1, 1) := by decide +kernel
theorem dX9_wipe_11 : decode cX9_wipe 11 = .ok (.ireturn, 1) := by decide +kernel
theorem dX9_wordLong_0 : decode cX9_wordLong 0 = .ok (.iload_n 1, 1) := by decide +kernel
theorem dX9_wordLong_1 : decode cX9_wordLong 1 = .ok (.iconst 4, 1) := by decide +kernel
theorem dX9_wordLong_2 : decode cX9_wordLong 2 = .ok (.if_icmp .ne 7, 3) := by decide +kernel
theorem dX9_wordLong_5 : decode cX9_wordLong 5 = .ok (.iconst 4, 1) := by decide +kernel
theorem dX9_wordLong_6 : decode cX9_wordLong 6 = .ok (.goto 4, 3) := by decide +kernel
theorem dX9_wordLong_9 : decode cX9_wordLong 9 = .ok (.iconst 5, 1) := by decide +kernel
theorem dX9_wordLong_10 : decode cX9_wordLong 10 = .ok (.ireturn, 1) := by decide +kernel
set_option maxRecDepth 20000 in
theorem ggX9_told_X9_wordLong : GoodIn wsX9_told wsX9_wordLong := goodIn_r _ [8] (by decide +kernel) (by decide +kernel)
set_option maxRecDepth 20000 in
theorem gX9_told_X9_wordLong : GoodIn wsX9_told (wsV RX9 61 RX9 yX9_wordLong wsX9_wordLong) := goodIn_app (goodIn_of _ (by decide +kernel)) ggX9_told_X9_wordLong
theorem dX9_told_0 : decode cX9_told 0 = .ok (.iconst 0, 1) := by decide +kernel
theorem dX9_told_1 : decode cX9_told 1 = .ok (.istore_n 1, 1) := by decide +kernel
theorem dX9_told_2 : decode cX9_told 2 = .ok (.iload_n 1, 1) := by decide +kernel
theorem dX9_told_3 : decode cX9_told 3 = .ok (.iconst 5, 1) := by decide +kernel
theorem dX9_told_4 : decode cX9_told 4 = .ok (.if_icmp .ge 78, 3) := by decide +kernel
theorem dX9_told_7 : decode cX9_told 7 = .ok (.aload_n 0, 1) := by decide +kernel
theorem dX9_told_8 : decode cX9_told 8 = .ok (.getfield 58, 3) := by decide +kernel
theorem dX9_told_11 : decode cX9_told 11 = .ok (.aload_n 0, 1) := by decide +kernel
theorem dX9_told_12 : decode cX9_told 12 = .ok (.iload_n 1, 1) := by decide +kernel
theorem dX9_told_13 : decode cX9_told 13 = .ok (.invokevirtual 61, 3) := by decide +kernel
theorem dX9_told_16 : decode cX9_told 16 = .ok (.if_icmp .ne 7, 3) := by decide +kernel
theorem dX9_told_19 : decode cX9_told 19 = .ok (.iconst 1, 1) := by decide +kernel
theorem dX9_told_20 : decode cX9_told 20 = .ok (.goto 4, 3) := by decide +kernel
theorem dX9_told_23 : decode cX9_told 23 = .ok (.iconst 0, 1) := by decide +kernel
theorem dX9_told_24 : decode cX9_told 24 = .ok (.istore_n 2, 1) := by decide +kernel
theorem dX9_told_25 : decode cX9_told 25 = .ok (.iconst 0, 1) := by decide +kernel
theorem dX9_told_26 : decode cX9_told 26 = .ok (.istore_n 3, 1) := by decide +kernel
theorem dX9_told_27 : decode cX9_told 27 = .ok (.iload_n 3, 1) := by decide +kernel
theorem dX9_told_28 : decode cX9_told 28 = .ok (.aload_n 0, 1) := by decide +kernel
theorem dX9_told_29 : decode cX9_told 29 = .ok (.getfield 58, 3) := by decide +kernel
theorem dX9_told_32 : decode cX9_told 32 = .ok (.if_icmp .ge 38, 3) := by decide +kernel
theorem dX9_told_35 : decode cX9_told 35 = .ok (.iload_n 2, 1) := by decide +kernel
theorem dX9_told_36 : decode cX9_told 36 = .ok (.ifCond .eq 34, 3) := by decide +kernel
theorem dX9_told_39 : decode cX9_told 39 = .ok (.aload_n 0, 1) := by decide +kernel
theorem dX9_told_40 : decode cX9_told 40 = .ok (.getfield 13, 3) := by decide +kernel
theorem dX9_told_43 : decode cX9_told 43 = .ok (.iload_n 3, 1) := by decide +kernel
theorem dX9_told_44 : decode cX9_told 44 = .ok (.iaload, 1) := by decide +kernel
theorem dX9_told_45 : decode cX9_told 45 = .ok (.aload_n 0, 1) := by decide +kernel
theorem dX9_told_46 : decode cX9_told 46 = .ok (.getfield 7, 3) := by decide +kernel
theorem dX9_told_49 : decode cX9_told 49 = .ok (.iconst 5, 1) := by decide +kernel
theorem dX9_told_50 : decode cX9_told 50 = .ok (.iload_n 1, 1) := by decide +kernel
theorem dX9_told_51 : decode cX9_told 51 = .ok (.imul, 1) := by decide +kernel
theorem dX9_told_52 : decode cX9_told 52 = .ok (.iload_n 3, 1) := by decide +kernel
theorem dX9_told_53 : decode cX9_told 53 = .ok (.iadd, 1) := by decide +kernel
theorem dX9_told_54 : decode cX9_told 54 = .ok (.iaload, 1) := by decide +kernel
theorem dX9_told_55 : decode cX9_told 55 = .ok (.if_icmp .ne 7, 3) := by decide +kernel
theorem dX9_told_58 : decode cX9_told 58 = .ok (.iconst 1, 1) := by decide +kernel
theorem dX9_told_59 : decode cX9_told 59 = .ok (.goto 4, 3) := by decide +kernel
theorem dX9_told_62 : decode cX9_told 62 = .ok (.iconst 0, 1) := by decide +kernel
theorem dX9_told_63 : decode cX9_told 63 = .ok (.istore_n 2, 1) := by decide +kernel
theorem dX9_told_64 : decode cX9_told 64 = .ok (.iinc 3 1, 3) := by decide +kernel
theorem dX9_told_67 : decode cX9_told 67 = .ok (.goto (-40), 3) := by decide +kernel
theorem dX9_told_70 : decode cX9_told 70 = .ok (.iload_n 2, 1) := by decide +kernel
theorem dX9_told_71 : decode cX9_told 71 = .ok (.ifCond .eq 5, 3) := by decide +kernel
theorem dX9_told_74 : decode cX9_told 74 = .ok (.iload_n 1, 1) := by decide +kernel
theorem dX9_told_75 : decode cX9_told 75 = .ok (.ireturn, 1) := by decide +kernel
theorem dX9_told_76 : decode cX9_told 76 = .ok (.iinc 1 1, 3) := by decide +kernel
theorem dX9_told_79 : decode cX9_told 79 = .ok (.goto (-77), 3) := by decide +kernel
theorem dX9_told_82 : decode cX9_told 82 = .ok (.bipush (-9), 2) := by decide +kernel
theorem dX9_told_84 : decode cX9_told 84 = .ok (.ireturn, 1) := by decide +kernel
set_option maxRecDepth 20000 in
theorem ggX9_manner_X9_told : GoodIn wsX9_manner wsX9_told := goodIn_r _ [8, 3, 9, 10, 11, 12, 13, 7, 14, 18, 19, 20, 21, 22, 23, 24, 25, 26, 27, 28, 29, 30, 31, 32, 33, 34, 35, 36, 37, 38, 39, 40, 41, 42, 43, 44, 45] (by decide +kernel) (by decide +kernel)
set_option maxRecDepth 20000 in
theorem gX9_manner_X9_told : GoodIn wsX9_manner (wsV RX9 65 RX9 yX9_told wsX9_told) := goodIn_app (goodIn_of _ (by decide +kernel)) ggX9_manner_X9_told
set_option maxRecDepth 20000 in
theorem ggX9_manner_X9_within : GoodIn wsX9_manner wsX9_within := goodIn_r _ [17] (by decide +kernel) (by decide +kernel)
set_option maxRecDepth 20000 in
theorem gX9_manner_X9_within : GoodIn wsX9_manner (va_wsS RX9 54 yX9_within wsX9_within) := goodIn_app (goodIn_of _ (by decide +kernel)) ggX9_manner_X9_within
theorem dX9_manner_0 : decode cX9_manner 0 = .ok (.aload_n 0, 1) := by decide +kernel
theorem dX9_manner_1 : decode cX9_manner 1 = .ok (.invokevirtual 65, 3) := by decide +kernel
theorem dX9_manner_4 : decode cX9_manner 4 = .ok (.istore_n 2, 1) := by decide +kernel
theorem dX9_manner_5 : decode cX9_manner 5 = .ok (.iload_n 2, 1) := by decide +kernel
theorem dX9_manner_6 : decode cX9_manner 6 = .ok (.bipush (-9), 2) := by decide +kernel
theorem dX9_manner_8 : decode cX9_manner 8 = .ok (.if_icmp .ne 5, 3) := by decide +kernel
theorem dX9_manner_11 : decode cX9_manner 11 = .ok (.iconst (-1), 1) := by decide +kernel
theorem dX9_manner_12 : decode cX9_manner 12 = .ok (.ireturn, 1) := by decide +kernel
theorem dX9_manner_13 : decode cX9_manner 13 = .ok (.iload_n 2, 1) := by decide +kernel
theorem dX9_manner_14 : decode cX9_manner 14 = .ok (.ifCond .ne 9, 3) := by decide +kernel
theorem dX9_manner_17 : decode cX9_manner 17 = .ok (.sipush 2000, 3) := by decide +kernel
theorem dX9_manner_20 : decode cX9_manner 20 = .ok (.goto 16, 3) := by decide +kernel
theorem dX9_manner_23 : decode cX9_manner 23 = .ok (.iload_n 2, 1) := by decide +kernel
theorem dX9_manner_24 : decode cX9_manner 24 = .ok (.iconst 4, 1) := by decide +kernel
theorem dX9_manner_25 : decode cX9_manner 25 = .ok (.if_icmp .ne 8, 3) := by decide +kernel
theorem dX9_manner_28 : decode cX9_manner 28 = .ok (.bipush 8, 2) := by decide +kernel
theorem dX9_manner_30 : decode cX9_manner 30 = .ok (.goto 6, 3) := by decide +kernel
theorem dX9_manner_33 : decode cX9_manner 33 = .ok (.sipush 256, 3) := by decide +kernel
theorem dX9_manner_36 : decode cX9_manner 36 = .ok (.istore_n 3, 1) := by decide +kernel
theorem dX9_manner_37 : decode cX9_manner 37 = .ok (.iload_n 1, 1) := by decide +kernel
theorem dX9_manner_38 : decode cX9_manner 38 = .ok (.iload_n 2, 1) := by decide +kernel
theorem dX9_manner_39 : decode cX9_manner 39 = .ok (.ifCond .ne 9, 3) := by decide +kernel
theorem dX9_manner_42 : decode cX9_manner 42 = .ok (.sipush (-500), 3) := by decide +kernel
theorem dX9_manner_45 : decode cX9_manner 45 = .ok (.goto 4, 3) := by decide +kernel
theorem dX9_manner_48 : decode cX9_manner 48 = .ok (.iconst 0, 1) := by decide +kernel
theorem dX9_manner_49 : decode cX9_manner 49 = .ok (.iload_n 3, 1) := by decide +kernel
theorem dX9_manner_50 : decode cX9_manner 50 = .ok (.invokestatic 54, 3) := by decide +kernel
theorem dX9_manner_53 : decode cX9_manner 53 = .ok (.ifCond .ne 6, 3) := by decide +kernel
theorem dX9_manner_56 : decode cX9_manner 56 = .ok (.bipush (-2), 2) := by decide +kernel
theorem dX9_manner_58 : decode cX9_manner 58 = .ok (.ireturn, 1) := by decide +kernel
theorem dX9_manner_59 : decode cX9_manner 59 = .ok (.aload_n 0, 1) := by decide +kernel
theorem dX9_manner_60 : decode cX9_manner 60 = .ok (.iload_n 2, 1) := by decide +kernel
theorem dX9_manner_61 : decode cX9_manner 61 = .ok (.putfield 69, 3) := by decide +kernel
theorem dX9_manner_64 : decode cX9_manner 64 = .ok (.aload_n 0, 1) := by decide +kernel
theorem dX9_manner_65 : decode cX9_manner 65 = .ok (.iload_n 1, 1) := by decide +kernel
theorem dX9_manner_66 : decode cX9_manner 66 = .ok (.putfield 16, 3) := by decide +kernel
theorem dX9_manner_69 : decode cX9_manner 69 = .ok (.aload_n 0, 1) := by decide +kernel
theorem dX9_manner_70 : decode cX9_manner 70 = .ok (.iconst 0, 1) := by decide +kernel
theorem dX9_manner_71 : decode cX9_manner 71 = .ok (.putfield 58, 3) := by decide +kernel
theorem dX9_manner_74 : decode cX9_manner 74 = .ok (.iload_n 2, 1) := by decide +kernel
theorem dX9_manner_75 : decode cX9_manner 75 = .ok (.ireturn, 1) := by decide +kernel
set_option maxRecDepth 20000 in
theorem ggX9_margin_X9_within : GoodIn wsX9_margin wsX9_within := goodIn_r _ [5] (by decide +kernel) (by decide +kernel)
set_option maxRecDepth 20000 in
theorem gX9_margin_X9_within : GoodIn wsX9_margin (va_wsS RX9 54 yX9_within wsX9_within) := goodIn_app (goodIn_of _ (by decide +kernel)) ggX9_margin_X9_within
theorem dX9_margin_0 : decode cX9_margin 0 = .ok (.iload_n 1, 1) := by decide +kernel
theorem dX9_margin_1 : decode cX9_margin 1 = .ok (.iconst 0, 1) := by decide +kernel
theorem dX9_margin_2 : decode cX9_margin 2 = .ok (.sipush 200, 3) := by decide +kernel
theorem dX9_margin_5 : decode cX9_margin 5 = .ok (.invokestatic 54, 3) := by decide +kernel
theorem dX9_margin_8 : decode cX9_margin 8 = .ok (.ifCond .ne 6, 3) := by decide +kernel
theorem dX9_margin_11 : decode cX9_margin 11 = .ok (.bipush (-2), 2) := by decide +kernel
theorem dX9_margin_13 : decode cX9_margin 13 = .ok (.ireturn, 1) := by decide +kernel
theorem dX9_margin_14 : decode cX9_margin 14 = .ok (.aload_n 0, 1) := by decide +kernel
theorem dX9_margin_15 : decode cX9_margin 15 = .ok (.getfield 72, 3) := by decide +kernel
theorem dX9_margin_18 : decode cX9_margin 18 = .ok (.istore_n 2, 1) := by decide +kernel
theorem dX9_margin_19 : decode cX9_margin 19 = .ok (.aload_n 0, 1) := by decide +kernel
theorem dX9_margin_20 : decode cX9_margin 20 = .ok (.iload_n 1, 1) := by decide +kernel
theorem dX9_margin_21 : decode cX9_margin 21 = .ok (.putfield 72, 3) := by decide +kernel
theorem dX9_margin_24 : decode cX9_margin 24 = .ok (.iload_n 2, 1) := by decide +kernel
theorem dX9_margin_25 : decode cX9_margin 25 = .ok (.ireturn, 1) := by decide +kernel
set_option maxRecDepth 20000 in
theorem ggX9_jump_X9_within : GoodIn wsX9_jump wsX9_within := goodIn_r _ [5] (by decide +kernel) (by decide +kernel)
set_option maxRecDepth 20000 in
theorem gX9_jump_X9_within : GoodIn wsX9_jump (va_wsS RX9 54 yX9_within wsX9_within) := goodIn_app (goodIn_of _ (by decide +kernel)) ggX9_jump_X9_within
theorem dX9_jump_0 : decode cX9_jump 0 = .ok (.iload_n 1, 1) := by decide +kernel
theorem dX9_jump_1 : decode cX9_jump 1 = .ok (.bipush 10, 2) := by decide +kernel
theorem dX9_jump_3 : decode cX9_jump 3 = .ok (.sipush 1000, 3) := by decide +kernel
theorem dX9_jump_6 : decode cX9_jump 6 = .ok (.invokestatic 54, 3) := by decide +kernel
theorem dX9_jump_9 : decode cX9_jump 9 = .ok (.ifCond .ne 6, 3) := by decide +kernel
theorem dX9_jump_12 : decode cX9_jump 12 = .ok (.bipush (-2), 2) := by decide +kernel
theorem dX9_jump_14 : decode cX9_jump 14 = .ok (.ireturn, 1) := by decide +kernel
theorem dX9_jump_15 : decode cX9_jump 15 = .ok (.aload_n 0, 1) := by decide +kernel
theorem dX9_jump_16 : decode cX9_jump 16 = .ok (.getfield 20, 3) := by decide +kernel
theorem dX9_jump_19 : decode cX9_jump 19 = .ok (.istore_n 2, 1) := by decide +kernel
theorem dX9_jump_20 : decode cX9_jump 20 = .ok (.aload_n 0, 1) := by decide +kernel
theorem dX9_jump_21 : decode cX9_jump 21 = .ok (.iload_n 1, 1) := by decide +kernel
theorem dX9_jump_22 : decode cX9_jump 22 = .ok (.putfield 20, 3) := by decide +kernel
theorem dX9_jump_25 : decode cX9_jump 25 = .ok (.iload_n 2, 1) := by decide +kernel
theorem dX9_jump_26 : decode cX9_jump 26 = .ok (.ireturn, 1) := by decide +kernel
theorem dX9_delay_0 : decode cX9_delay 0 = .ok (.aload_n 0, 1) := by decide +kernel
theorem dX9_delay_1 : decode cX9_delay 1 = .ok (.getfield 26, 3) := by decide +kernel
theorem dX9_delay_4 : decode cX9_delay 4 = .ok (.iload_n 1, 1) := by decide +kernel
theorem dX9_delay_5 : decode cX9_delay 5 = .ok (.iaload, 1) := by decide +kernel
theorem dX9_delay_6 : decode cX9_delay 6 = .ok (.bipush 20, 2) := by decide +kernel
theorem dX9_delay_8 : decode cX9_delay 8 = .ok (.aload_n 0, 1) := by decide +kernel
theorem dX9_delay_9 : decode cX9_delay 9 = .ok (.getfield 23, 3) := by decide +kernel
theorem dX9_delay_12 : decode cX9_delay 12 = .ok (.iload_n 1, 1) := by decide +kernel
theorem dX9_delay_13 : decode cX9_delay 13 = .ok (.iaload, 1) := by decide +kernel
theorem dX9_delay_14 : decode cX9_delay 14 = .ok (.imul, 1) := by decide +kernel
theorem dX9_delay_15 : decode cX9_delay 15 = .ok (.isub, 1) := by decide +kernel
theorem dX9_delay_16 : decode cX9_delay 16 = .ok (.ireturn, 1) := by decide +kernel
theorem dX9_spurtBy_0 : decode cX9_spurtBy 0 = .ok (.iconst 0, 1) := by decide +kernel
theorem dX9_spurtBy_1 : decode cX9_spurtBy 1 = .ok (.istore_n 2, 1) := by decide +kernel
theorem dX9_spurtBy_2 : decode cX9_spurtBy 2 = .ok (.iload_n 2, 1) := by decide +kernel
theorem dX9_spurtBy_3 : decode cX9_spurtBy 3 = .ok (.aload_n 0, 1) := by decide +kernel
theorem dX9_spurtBy_4 : decode cX9_spurtBy 4 = .ok (.getfield 75, 3) := by decide +kernel
theorem dX9_spurtBy_7 : decode cX9_spurtBy 7 = .ok (.if_icmp .ge 21, 3) := by decide +kernel
theorem dX9_spurtBy_10 : decode cX9_spurtBy 10 = .ok (.aload_n 0, 1) := by decide +kernel
theorem dX9_spurtBy_11 : decode cX9_spurtBy 11 = .ok (.getfield 35, 3) := by decide +kernel
theorem dX9_spurtBy_14 : decode cX9_spurtBy 14 = .ok (.iload_n 2, 1) := by decide +kernel
theorem dX9_spurtBy_15 : decode cX9_spurtBy 15 = .ok (.iaload, 1) := by decide +kernel
theorem dX9_spurtBy_16 : decode cX9_spurtBy 16 = .ok (.iload_n 1, 1) := by decide +kernel
theorem dX9_spurtBy_17 : decode cX9_spurtBy 17 = .ok (.if_icmp .ne 5, 3) := by decide +kernel
theorem dX9_spurtBy_20 : decode cX9_spurtBy 20 = .ok (.iload_n 2, 1) := by decide +kernel
theorem dX9_spurtBy_21 : decode cX9_spurtBy 21 = .ok (.ireturn, 1) := by decide +kernel
theorem dX9_spurtBy_22 : decode cX9_spurtBy 22 = .ok (.iinc 2 1, 3) := by decide +kernel
theorem dX9_spurtBy_25 : decode cX9_spurtBy 25 = .ok (.goto (-23), 3) := by decide +kernel
theorem dX9_spurtBy_28 : decode cX9_spurtBy 28 = .ok (.bipush (-9), 2) := by decide +kernel
theorem dX9_spurtBy_30 : decode cX9_spurtBy 30 = .ok (.ireturn, 1) := by decide +kernel
theorem dX9_isInTheWay_0 : decode cX9_isInTheWay 0 = .ok (.aload_n 0, 1) := by decide +kernel
theorem dX9_isInTheWay_1 : decode cX9_isInTheWay 1 = .ok (.getfield 35, 3) := by decide +kernel
theorem dX9_isInTheWay_4 : decode cX9_isInTheWay 4 = .ok (.iload_n 1, 1) := by decide +kernel
theorem dX9_isInTheWay_5 : decode cX9_isInTheWay 5 = .ok (.iaload, 1) := by decide +kernel
theorem dX9_isInTheWay_6 : decode cX9_isInTheWay 6 = .ok (.iload_n 3, 1) := by decide +kernel
theorem dX9_isInTheWay_7 : decode cX9_isInTheWay 7 = .ok (.if_icmp .le 26, 3) := by decide +kernel
theorem dX9_isInTheWay_10 : decode cX9_isInTheWay 10 = .ok (.iload_n 2, 1) := by decide +kernel
theorem dX9_isInTheWay_11 : decode cX9_isInTheWay 11 = .ok (.aload_n 0, 1) := by decide +kernel
theorem dX9_isInTheWay_12 : decode cX9_isInTheWay 12 = .ok (.getfield 35, 3) := by decide +kernel
theorem dX9_isInTheWay_15 : decode cX9_isInTheWay 15 = .ok (.iload_n 1, 1) := by decide +kernel
theorem dX9_isInTheWay_16 : decode cX9_isInTheWay 16 = .ok (.iaload, 1) := by decide +kernel
theorem dX9_isInTheWay_17 : decode cX9_isInTheWay 17 = .ok (.aload_n 0, 1) := by decide +kernel
theorem dX9_isInTheWay_18 : decode cX9_isInTheWay 18 = .ok (.getfield 38, 3) := by decide +kernel
theorem dX9_isInTheWay_21 : decode cX9_isInTheWay 21 = .ok (.iload_n 1, 1) := by decide +kernel
theorem dX9_isInTheWay_22 : decode cX9_isInTheWay 22 = .ok (.iaload, 1) := by decide +kernel
theorem dX9_isInTheWay_23 : decode cX9_isInTheWay 23 = .ok (.isub, 1) := by decide +kernel
theorem dX9_isInTheWay_24 : decode cX9_isInTheWay 24 = .ok (.if_icmp .lt 7, 3) := by decide +kernel
theorem dX9_isInTheWay_27 : decode cX9_isInTheWay 27 = .ok (.iconst 1, 1) := by decide +kernel
theorem dX9_isInTheWay_28 : decode cX9_isInTheWay 28 = .ok (.goto 4, 3) := by decide +kernel
theorem dX9_isInTheWay_31 : decode cX9_isInTheWay 31 = .ok (.iconst 0, 1) := by decide +kernel
theorem dX9_isInTheWay_32 : decode cX9_isInTheWay 32 = .ok (.ireturn, 1) := by decide +kernel
theorem dX9_isInTheWay_33 : decode cX9_isInTheWay 33 = .ok (.iconst 0, 1) := by decide +kernel
theorem dX9_isInTheWay_34 : decode cX9_isInTheWay 34 = .ok (.istore 5, 2) := by decide +kernel
theorem dX9_isInTheWay_36 : decode cX9_isInTheWay 36 = .ok (.iload 5, 2) := by decide +kernel
theorem dX9_isInTheWay_38 : decode cX9_isInTheWay 38 = .ok (.aload_n 0, 1) := by decide +kernel
theorem dX9_isInTheWay_39 : decode cX9_isInTheWay 39 = .ok (.getfield 78, 3) := by decide +kernel
theorem dX9_isInTheWay_42 : decode cX9_isInTheWay 42 = .ok (.if_icmp .ge 50, 3) := by decide +kernel
theorem dX9_isInTheWay_45 : decode cX9_isInTheWay 45 = .ok (.aload_n 0, 1) := by decide +kernel
theorem dX9_isInTheWay_46 : decode cX9_isInTheWay 46 = .ok (.getfield 29, 3) := by decide +kernel
theorem dX9_isInTheWay_49 : decode cX9_isInTheWay 49 = .ok (.iload 5, 2) := by decide +kernel
theorem dX9_isInTheWay_51 : decode cX9_isInTheWay 51 = .ok (.iaload, 1) := by decide +kernel
theorem dX9_isInTheWay_52 : decode cX9_isInTheWay 52 = .ok (.iload_n 1, 1) := by decide +kernel
theorem dX9_isInTheWay_53 : decode cX9_isInTheWay 53 = .ok (.if_icmp .ne 33, 3) := by decide +kernel
theorem dX9_isInTheWay_56 : decode cX9_isInTheWay 56 = .ok (.aload_n 0, 1) := by decide +kernel
theorem dX9_isInTheWay_57 : decode cX9_isInTheWay 57 = .ok (.getfield 23, 3) := by decide +kernel
theorem dX9_isInTheWay_60 : decode cX9_isInTheWay 60 = .ok (.iload 5, 2) := by decide +kernel
theorem dX9_isInTheWay_62 : decode cX9_isInTheWay 62 = .ok (.iaload, 1) := by decide +kernel
theorem dX9_isInTheWay_63 : decode cX9_isInTheWay 63 = .ok (.iload_n 3, 1) := by decide +kernel
theorem dX9_isInTheWay_64 : decode cX9_isInTheWay 64 = .ok (.iload 4, 2) := by decide +kernel
theorem dX9_isInTheWay_66 : decode cX9_isInTheWay 66 = .ok (.isub, 1) := by decide +kernel
theorem dX9_isInTheWay_67 : decode cX9_isInTheWay 67 = .ok (.if_icmp .lt 19, 3) := by decide +kernel
theorem dX9_isInTheWay_70 : decode cX9_isInTheWay 70 = .ok (.aload_n 0, 1) := by decide +kernel
theorem dX9_isInTheWay_71 : decode cX9_isInTheWay 71 = .ok (.getfield 35, 3) := by decide +kernel
theorem dX9_isInTheWay_74 : decode cX9_isInTheWay 74 = .ok (.iload_n 1, 1) := by decide +kernel
theorem dX9_isInTheWay_75 : decode cX9_isInTheWay 75 = .ok (.iaload, 1) := by decide +kernel
theorem dX9_isInTheWay_76 : decode cX9_isInTheWay 76 = .ok (.iload_n 3, 1) := by decide +kernel
theorem dX9_isInTheWay_77 : decode cX9_isInTheWay 77 = .ok (.if_icmp .ge 7, 3) := by decide +kernel
theorem dX9_isInTheWay_80 : decode cX9_isInTheWay 80 = .ok (.iconst 1, 1) := by decide +kernel
theorem dX9_isInTheWay_81 : decode cX9_isInTheWay 81 = .ok (.goto 4, 3) := by decide +kernel
theorem dX9_isInTheWay_84 : decode cX9_isInTheWay 84 = .ok (.iconst 0, 1) := by decide +kernel
theorem dX9_isInTheWay_85 : decode cX9_isInTheWay 85 = .ok (.ireturn, 1) := by decide +kernel
theorem dX9_isInTheWay_86 : decode cX9_isInTheWay 86 = .ok (.iinc 5 1, 3) := by decide +kernel
theorem dX9_isInTheWay_89 : decode cX9_isInTheWay 89 = .ok (.goto (-53), 3) := by decide +kernel
theorem dX9_isInTheWay_92 : decode cX9_isInTheWay 92 = .ok (.iconst 0, 1) := by decide +kernel
theorem dX9_isInTheWay_93 : decode cX9_isInTheWay 93 = .ok (.ireturn, 1) := by decide +kernel
set_option maxRecDepth 20000 in
theorem ggX9_isShut_X9_spurtBy : GoodIn wsX9_isShut wsX9_spurtBy := goodIn_r _ [10, 5, 11, 18, 19, 20, 21, 22, 23, 24, 25, 26, 27, 28, 29, 30, 31, 32, 33, 34, 35, 36, 37, 38, 39, 40, 41, 42, 43, 44, 45] (by decide +kernel) (by decide +kernel)
set_option maxRecDepth 20000 in
theorem gX9_isShut_X9_spurtBy : GoodIn wsX9_isShut (wsV RX9 81 RX9 yX9_spurtBy wsX9_spurtBy) := goodIn_app (goodIn_of _ (by decide +kernel)) ggX9_isShut_X9_spurtBy
set_option maxRecDepth 20000 in
theorem ggX9_isShut_X9_isInTheWay : GoodIn wsX9_isShut wsX9_isInTheWay := goodIn_r _ [15, 11, 4, 1, 16, 17, 18, 19, 20, 21, 22, 23, 24, 25, 26, 27, 28, 29, 30, 31, 32, 33, 34, 35, 36, 37, 38, 39, 40, 41, 42, 43, 44, 45] (by decide +kernel) (by decide +kernel)
set_option maxRecDepth 20000 in
theorem gX9_isShut_X9_isInTheWay : GoodIn wsX9_isShut (wsV RX9 84 RX9 yX9_isInTheWay wsX9_isInTheWay) := goodIn_app (goodIn_of _ (by decide +kernel)) ggX9_isShut_X9_isInTheWay
theorem dX9_isShut_0 : decode cX9_isShut 0 = .ok (.aload_n 0, 1) := by decide +kernel
theorem dX9_isShut_1 : decode cX9_isShut 1 = .ok (.getfield 78, 3) := by decide +kernel
theorem dX9_isShut_4 : decode cX9_isShut 4 = .ok (.ifCond .le 19, 3) := by decide +kernel
theorem dX9_isShut_7 : decode cX9_isShut 7 = .ok (.iload 4, 2) := by decide +kernel
theorem dX9_isShut_9 : decode cX9_isShut 9 = .ok (.aload_n 0, 1) := by decide +kernel
theorem dX9_isShut_10 : decode cX9_isShut 10 = .ok (.getfield 26, 3) := by decide +kernel
theorem dX9_isShut_13 : decode cX9_isShut 13 = .ok (.aload_n 0, 1) := by decide +kernel
theorem dX9_isShut_14 : decode cX9_isShut 14 = .ok (.getfield 78, 3) := by decide +kernel
theorem dX9_isShut_17 : decode cX9_isShut 17 = .ok (.iconst 1, 1) := by decide +kernel
theorem dX9_isShut_18 : decode cX9_isShut 18 = .ok (.isub, 1) := by decide +kernel
theorem dX9_isShut_19 : decode cX9_isShut 19 = .ok (.iaload, 1) := by decide +kernel
theorem dX9_isShut_20 : decode cX9_isShut 20 = .ok (.if_icmp .lt 14, 3) := by decide +kernel
theorem dX9_isShut_23 : decode cX9_isShut 23 = .ok (.aload_n 0, 1) := by decide +kernel
theorem dX9_isShut_24 : decode cX9_isShut 24 = .ok (.getfield 32, 3) := by decide +kernel
theorem dX9_isShut_27 : decode cX9_isShut 27 = .ok (.iload_n 1, 1) := by decide +kernel
theorem dX9_isShut_28 : decode cX9_isShut 28 = .ok (.iaload, 1) := by decide +kernel
theorem dX9_isShut_29 : decode cX9_isShut 29 = .ok (.bipush (-9), 2) := by decide +kernel
theorem dX9_isShut_31 : decode cX9_isShut 31 = .ok (.if_icmp .eq 5, 3) := by decide +kernel
theorem dX9_isShut_34 : decode cX9_isShut 34 = .ok (.iconst 1, 1) := by decide +kernel
theorem dX9_isShut_35 : decode cX9_isShut 35 = .ok (.ireturn, 1) := by decide +kernel
theorem dX9_isShut_36 : decode cX9_isShut 36 = .ok (.aload_n 0, 1) := by decide +kernel
theorem dX9_isShut_37 : decode cX9_isShut 37 = .ok (.iload_n 2, 1) := by decide +kernel
theorem dX9_isShut_38 : decode cX9_isShut 38 = .ok (.invokevirtual 81, 3) := by decide +kernel
theorem dX9_isShut_41 : decode cX9_isShut 41 = .ok (.istore 5, 2) := by decide +kernel
theorem dX9_isShut_43 : decode cX9_isShut 43 = .ok (.iload 5, 2) := by decide +kernel
theorem dX9_isShut_45 : decode cX9_isShut 45 = .ok (.bipush (-9), 2) := by decide +kernel
theorem dX9_isShut_47 : decode cX9_isShut 47 = .ok (.if_icmp .eq 18, 3) := by decide +kernel
theorem dX9_isShut_50 : decode cX9_isShut 50 = .ok (.aload_n 0, 1) := by decide +kernel
theorem dX9_isShut_51 : decode cX9_isShut 51 = .ok (.getfield 38, 3) := by decide +kernel
theorem dX9_isShut_54 : decode cX9_isShut 54 = .ok (.iload 5, 2) := by decide +kernel
theorem dX9_isShut_56 : decode cX9_isShut 56 = .ok (.iaload, 1) := by decide +kernel
theorem dX9_isShut_57 : decode cX9_isShut 57 = .ok (.iload_n 3, 1) := by decide +kernel
theorem dX9_isShut_58 : decode cX9_isShut 58 = .ok (.if_icmp .eq 7, 3) := by decide +kernel
theorem dX9_isShut_61 : decode cX9_isShut 61 = .ok (.iconst 1, 1) := by decide +kernel
theorem dX9_isShut_62 : decode cX9_isShut 62 = .ok (.goto 4, 3) := by decide +kernel
theorem dX9_isShut_65 : decode cX9_isShut 65 = .ok (.iconst 0, 1) := by decide +kernel
theorem dX9_isShut_66 : decode cX9_isShut 66 = .ok (.istore 6, 2) := by decide +kernel
theorem dX9_isShut_68 : decode cX9_isShut 68 = .ok (.iconst 0, 1) := by decide +kernel
theorem dX9_isShut_69 : decode cX9_isShut 69 = .ok (.istore 7, 2) := by decide +kernel
theorem dX9_isShut_71 : decode cX9_isShut 71 = .ok (.iload 7, 2) := by decide +kernel
theorem dX9_isShut_73 : decode cX9_isShut 73 = .ok (.aload_n 0, 1) := by decide +kernel
theorem dX9_isShut_74 : decode cX9_isShut 74 = .ok (.getfield 75, 3) := by decide +kernel
theorem dX9_isShut_77 : decode cX9_isShut 77 = .ok (.if_icmp .ge 40, 3) := by decide +kernel
theorem dX9_isShut_80 : decode cX9_isShut 80 = .ok (.iload 6, 2) := by decide +kernel
theorem dX9_isShut_82 : decode cX9_isShut 82 = .ok (.ifCond .ne 22, 3) := by decide +kernel
theorem dX9_isShut_85 : decode cX9_isShut 85 = .ok (.iload 7, 2) := by decide +kernel
theorem dX9_isShut_87 : decode cX9_isShut 87 = .ok (.iload 5, 2) := by decide +kernel
theorem dX9_isShut_89 : decode cX9_isShut 89 = .ok (.if_icmp .eq 19, 3) := by decide +kernel
theorem dX9_isShut_92 : decode cX9_isShut 92 = .ok (.aload_n 0, 1) := by decide +kernel
theorem dX9_isShut_93 : decode cX9_isShut 93 = .ok (.iload 7, 2) := by decide +kernel
theorem dX9_isShut_95 : decode cX9_isShut 95 = .ok (.iload_n 1, 1) := by decide +kernel
theorem dX9_isShut_96 : decode cX9_isShut 96 = .ok (.iload_n 2, 1) := by decide +kernel
theorem dX9_isShut_97 : decode cX9_isShut 97 = .ok (.iload_n 3, 1) := by decide +kernel
theorem dX9_isShut_98 : decode cX9_isShut 98 = .ok (.invokevirtual 84, 3) := by decide +kernel
theorem dX9_isShut_101 : decode cX9_isShut 101 = .ok (.ifCond .eq 7, 3) := by decide +kernel
theorem dX9_isShut_104 : decode cX9_isShut 104 = .ok (.iconst 1, 1) := by decide +kernel
theorem dX9_isShut_105 : decode cX9_isShut 105 = .ok (.goto 4, 3) := by decide +kernel
theorem dX9_isShut_108 : decode cX9_isShut 108 = .ok (.iconst 0, 1) := by decide +kernel
theorem dX9_isShut_109 : decode cX9_isShut 109 = .ok (.istore 6, 2) := by decide +kernel
theorem dX9_isShut_111 : decode cX9_isShut 111 = .ok (.iinc 7 1, 3) := by decide +kernel
theorem dX9_isShut_114 : decode cX9_isShut 114 = .ok (.goto (-43), 3) := by decide +kernel
theorem dX9_isShut_117 : decode cX9_isShut 117 = .ok (.iload 6, 2) := by decide +kernel
theorem dX9_isShut_119 : decode cX9_isShut 119 = .ok (.ireturn, 1) := by decide +kernel
set_option maxRecDepth 20000 in
theorem ggX9_arrive_X9_within : GoodIn wsX9_arrive wsX9_within := goodIn_r _ [15] (by decide +kernel) (by decide +kernel)
set_option maxRecDepth 20000 in
theorem gX9_arrive_X9_within : GoodIn wsX9_arrive (va_wsS RX9 54 yX9_within wsX9_within) := goodIn_app (goodIn_of _ (by decide +kernel)) ggX9_arrive_X9_within
set_option maxRecDepth 20000 in
theorem ggX9_arrive_X9_isShut : GoodIn wsX9_arrive wsX9_isShut := goodIn_r _ [19, 1, 3, 4, 7, 5, 20, 21, 22, 14, 23, 6, 24, 25, 26, 27, 11, 2, 84, 85, 86, 87, 88, 89, 90, 91, 92, 93, 94, 95, 96, 97, 98, 99, 100, 101, 102, 103, 104, 105, 106, 107, 108, 109, 110, 111] (by decide +kernel) (by decide +kernel)
set_option maxRecDepth 20000 in
theorem gX9_arrive_X9_isShut : GoodIn wsX9_arrive (wsV RX9 88 RX9 yX9_isShut wsX9_isShut) := goodIn_app (goodIn_of _ (by decide +kernel)) ggX9_arrive_X9_isShut
set_option maxRecDepth 20000 in
theorem ggX9_arrive_X9_spikesBy : GoodIn wsX9_arrive wsX9_spikesBy := goodIn_r _ [31, 32, 33, 34, 35, 36, 37, 38, 14, 39, 3, 2, 84, 85, 86, 87, 88, 89, 90, 91, 92, 93, 94, 95, 96, 97, 98, 99, 100, 101, 102, 103, 104, 105, 106, 107, 108, 109, 110, 111] (by decide +kernel) (by decide +kernel)
set_option maxRecDepth 20000 in
theorem gX9_arrive_X9_spikesBy : GoodIn wsX9_arrive (wsV RX9 91 RX9 yX9_spikesBy wsX9_spikesBy) := goodIn_app (goodIn_of _ (by decide +kernel)) ggX9_arrive_X9_spikesBy
set_option maxRecDepth 20000 in
theorem ggX9_arrive_X9_spurtBy : GoodIn wsX9_arrive wsX9_spurtBy := goodIn_r _ [23, 5, 6, 84, 85, 86, 87, 88, 89, 90, 91, 92, 93, 94, 95, 96, 97, 98, 99, 100, 101, 102, 103, 104, 105, 106, 107, 108, 109, 110, 111] (by decide +kernel) (by decide +kernel)
set_option maxRecDepth 20000 in
theorem gX9_arrive_X9_spurtBy : GoodIn wsX9_arrive (wsV RX9 81 RX9 yX9_spurtBy wsX9_spurtBy) := goodIn_app (goodIn_of _ (by decide +kernel)) ggX9_arrive_X9_spurtBy
set_option maxRecDepth 20000 in
theorem ggX9_arrive_X9_timeFor : GoodIn wsX9_arrive wsX9_timeFor := goodIn_r _ [43, 44, 10, 7, 45, 46, 47, 14, 48, 9, 1, 49, 2, 50, 51, 52, 32, 53, 54, 55, 56, 57, 58, 59, 60, 36, 37, 38, 39, 3, 61, 62, 63, 64, 65, 66, 67, 68, 69, 70, 71, 72, 73, 74, 75, 76, 77, 78, 79, 80, 81, 82, 83, 5, 6, 84, 85, 86, 87, 88, 89, 90, 91, 92, 93, 94, 95, 96, 97, 98, 99, 100, 101, 102, 103, 104, 105, 106, 107, 108, 109, 110, 111] (by decide +kernel) (by decide +kernel)
set_option maxRecDepth 20000 in
theorem gX9_arrive_X9_timeFor : GoodIn wsX9_arrive (wsV RX9 95 RX9 yX9_timeFor wsX9_timeFor) := goodIn_app (goodIn_of _ (by decide +kernel)) ggX9_arrive_X9_timeFor
theorem dX9_arrive_0 : decode cX9_arrive 0 = .ok (.iload_n 1, 1) := by decide +kernel
theorem dX9_arrive_1 : decode cX9_arrive 1 = .ok (.iconst 0, 1) := by decide +kernel
theorem dX9_arrive_2 : decode cX9_arrive 2 = .ok (.sipush 299, 3) := by decide +kernel
theorem dX9_arrive_5 : decode cX9_arrive 5 = .ok (.invokestatic 54, 3) := by decide +kernel
theorem dX9_arrive_8 : decode cX9_arrive 8 = .ok (.ifCond .eq 33, 3) := by decide +kernel
theorem dX9_arrive_11 : decode cX9_arrive 11 = .ok (.iload_n 2, 1) := by decide +kernel
theorem dX9_arrive_12 : decode cX9_arrive 12 = .ok (.iconst 0, 1) := by decide +kernel
theorem dX9_arrive_13 : decode cX9_arrive 13 = .ok (.iload_n 1, 1) := by decide +kernel
theorem dX9_arrive_14 : decode cX9_arrive 14 = .ok (.invokestatic 54, 3) := by decide +kernel
theorem dX9_arrive_17 : decode cX9_arrive 17 = .ok (.ifCond .eq 24, 3) := by decide +kernel
theorem dX9_arrive_20 : decode cX9_arrive 20 = .ok (.iload_n 3, 1) := by decide +kernel
theorem dX9_arrive_21 : decode cX9_arrive 21 = .ok (.iconst 0, 1) := by decide +kernel
theorem dX9_arrive_22 : decode cX9_arrive 22 = .ok (.iload_n 2, 1) := by decide +kernel
theorem dX9_arrive_23 : decode cX9_arrive 23 = .ok (.invokestatic 54, 3) := by decide +kernel
theorem dX9_arrive_26 : decode cX9_arrive 26 = .ok (.ifCond .eq 15, 3) := by decide +kernel
theorem dX9_arrive_29 : decode cX9_arrive 29 = .ok (.iload 4, 2) := by decide +kernel
theorem dX9_arrive_31 : decode cX9_arrive 31 = .ok (.iconst 0, 1) := by decide +kernel
theorem dX9_arrive_32 : decode cX9_arrive 32 = .ok (.sipush 30000, 3) := by decide +kernel
theorem dX9_arrive_35 : decode cX9_arrive 35 = .ok (.invokestatic 54, 3) := by decide +kernel
theorem dX9_arrive_38 : decode cX9_arrive 38 = .ok (.ifCond .ne 6, 3) := by decide +kernel
theorem dX9_arrive_41 : decode cX9_arrive 41 = .ok (.bipush (-2), 2) := by decide +kernel
theorem dX9_arrive_43 : decode cX9_arrive 43 = .ok (.ireturn, 1) := by decide +kernel
theorem dX9_arrive_44 : decode cX9_arrive 44 = .ok (.aload_n 0, 1) := by decide +kernel
theorem dX9_arrive_45 : decode cX9_arrive 45 = .ok (.iload_n 1, 1) := by decide +kernel
theorem dX9_arrive_46 : decode cX9_arrive 46 = .ok (.iload_n 2, 1) := by decide +kernel
theorem dX9_arrive_47 : decode cX9_arrive 47 = .ok (.iload_n 3, 1) := by decide +kernel
theorem dX9_arrive_48 : decode cX9_arrive 48 = .ok (.iload 4, 2) := by decide +kernel
theorem dX9_arrive_50 : decode cX9_arrive 50 = .ok (.invokevirtual 88, 3) := by decide +kernel
theorem dX9_arrive_53 : decode cX9_arrive 53 = .ok (.ifCond .eq 6, 3) := by decide +kernel
theorem dX9_arrive_56 : decode cX9_arrive 56 = .ok (.bipush (-3), 2) := by decide +kernel
theorem dX9_arrive_58 : decode cX9_arrive 58 = .ok (.ireturn, 1) := by decide +kernel
theorem dX9_arrive_59 : decode cX9_arrive 59 = .ok (.aload_n 0, 1) := by decide +kernel
theorem dX9_arrive_60 : decode cX9_arrive 60 = .ok (.getfield 78, 3) := by decide +kernel
theorem dX9_arrive_63 : decode cX9_arrive 63 = .ok (.bipush 120, 2) := by decide +kernel
theorem dX9_arrive_65 : decode cX9_arrive 65 = .ok (.if_icmp .ne 6, 3) := by decide +kernel
theorem dX9_arrive_68 : decode cX9_arrive 68 = .ok (.bipush (-4), 2) := by decide +kernel
theorem dX9_arrive_70 : decode cX9_arrive 70 = .ok (.ireturn, 1) := by decide +kernel
theorem dX9_arrive_71 : decode cX9_arrive 71 = .ok (.aload_n 0, 1) := by decide +kernel
theorem dX9_arrive_72 : decode cX9_arrive 72 = .ok (.getfield 23, 3) := by decide +kernel
theorem dX9_arrive_75 : decode cX9_arrive 75 = .ok (.aload_n 0, 1) := by decide +kernel
theorem dX9_arrive_76 : decode cX9_arrive 76 = .ok (.getfield 78, 3) := by decide +kernel
theorem dX9_arrive_79 : decode cX9_arrive 79 = .ok (.iload_n 1, 1) := by decide +kernel
theorem dX9_arrive_80 : decode cX9_arrive 80 = .ok (.iastore, 1) := by decide +kernel
theorem dX9_arrive_81 : decode cX9_arrive 81 = .ok (.aload_n 0, 1) := by decide +kernel
theorem dX9_arrive_82 : decode cX9_arrive 82 = .ok (.getfield 26, 3) := by decide +kernel
theorem dX9_arrive_85 : decode cX9_arrive 85 = .ok (.aload_n 0, 1) := by decide +kernel
theorem dX9_arrive_86 : decode cX9_arrive 86 = .ok (.getfield 78, 3) := by decide +kernel
theorem dX9_arrive_89 : decode cX9_arrive 89 = .ok (.iload 4, 2) := by decide +kernel
theorem dX9_arrive_91 : decode cX9_arrive 91 = .ok (.iastore, 1) := by decide +kernel
theorem dX9_arrive_92 : decode cX9_arrive 92 = .ok (.aload_n 0, 1) := by decide +kernel
theorem dX9_arrive_93 : decode cX9_arrive 93 = .ok (.getfield 32, 3) := by decide +kernel
theorem dX9_arrive_96 : decode cX9_arrive 96 = .ok (.iload_n 1, 1) := by decide +kernel
theorem dX9_arrive_97 : decode cX9_arrive 97 = .ok (.aload_n 0, 1) := by decide +kernel
theorem dX9_arrive_98 : decode cX9_arrive 98 = .ok (.getfield 78, 3) := by decide +kernel
theorem dX9_arrive_101 : decode cX9_arrive 101 = .ok (.iastore, 1) := by decide +kernel
theorem dX9_arrive_102 : decode cX9_arrive 102 = .ok (.aload_n 0, 1) := by decide +kernel
theorem dX9_arrive_103 : decode cX9_arrive 103 = .ok (.dup, 1) := by decide +kernel
theorem dX9_arrive_104 : decode cX9_arrive 104 = .ok (.getfield 78, 3) := by decide +kernel
theorem dX9_arrive_107 : decode cX9_arrive 107 = .ok (.iconst 1, 1) := by decide +kernel
theorem dX9_arrive_108 : decode cX9_arrive 108 = .ok (.iadd, 1) := by decide +kernel
theorem dX9_arrive_109 : decode cX9_arrive 109 = .ok (.putfield 78, 3) := by decide +kernel
theorem dX9_arrive_112 : decode cX9_arrive 112 = .ok (.aload_n 0, 1) := by decide +kernel
theorem dX9_arrive_113 : decode cX9_arrive 113 = .ok (.aload_n 0, 1) := by decide +kernel
theorem dX9_arrive_114 : decode cX9_arrive 114 = .ok (.getfield 78, 3) := by decide +kernel
theorem dX9_arrive_117 : decode cX9_arrive 117 = .ok (.iconst 1, 1) := by decide +kernel
theorem dX9_arrive_118 : decode cX9_arrive 118 = .ok (.isub, 1) := by decide +kernel
theorem dX9_arrive_119 : decode cX9_arrive 119 = .ok (.invokevirtual 91, 3) := by decide +kernel
theorem dX9_arrive_122 : decode cX9_arrive 122 = .ok (.aload_n 0, 1) := by decide +kernel
theorem dX9_arrive_123 : decode cX9_arrive 123 = .ok (.iload_n 2, 1) := by decide +kernel
theorem dX9_arrive_124 : decode cX9_arrive 124 = .ok (.invokevirtual 81, 3) := by decide +kernel
theorem dX9_arrive_127 : decode cX9_arrive 127 = .ok (.istore 5, 2) := by decide +kernel
theorem dX9_arrive_129 : decode cX9_arrive 129 = .ok (.iload 5, 2) := by decide +kernel
theorem dX9_arrive_131 : decode cX9_arrive 131 = .ok (.bipush (-9), 2) := by decide +kernel
theorem dX9_arrive_133 : decode cX9_arrive 133 = .ok (.if_icmp .ne 59, 3) := by decide +kernel
theorem dX9_arrive_136 : decode cX9_arrive 136 = .ok (.aload_n 0, 1) := by decide +kernel
theorem dX9_arrive_137 : decode cX9_arrive 137 = .ok (.getfield 75, 3) := by decide +kernel
theorem dX9_arrive_140 : decode cX9_arrive 140 = .ok (.istore 5, 2) := by decide +kernel
theorem dX9_arrive_142 : decode cX9_arrive 142 = .ok (.aload_n 0, 1) := by decide +kernel
theorem dX9_arrive_143 : decode cX9_arrive 143 = .ok (.getfield 35, 3) := by decide +kernel
theorem dX9_arrive_146 : decode cX9_arrive 146 = .ok (.iload 5, 2) := by decide +kernel
theorem dX9_arrive_148 : decode cX9_arrive 148 = .ok (.iload_n 2, 1) := by decide +kernel
theorem dX9_arrive_149 : decode cX9_arrive 149 = .ok (.iastore, 1) := by decide +kernel
theorem dX9_arrive_150 : decode cX9_arrive 150 = .ok (.aload_n 0, 1) := by decide +kernel
theorem dX9_arrive_151 : decode cX9_arrive 151 = .ok (.getfield 38, 3) := by decide +kernel
theorem dX9_arrive_154 : decode cX9_arrive 154 = .ok (.iload 5, 2) := by decide +kernel
theorem dX9_arrive_156 : decode cX9_arrive 156 = .ok (.iload_n 3, 1) := by decide +kernel
theorem dX9_arrive_157 : decode cX9_arrive 157 = .ok (.iastore, 1) := by decide +kernel
theorem dX9_arrive_158 : decode cX9_arrive 158 = .ok (.aload_n 0, 1) := by decide +kernel
theorem dX9_arrive_159 : decode cX9_arrive 159 = .ok (.getfield 44, 3) := by decide +kernel
theorem dX9_arrive_162 : decode cX9_arrive 162 = .ok (.iload 5, 2) := by decide +kernel
theorem dX9_arrive_164 : decode cX9_arrive 164 = .ok (.aload_n 0, 1) := by decide +kernel
theorem dX9_arrive_165 : decode cX9_arrive 165 = .ok (.getfield 69, 3) := by decide +kernel
theorem dX9_arrive_168 : decode cX9_arrive 168 = .ok (.iastore, 1) := by decide +kernel
theorem dX9_arrive_169 : decode cX9_arrive 169 = .ok (.aload_n 0, 1) := by decide +kernel
theorem dX9_arrive_170 : decode cX9_arrive 170 = .ok (.getfield 41, 3) := by decide +kernel
theorem dX9_arrive_173 : decode cX9_arrive 173 = .ok (.iload 5, 2) := by decide +kernel
theorem dX9_arrive_175 : decode cX9_arrive 175 = .ok (.aload_n 0, 1) := by decide +kernel
theorem dX9_arrive_176 : decode cX9_arrive 176 = .ok (.iload_n 2, 1) := by decide +kernel
theorem dX9_arrive_177 : decode cX9_arrive 177 = .ok (.iload_n 3, 1) := by decide +kernel
theorem dX9_arrive_178 : decode cX9_arrive 178 = .ok (.invokevirtual 95, 3) := by decide +kernel
theorem dX9_arrive_181 : decode cX9_arrive 181 = .ok (.iastore, 1) := by decide +kernel
theorem dX9_arrive_182 : decode cX9_arrive 182 = .ok (.aload_n 0, 1) := by decide +kernel
theorem dX9_arrive_183 : decode cX9_arrive 183 = .ok (.dup, 1) := by decide +kernel
theorem dX9_arrive_184 : decode cX9_arrive 184 = .ok (.getfield 75, 3) := by decide +kernel
theorem dX9_arrive_187 : decode cX9_arrive 187 = .ok (.iconst 1, 1) := by decide +kernel
theorem dX9_arrive_188 : decode cX9_arrive 188 = .ok (.iadd, 1) := by decide +kernel
theorem dX9_arrive_189 : decode cX9_arrive 189 = .ok (.putfield 75, 3) := by decide +kernel
theorem dX9_arrive_192 : decode cX9_arrive 192 = .ok (.aload_n 0, 1) := by decide +kernel
theorem dX9_arrive_193 : decode cX9_arrive 193 = .ok (.getfield 29, 3) := by decide +kernel
theorem dX9_arrive_196 : decode cX9_arrive 196 = .ok (.aload_n 0, 1) := by decide +kernel
theorem dX9_arrive_197 : decode cX9_arrive 197 = .ok (.getfield 78, 3) := by decide +kernel
theorem dX9_arrive_200 : decode cX9_arrive 200 = .ok (.iconst 1, 1) := by decide +kernel
theorem dX9_arrive_201 : decode cX9_arrive 201 = .ok (.isub, 1) := by decide +kernel
theorem dX9_arrive_202 : decode cX9_arrive 202 = .ok (.iload 5, 2) := by decide +kernel
theorem dX9_arrive_204 : decode cX9_arrive 204 = .ok (.iastore, 1) := by decide +kernel
theorem dX9_arrive_205 : decode cX9_arrive 205 = .ok (.iload 5, 2) := by decide +kernel
theorem dX9_arrive_207 : decode cX9_arrive 207 = .ok (.ireturn, 1) := by decide +kernel
set_option maxRecDepth 20000 in
theorem ggX9_spikesBy_X9_delay : GoodIn wsX9_spikesBy wsX9_delay := goodIn_r _ [9, 10, 11, 12, 13, 14, 15, 16, 17, 18, 19, 20, 21, 22, 23, 24, 25, 26, 27, 28, 29, 30, 31, 32, 33, 34, 35, 36, 37, 38, 39] (by decide +kernel) (by decide +kernel)
set_option maxRecDepth 20000 in
theorem gX9_spikesBy_X9_delay : GoodIn wsX9_spikesBy (wsV RX9 103 RX9 yX9_delay wsX9_delay) := goodIn_app (goodIn_of _ (by decide +kernel)) ggX9_spikesBy_X9_delay
theorem dX9_spikesBy_0 : decode cX9_spikesBy 0 = .ok (.aload_n 0, 1) := by decide +kernel
theorem dX9_spikesBy_1 : decode cX9_spikesBy 1 = .ok (.getfield 99, 3) := by decide +kernel
theorem dX9_spikesBy_4 : decode cX9_spikesBy 4 = .ok (.ifCond .eq 34, 3) := by decide +kernel
theorem dX9_spikesBy_7 : decode cX9_spikesBy 7 = .ok (.aload_n 0, 1) := by decide +kernel
theorem dX9_spikesBy_8 : decode cX9_spikesBy 8 = .ok (.aload_n 0, 1) := by decide +kernel
theorem dX9_spikesBy_9 : decode cX9_spikesBy 9 = .ok (.iload_n 1, 1) := by decide +kernel
theorem dX9_spikesBy_10 : decode cX9_spikesBy 10 = .ok (.invokevirtual 103, 3) := by decide +kernel
theorem dX9_spikesBy_13 : decode cX9_spikesBy 13 = .ok (.aload_n 0, 1) := by decide +kernel
theorem dX9_spikesBy_14 : decode cX9_spikesBy 14 = .ok (.getfield 106, 3) := by decide +kernel
theorem dX9_spikesBy_17 : decode cX9_spikesBy 17 = .ok (.aload_n 0, 1) := by decide +kernel
theorem dX9_spikesBy_18 : decode cX9_spikesBy 18 = .ok (.getfield 20, 3) := by decide +kernel
theorem dX9_spikesBy_21 : decode cX9_spikesBy 21 = .ok (.iconst 2, 1) := by decide +kernel
theorem dX9_spikesBy_22 : decode cX9_spikesBy 22 = .ok (.idiv, 1) := by decide +kernel
theorem dX9_spikesBy_23 : decode cX9_spikesBy 23 = .ok (.iadd, 1) := by decide +kernel
theorem dX9_spikesBy_24 : decode cX9_spikesBy 24 = .ok (.if_icmp .le 7, 3) := by decide +kernel
theorem dX9_spikesBy_27 : decode cX9_spikesBy 27 = .ok (.iconst 1, 1) := by decide +kernel
theorem dX9_spikesBy_28 : decode cX9_spikesBy 28 = .ok (.goto 4, 3) := by decide +kernel
theorem dX9_spikesBy_31 : decode cX9_spikesBy 31 = .ok (.iconst 0, 1) := by decide +kernel
theorem dX9_spikesBy_32 : decode cX9_spikesBy 32 = .ok (.putfield 99, 3) := by decide +kernel
theorem dX9_spikesBy_35 : decode cX9_spikesBy 35 = .ok (.goto 53, 3) := by decide +kernel
theorem dX9_spikesBy_38 : decode cX9_spikesBy 38 = .ok (.iload_n 1, 1) := by decide +kernel
theorem dX9_spikesBy_39 : decode cX9_spikesBy 39 = .ok (.ifCond .le 49, 3) := by decide +kernel
theorem dX9_spikesBy_42 : decode cX9_spikesBy 42 = .ok (.aload_n 0, 1) := by decide +kernel
theorem dX9_spikesBy_43 : decode cX9_spikesBy 43 = .ok (.iload_n 1, 1) := by decide +kernel
theorem dX9_spikesBy_44 : decode cX9_spikesBy 44 = .ok (.invokevirtual 103, 3) := by decide +kernel
theorem dX9_spikesBy_47 : decode cX9_spikesBy 47 = .ok (.aload_n 0, 1) := by decide +kernel
theorem dX9_spikesBy_48 : decode cX9_spikesBy 48 = .ok (.iload_n 1, 1) := by decide +kernel
theorem dX9_spikesBy_49 : decode cX9_spikesBy 49 = .ok (.iconst 1, 1) := by decide +kernel
theorem dX9_spikesBy_50 : decode cX9_spikesBy 50 = .ok (.isub, 1) := by decide +kernel
theorem dX9_spikesBy_51 : decode cX9_spikesBy 51 = .ok (.invokevirtual 103, 3) := by decide +kernel
theorem dX9_spikesBy_54 : decode cX9_spikesBy 54 = .ok (.aload_n 0, 1) := by decide +kernel
theorem dX9_spikesBy_55 : decode cX9_spikesBy 55 = .ok (.getfield 20, 3) := by decide +kernel
theorem dX9_spikesBy_58 : decode cX9_spikesBy 58 = .ok (.iadd, 1) := by decide +kernel
theorem dX9_spikesBy_59 : decode cX9_spikesBy 59 = .ok (.if_icmp .lt 29, 3) := by decide +kernel
theorem dX9_spikesBy_62 : decode cX9_spikesBy 62 = .ok (.aload_n 0, 1) := by decide +kernel
theorem dX9_spikesBy_63 : decode cX9_spikesBy 63 = .ok (.iconst 1, 1) := by decide +kernel
theorem dX9_spikesBy_64 : decode cX9_spikesBy 64 = .ok (.putfield 99, 3) := by decide +kernel
theorem dX9_spikesBy_67 : decode cX9_spikesBy 67 = .ok (.aload_n 0, 1) := by decide +kernel
theorem dX9_spikesBy_68 : decode cX9_spikesBy 68 = .ok (.aload_n 0, 1) := by decide +kernel
theorem dX9_spikesBy_69 : decode cX9_spikesBy 69 = .ok (.iload_n 1, 1) := by decide +kernel
theorem dX9_spikesBy_70 : decode cX9_spikesBy 70 = .ok (.iconst 1, 1) := by decide +kernel
theorem dX9_spikesBy_71 : decode cX9_spikesBy 71 = .ok (.isub, 1) := by decide +kernel
theorem dX9_spikesBy_72 : decode cX9_spikesBy 72 = .ok (.invokevirtual 103, 3) := by decide +kernel
theorem dX9_spikesBy_75 : decode cX9_spikesBy 75 = .ok (.putfield 106, 3) := by decide +kernel
theorem dX9_spikesBy_78 : decode cX9_spikesBy 78 = .ok (.aload_n 0, 1) := by decide +kernel
theorem dX9_spikesBy_79 : decode cX9_spikesBy 79 = .ok (.dup, 1) := by decide +kernel
theorem dX9_spikesBy_80 : decode cX9_spikesBy 80 = .ok (.getfield 109, 3) := by decide +kernel
theorem dX9_spikesBy_83 : decode cX9_spikesBy 83 = .ok (.iconst 1, 1) := by decide +kernel
theorem dX9_spikesBy_84 : decode cX9_spikesBy 84 = .ok (.iadd, 1) := by decide +kernel
theorem dX9_spikesBy_85 : decode cX9_spikesBy 85 = .ok (.putfield 109, 3) := by decide +kernel
theorem dX9_spikesBy_88 : decode cX9_spikesBy 88 = .ok (.return_, 1) := by decide +kernel
theorem dX9_anew_0 : decode cX9_anew 0 = .ok (.aload_n 0, 1) := by decide +kernel
theorem dX9_anew_1 : decode cX9_anew 1 = .ok (.getfield 78, 3) := by decide +kernel
theorem dX9_anew_4 : decode cX9_anew 4 = .ok (.istore_n 1, 1) := by decide +kernel
theorem dX9_anew_5 : decode cX9_anew 5 = .ok (.iconst 0, 1) := by decide +kernel
theorem dX9_anew_6 : decode cX9_anew 6 = .ok (.istore_n 2, 1) := by decide +kernel
theorem dX9_anew_7 : decode cX9_anew 7 = .ok (.iload_n 2, 1) := by decide +kernel
theorem dX9_anew_8 : decode cX9_anew 8 = .ok (.sipush 300, 3) := by decide +kernel
theorem dX9_anew_11 : decode cX9_anew 11 = .ok (.if_icmp .ge 17, 3) := by decide +kernel
theorem dX9_anew_14 : decode cX9_anew 14 = .ok (.aload_n 0, 1) := by decide +kernel
theorem dX9_anew_15 : decode cX9_anew 15 = .ok (.getfield 32, 3) := by decide +kernel
theorem dX9_anew_18 : decode cX9_anew 18 = .ok (.iload_n 2, 1) := by decide +kernel
theorem dX9_anew_19 : decode cX9_anew 19 = .ok (.bipush (-9), 2) := by decide +kernel
theorem dX9_anew_21 : decode cX9_anew 21 = .ok (.iastore, 1) := by decide +kernel
theorem dX9_anew_22 : decode cX9_anew 22 = .ok (.iinc 2 1, 3) := by decide +kernel
theorem dX9_anew_25 : decode cX9_anew 25 = .ok (.goto (-18), 3) := by decide +kernel
theorem dX9_anew_28 : decode cX9_anew 28 = .ok (.aload_n 0, 1) := by decide +kernel
theorem dX9_anew_29 : decode cX9_anew 29 = .ok (.iconst 0, 1) := by decide +kernel
theorem dX9_anew_30 : decode cX9_anew 30 = .ok (.putfield 78, 3) := by decide +kernel
theorem dX9_anew_33 : decode cX9_anew 33 = .ok (.aload_n 0, 1) := by decide +kernel
theorem dX9_anew_34 : decode cX9_anew 34 = .ok (.iconst 0, 1) := by decide +kernel
theorem dX9_anew_35 : decode cX9_anew 35 = .ok (.putfield 75, 3) := by decide +kernel
theorem dX9_anew_38 : decode cX9_anew 38 = .ok (.aload_n 0, 1) := by decide +kernel
theorem dX9_anew_39 : decode cX9_anew 39 = .ok (.iconst 0, 1) := by decide +kernel
theorem dX9_anew_40 : decode cX9_anew 40 = .ok (.putfield 99, 3) := by decide +kernel
theorem dX9_anew_43 : decode cX9_anew 43 = .ok (.aload_n 0, 1) := by decide +kernel
theorem dX9_anew_44 : decode cX9_anew 44 = .ok (.iconst 0, 1) := by decide +kernel
theorem dX9_anew_45 : decode cX9_anew 45 = .ok (.putfield 109, 3) := by decide +kernel
theorem dX9_anew_48 : decode cX9_anew 48 = .ok (.iload_n 1, 1) := by decide +kernel
theorem dX9_anew_49 : decode cX9_anew 49 = .ok (.ireturn, 1) := by decide +kernel
theorem dX9_oldest_0 : decode cX9_oldest 0 = .ok (.aload_n 0, 1) := by decide +kernel
theorem dX9_oldest_1 : decode cX9_oldest 1 = .ok (.getfield 78, 3) := by decide +kernel
theorem dX9_oldest_4 : decode cX9_oldest 4 = .ok (.bipush 32, 2) := by decide +kernel
theorem dX9_oldest_6 : decode cX9_oldest 6 = .ok (.if_icmp .le 13, 3) := by decide +kernel
theorem dX9_oldest_9 : decode cX9_oldest 9 = .ok (.aload_n 0, 1) := by decide +kernel
theorem dX9_oldest_10 : decode cX9_oldest 10 = .ok (.getfield 78, 3) := by decide +kernel
theorem dX9_oldest_13 : decode cX9_oldest 13 = .ok (.bipush 32, 2) := by decide +kernel
theorem dX9_oldest_15 : decode cX9_oldest 15 = .ok (.isub, 1) := by decide +kernel
theorem dX9_oldest_16 : decode cX9_oldest 16 = .ok (.goto 4, 3) := by decide +kernel
theorem dX9_oldest_19 : decode cX9_oldest 19 = .ok (.iconst 0, 1) := by decide +kernel
theorem dX9_oldest_20 : decode cX9_oldest 20 = .ok (.ireturn, 1) := by decide +kernel
set_option maxRecDepth 20000 in
theorem ggX9_leastBy_X9_oldest : GoodIn wsX9_leastBy wsX9_oldest := goodIn_r _ [7, 1, 8, 9, 10, 11, 12, 13, 14, 15, 16, 17, 18, 19, 20, 21, 22, 23, 24, 25, 26, 27, 28, 29, 30, 31, 32, 33, 34, 35] (by decide +kernel) (by decide +kernel)
set_option maxRecDepth 20000 in
theorem gX9_leastBy_X9_oldest : GoodIn wsX9_leastBy (wsV RX9 112 RX9 yX9_oldest wsX9_oldest) := goodIn_app (goodIn_of _ (by decide +kernel)) ggX9_leastBy_X9_oldest
theorem dX9_leastBy_0 : decode cX9_leastBy 0 = .ok (.lconst 0, 1) := by decide +kernel
theorem dX9_leastBy_1 : decode cX9_leastBy 1 = .ok (.lstore_n 2, 1) := by decide +kernel
theorem dX9_leastBy_2 : decode cX9_leastBy 2 = .ok (.iconst 0, 1) := by decide +kernel
theorem dX9_leastBy_3 : decode cX9_leastBy 3 = .ok (.istore 4, 2) := by decide +kernel
theorem dX9_leastBy_5 : decode cX9_leastBy 5 = .ok (.aload_n 0, 1) := by decide +kernel
theorem dX9_leastBy_6 : decode cX9_leastBy 6 = .ok (.invokevirtual 112, 3) := by decide +kernel
theorem dX9_leastBy_9 : decode cX9_leastBy 9 = .ok (.istore 5, 2) := by decide +kernel
theorem dX9_leastBy_11 : decode cX9_leastBy 11 = .ok (.iload 5, 2) := by decide +kernel
theorem dX9_leastBy_13 : decode cX9_leastBy 13 = .ok (.aload_n 0, 1) := by decide +kernel
theorem dX9_leastBy_14 : decode cX9_leastBy 14 = .ok (.getfield 78, 3) := by decide +kernel
theorem dX9_leastBy_17 : decode cX9_leastBy 17 = .ok (.if_icmp .ge 139, 3) := by decide +kernel
theorem dX9_leastBy_20 : decode cX9_leastBy 20 = .ok (.iconst 0, 1) := by decide +kernel
theorem dX9_leastBy_21 : decode cX9_leastBy 21 = .ok (.istore 6, 2) := by decide +kernel
theorem dX9_leastBy_23 : decode cX9_leastBy 23 = .ok (.aload_n 0, 1) := by decide +kernel
theorem dX9_leastBy_24 : decode cX9_leastBy 24 = .ok (.invokevirtual 112, 3) := by decide +kernel
theorem dX9_leastBy_27 : decode cX9_leastBy 27 = .ok (.istore 7, 2) := by decide +kernel
theorem dX9_leastBy_29 : decode cX9_leastBy 29 = .ok (.iload 7, 2) := by decide +kernel
theorem dX9_leastBy_31 : decode cX9_leastBy 31 = .ok (.aload_n 0, 1) := by decide +kernel
theorem dX9_leastBy_32 : decode cX9_leastBy 32 = .ok (.getfield 78, 3) := by decide +kernel
theorem dX9_leastBy_35 : decode cX9_leastBy 35 = .ok (.if_icmp .ge 37, 3) := by decide +kernel
theorem dX9_leastBy_38 : decode cX9_leastBy 38 = .ok (.iload 6, 2) := by decide +kernel
theorem dX9_leastBy_40 : decode cX9_leastBy 40 = .ok (.aload_n 0, 1) := by decide +kernel
theorem dX9_leastBy_41 : decode cX9_leastBy 41 = .ok (.getfield 47, 3) := by decide +kernel
theorem dX9_leastBy_44 : decode cX9_leastBy 44 = .ok (.iload 7, 2) := by decide +kernel
theorem dX9_leastBy_46 : decode cX9_leastBy 46 = .ok (.laload, 1) := by decide +kernel
theorem dX9_leastBy_47 : decode cX9_leastBy 47 = .ok (.aload_n 0, 1) := by decide +kernel
theorem dX9_leastBy_48 : decode cX9_leastBy 48 = .ok (.getfield 47, 3) := by decide +kernel
theorem dX9_leastBy_51 : decode cX9_leastBy 51 = .ok (.iload 5, 2) := by decide +kernel
theorem dX9_leastBy_53 : decode cX9_leastBy 53 = .ok (.laload, 1) := by decide +kernel
theorem dX9_leastBy_54 : decode cX9_leastBy 54 = .ok (.lcmp, 1) := by decide +kernel
theorem dX9_leastBy_55 : decode cX9_leastBy 55 = .ok (.ifCond .le 7, 3) := by decide +kernel
theorem dX9_leastBy_58 : decode cX9_leastBy 58 = .ok (.iconst 1, 1) := by decide +kernel
theorem dX9_leastBy_59 : decode cX9_leastBy 59 = .ok (.goto 4, 3) := by decide +kernel
theorem dX9_leastBy_62 : decode cX9_leastBy 62 = .ok (.iconst 0, 1) := by decide +kernel
theorem dX9_leastBy_63 : decode cX9_leastBy 63 = .ok (.iadd, 1) := by decide +kernel
theorem dX9_leastBy_64 : decode cX9_leastBy 64 = .ok (.istore 6, 2) := by decide +kernel
theorem dX9_leastBy_66 : decode cX9_leastBy 66 = .ok (.iinc 7 1, 3) := by decide +kernel
theorem dX9_leastBy_69 : decode cX9_leastBy 69 = .ok (.goto (-40), 3) := by decide +kernel
theorem dX9_leastBy_72 : decode cX9_leastBy 72 = .ok (.sipush 256, 3) := by decide +kernel
theorem dX9_leastBy_75 : decode cX9_leastBy 75 = .ok (.iload 6, 2) := by decide +kernel
theorem dX9_leastBy_77 : decode cX9_leastBy 77 = .ok (.imul, 1) := by decide +kernel
theorem dX9_leastBy_78 : decode cX9_leastBy 78 = .ok (.iload_n 1, 1) := by decide +kernel
theorem dX9_leastBy_79 : decode cX9_leastBy 79 = .ok (.aload_n 0, 1) := by decide +kernel
theorem dX9_leastBy_80 : decode cX9_leastBy 80 = .ok (.getfield 78, 3) := by decide +kernel
theorem dX9_leastBy_83 : decode cX9_leastBy 83 = .ok (.aload_n 0, 1) := by decide +kernel
theorem dX9_leastBy_84 : decode cX9_leastBy 84 = .ok (.invokevirtual 112, 3) := by decide +kernel
theorem dX9_leastBy_87 : decode cX9_leastBy 87 = .ok (.isub, 1) := by decide +kernel
theorem dX9_leastBy_88 : decode cX9_leastBy 88 = .ok (.imul, 1) := by decide +kernel
theorem dX9_leastBy_89 : decode cX9_leastBy 89 = .ok (.if_icmp .gt 7, 3) := by decide +kernel
theorem dX9_leastBy_92 : decode cX9_leastBy 92 = .ok (.iconst 1, 1) := by decide +kernel
theorem dX9_leastBy_93 : decode cX9_leastBy 93 = .ok (.goto 4, 3) := by decide +kernel
theorem dX9_leastBy_96 : decode cX9_leastBy 96 = .ok (.iconst 0, 1) := by decide +kernel
theorem dX9_leastBy_97 : decode cX9_leastBy 97 = .ok (.istore 7, 2) := by decide +kernel
theorem dX9_leastBy_99 : decode cX9_leastBy 99 = .ok (.iload 7, 2) := by decide +kernel
theorem dX9_leastBy_101 : decode cX9_leastBy 101 = .ok (.ifCond .eq 30, 3) := by decide +kernel
theorem dX9_leastBy_104 : decode cX9_leastBy 104 = .ok (.iload 4, 2) := by decide +kernel
theorem dX9_leastBy_106 : decode cX9_leastBy 106 = .ok (.ifCond .eq 15, 3) := by decide +kernel
theorem dX9_leastBy_109 : decode cX9_leastBy 109 = .ok (.aload_n 0, 1) := by decide +kernel
theorem dX9_leastBy_110 : decode cX9_leastBy 110 = .ok (.getfield 47, 3) := by decide +kernel
theorem dX9_leastBy_113 : decode cX9_leastBy 113 = .ok (.iload 5, 2) := by decide +kernel
theorem dX9_leastBy_115 : decode cX9_leastBy 115 = .ok (.laload, 1) := by decide +kernel
theorem dX9_leastBy_116 : decode cX9_leastBy 116 = .ok (.lload_n 2, 1) := by decide +kernel
theorem dX9_leastBy_117 : decode cX9_leastBy 117 = .ok (.lcmp, 1) := by decide +kernel
theorem dX9_leastBy_118 : decode cX9_leastBy 118 = .ok (.ifCond .ge 13, 3) := by decide +kernel
theorem dX9_leastBy_121 : decode cX9_leastBy 121 = .ok (.aload_n 0, 1) := by decide +kernel
theorem dX9_leastBy_122 : decode cX9_leastBy 122 = .ok (.getfield 47, 3) := by decide +kernel
theorem dX9_leastBy_125 : decode cX9_leastBy 125 = .ok (.iload 5, 2) := by decide +kernel
theorem dX9_leastBy_127 : decode cX9_leastBy 127 = .ok (.laload, 1) := by decide +kernel
theorem dX9_leastBy_128 : decode cX9_leastBy 128 = .ok (.goto 4, 3) := by decide +kernel
theorem dX9_leastBy_131 : decode cX9_leastBy 131 = .ok (.lload_n 2, 1) := by decide +kernel
theorem dX9_leastBy_132 : decode cX9_leastBy 132 = .ok (.lstore_n 2, 1) := by decide +kernel
theorem dX9_leastBy_133 : decode cX9_leastBy 133 = .ok (.iload 4, 2) := by decide +kernel
theorem dX9_leastBy_135 : decode cX9_leastBy 135 = .ok (.ifCond .ne 8, 3) := by decide +kernel
theorem dX9_leastBy_138 : decode cX9_leastBy 138 = .ok (.iload 7, 2) := by decide +kernel
theorem dX9_leastBy_140 : decode cX9_leastBy 140 = .ok (.ifCond .eq 7, 3) := by decide +kernel
theorem dX9_leastBy_143 : decode cX9_leastBy 143 = .ok (.iconst 1, 1) := by decide +kernel
theorem dX9_leastBy_144 : decode cX9_leastBy 144 = .ok (.goto 4, 3) := by decide +kernel
theorem dX9_leastBy_147 : decode cX9_leastBy 147 = .ok (.iconst 0, 1) := by decide +kernel
theorem dX9_leastBy_148 : decode cX9_leastBy 148 = .ok (.istore 4, 2) := by decide +kernel
theorem dX9_leastBy_150 : decode cX9_leastBy 150 = .ok (.iinc 5 1, 3) := by decide +kernel
theorem dX9_leastBy_153 : decode cX9_leastBy 153 = .ok (.goto (-142), 3) := by decide +kernel
theorem dX9_leastBy_156 : decode cX9_leastBy 156 = .ok (.lload_n 2, 1) := by decide +kernel
theorem dX9_leastBy_157 : decode cX9_leastBy 157 = .ok (.lreturn, 1) := by decide +kernel
set_option maxRecDepth 20000 in
theorem ggX9_latelyMost_X9_oldest : GoodIn wsX9_latelyMost wsX9_oldest := goodIn_r _ [7, 2, 8, 9, 10, 11, 12, 13, 14, 15, 16, 17, 18, 19, 20, 21, 22, 23, 24, 25, 26, 27, 28, 29, 30, 31, 32, 33, 34, 35] (by decide +kernel) (by decide +kernel)
set_option maxRecDepth 20000 in
theorem gX9_latelyMost_X9_oldest : GoodIn wsX9_latelyMost (wsV RX9 112 RX9 yX9_oldest wsX9_oldest) := goodIn_app (goodIn_of _ (by decide +kernel)) ggX9_latelyMost_X9_oldest
theorem dX9_latelyMost_0 : decode cX9_latelyMost 0 = .ok (.aload_n 0, 1) := by decide +kernel
theorem dX9_latelyMost_1 : decode cX9_latelyMost 1 = .ok (.getfield 47, 3) := by decide +kernel
theorem dX9_latelyMost_4 : decode cX9_latelyMost 4 = .ok (.aload_n 0, 1) := by decide +kernel
theorem dX9_latelyMost_5 : decode cX9_latelyMost 5 = .ok (.getfield 78, 3) := by decide +kernel
theorem dX9_latelyMost_8 : decode cX9_latelyMost 8 = .ok (.iconst 1, 1) := by decide +kernel
theorem dX9_latelyMost_9 : decode cX9_latelyMost 9 = .ok (.isub, 1) := by decide +kernel
theorem dX9_latelyMost_10 : decode cX9_latelyMost 10 = .ok (.laload, 1) := by decide +kernel
theorem dX9_latelyMost_11 : decode cX9_latelyMost 11 = .ok (.lstore_n 1, 1) := by decide +kernel
theorem dX9_latelyMost_12 : decode cX9_latelyMost 12 = .ok (.aload_n 0, 1) := by decide +kernel
theorem dX9_latelyMost_13 : decode cX9_latelyMost 13 = .ok (.getfield 78, 3) := by decide +kernel
theorem dX9_latelyMost_16 : decode cX9_latelyMost 16 = .ok (.iconst 1, 1) := by decide +kernel
theorem dX9_latelyMost_17 : decode cX9_latelyMost 17 = .ok (.isub, 1) := by decide +kernel
theorem dX9_latelyMost_18 : decode cX9_latelyMost 18 = .ok (.istore_n 3, 1) := by decide +kernel
theorem dX9_latelyMost_19 : decode cX9_latelyMost 19 = .ok (.iload_n 3, 1) := by decide +kernel
theorem dX9_latelyMost_20 : decode cX9_latelyMost 20 = .ok (.aload_n 0, 1) := by decide +kernel
theorem dX9_latelyMost_21 : decode cX9_latelyMost 21 = .ok (.invokevirtual 112, 3) := by decide +kernel
theorem dX9_latelyMost_24 : decode cX9_latelyMost 24 = .ok (.if_icmp .lt 41, 3) := by decide +kernel
theorem dX9_latelyMost_27 : decode cX9_latelyMost 27 = .ok (.iload_n 3, 1) := by decide +kernel
theorem dX9_latelyMost_28 : decode cX9_latelyMost 28 = .ok (.aload_n 0, 1) := by decide +kernel
theorem dX9_latelyMost_29 : decode cX9_latelyMost 29 = .ok (.getfield 78, 3) := by decide +kernel
theorem dX9_latelyMost_32 : decode cX9_latelyMost 32 = .ok (.iconst 4, 1) := by decide +kernel
theorem dX9_latelyMost_33 : decode cX9_latelyMost 33 = .ok (.isub, 1) := by decide +kernel
theorem dX9_latelyMost_34 : decode cX9_latelyMost 34 = .ok (.if_icmp .le 31, 3) := by decide +kernel
theorem dX9_latelyMost_37 : decode cX9_latelyMost 37 = .ok (.aload_n 0, 1) := by decide +kernel
theorem dX9_latelyMost_38 : decode cX9_latelyMost 38 = .ok (.getfield 47, 3) := by decide +kernel
theorem dX9_latelyMost_41 : decode cX9_latelyMost 41 = .ok (.iload_n 3, 1) := by decide +kernel
theorem dX9_latelyMost_42 : decode cX9_latelyMost 42 = .ok (.laload, 1) := by decide +kernel
theorem dX9_latelyMost_43 : decode cX9_latelyMost 43 = .ok (.lload_n 1, 1) := by decide +kernel
theorem dX9_latelyMost_44 : decode cX9_latelyMost 44 = .ok (.lcmp, 1) := by decide +kernel
theorem dX9_latelyMost_45 : decode cX9_latelyMost 45 = .ok (.ifCond .le 12, 3) := by decide +kernel
theorem dX9_latelyMost_48 : decode cX9_latelyMost 48 = .ok (.aload_n 0, 1) := by decide +kernel
theorem dX9_latelyMost_49 : decode cX9_latelyMost 49 = .ok (.getfield 47, 3) := by decide +kernel
theorem dX9_latelyMost_52 : decode cX9_latelyMost 52 = .ok (.iload_n 3, 1) := by decide +kernel
theorem dX9_latelyMost_53 : decode cX9_latelyMost 53 = .ok (.laload, 1) := by decide +kernel
theorem dX9_latelyMost_54 : decode cX9_latelyMost 54 = .ok (.goto 4, 3) := by decide +kernel
theorem dX9_latelyMost_57 : decode cX9_latelyMost 57 = .ok (.lload_n 1, 1) := by decide +kernel
theorem dX9_latelyMost_58 : decode cX9_latelyMost 58 = .ok (.lstore_n 1, 1) := by decide +kernel
theorem dX9_latelyMost_59 : decode cX9_latelyMost 59 = .ok (.iinc 3 (-1), 3) := by decide +kernel
theorem dX9_latelyMost_62 : decode cX9_latelyMost 62 = .ok (.goto (-43), 3) := by decide +kernel
theorem dX9_latelyMost_65 : decode cX9_latelyMost 65 = .ok (.lload_n 1, 1) := by decide +kernel
theorem dX9_latelyMost_66 : decode cX9_latelyMost 66 = .ok (.lreturn, 1) := by decide +kernel
set_option maxRecDepth 20000 in
theorem ggX9_farBy_X9_oldest : GoodIn wsX9_farBy wsX9_oldest := goodIn_r _ [7, 1, 11, 12, 13, 14, 15, 16, 17, 18, 19, 20, 21, 22, 23, 24, 25, 26, 27, 28, 29, 30, 31, 32, 33, 34, 35, 36, 37, 38] (by decide +kernel) (by decide +kernel)
set_option maxRecDepth 20000 in
theorem gX9_farBy_X9_oldest : GoodIn wsX9_farBy (wsV RX9 112 RX9 yX9_oldest wsX9_oldest) := goodIn_app (goodIn_of _ (by decide +kernel)) ggX9_farBy_X9_oldest
set_option maxRecDepth 20000 in
theorem ggX9_farBy_X9_down : GoodIn wsX9_farBy wsX9_down := goodIn_r _ [10] (by decide +kernel) (by decide +kernel)
set_option maxRecDepth 20000 in
theorem gX9_farBy_X9_down : GoodIn wsX9_farBy (va_wsS RX9 115 yX9_down wsX9_down) := goodIn_app (goodIn_of _ (by decide +kernel)) ggX9_farBy_X9_down
theorem dX9_farBy_0 : decode cX9_farBy 0 = .ok (.aload_n 0, 1) := by decide +kernel
theorem dX9_farBy_1 : decode cX9_farBy 1 = .ok (.getfield 78, 3) := by decide +kernel
theorem dX9_farBy_4 : decode cX9_farBy 4 = .ok (.aload_n 0, 1) := by decide +kernel
theorem dX9_farBy_5 : decode cX9_farBy 5 = .ok (.invokevirtual 112, 3) := by decide +kernel
theorem dX9_farBy_8 : decode cX9_farBy 8 = .ok (.isub, 1) := by decide +kernel
theorem dX9_farBy_9 : decode cX9_farBy 9 = .ok (.i2l, 1) := by decide +kernel
theorem dX9_farBy_10 : decode cX9_farBy 10 = .ok (.lstore_n 2, 1) := by decide +kernel
theorem dX9_farBy_11 : decode cX9_farBy 11 = .ok (.lconst 0, 1) := by decide +kernel
theorem dX9_farBy_12 : decode cX9_farBy 12 = .ok (.lstore 4, 2) := by decide +kernel
theorem dX9_farBy_14 : decode cX9_farBy 14 = .ok (.lconst 0, 1) := by decide +kernel
theorem dX9_farBy_15 : decode cX9_farBy 15 = .ok (.lstore 6, 2) := by decide +kernel
theorem dX9_farBy_17 : decode cX9_farBy 17 = .ok (.aload_n 0, 1) := by decide +kernel
theorem dX9_farBy_18 : decode cX9_farBy 18 = .ok (.invokevirtual 112, 3) := by decide +kernel
theorem dX9_farBy_21 : decode cX9_farBy 21 = .ok (.istore 8, 2) := by decide +kernel
theorem dX9_farBy_23 : decode cX9_farBy 23 = .ok (.iload 8, 2) := by decide +kernel
theorem dX9_farBy_25 : decode cX9_farBy 25 = .ok (.aload_n 0, 1) := by decide +kernel
theorem dX9_farBy_26 : decode cX9_farBy 26 = .ok (.getfield 78, 3) := by decide +kernel
theorem dX9_farBy_29 : decode cX9_farBy 29 = .ok (.if_icmp .ge 21, 3) := by decide +kernel
theorem dX9_farBy_32 : decode cX9_farBy 32 = .ok (.lload 4, 2) := by decide +kernel
theorem dX9_farBy_34 : decode cX9_farBy 34 = .ok (.aload_n 0, 1) := by decide +kernel
theorem dX9_farBy_35 : decode cX9_farBy 35 = .ok (.getfield 47, 3) := by decide +kernel
theorem dX9_farBy_38 : decode cX9_farBy 38 = .ok (.iload 8, 2) := by decide +kernel
theorem dX9_farBy_40 : decode cX9_farBy 40 = .ok (.laload, 1) := by decide +kernel
theorem dX9_farBy_41 : decode cX9_farBy 41 = .ok (.ladd, 1) := by decide +kernel
theorem dX9_farBy_42 : decode cX9_farBy 42 = .ok (.lstore 4, 2) := by decide +kernel
theorem dX9_farBy_44 : decode cX9_farBy 44 = .ok (.iinc 8 1, 3) := by decide +kernel
theorem dX9_farBy_47 : decode cX9_farBy 47 = .ok (.goto (-24), 3) := by decide +kernel
theorem dX9_farBy_50 : decode cX9_farBy 50 = .ok (.lload 4, 2) := by decide +kernel
theorem dX9_farBy_52 : decode cX9_farBy 52 = .ok (.lload_n 2, 1) := by decide +kernel
theorem dX9_farBy_53 : decode cX9_farBy 53 = .ok (.invokestatic 115, 3) := by decide +kernel
theorem dX9_farBy_56 : decode cX9_farBy 56 = .ok (.lstore 8, 2) := by decide +kernel
theorem dX9_farBy_58 : decode cX9_farBy 58 = .ok (.aload_n 0, 1) := by decide +kernel
theorem dX9_farBy_59 : decode cX9_farBy 59 = .ok (.invokevirtual 112, 3) := by decide +kernel
theorem dX9_farBy_62 : decode cX9_farBy 62 = .ok (.istore 10, 2) := by decide +kernel
theorem dX9_farBy_64 : decode cX9_farBy 64 = .ok (.iload 10, 2) := by decide +kernel
theorem dX9_farBy_66 : decode cX9_farBy 66 = .ok (.aload_n 0, 1) := by decide +kernel
theorem dX9_farBy_67 : decode cX9_farBy 67 = .ok (.getfield 78, 3) := by decide +kernel
theorem dX9_farBy_70 : decode cX9_farBy 70 = .ok (.if_icmp .ge 50, 3) := by decide +kernel
theorem dX9_farBy_73 : decode cX9_farBy 73 = .ok (.lload 6, 2) := by decide +kernel
theorem dX9_farBy_75 : decode cX9_farBy 75 = .ok (.aload_n 0, 1) := by decide +kernel
theorem dX9_farBy_76 : decode cX9_farBy 76 = .ok (.getfield 47, 3) := by decide +kernel
theorem dX9_farBy_79 : decode cX9_farBy 79 = .ok (.iload 10, 2) := by decide +kernel
theorem dX9_farBy_81 : decode cX9_farBy 81 = .ok (.laload, 1) := by decide +kernel
theorem dX9_farBy_82 : decode cX9_farBy 82 = .ok (.lload 8, 2) := by decide +kernel
theorem dX9_farBy_84 : decode cX9_farBy 84 = .ok (.lcmp, 1) := by decide +kernel
theorem dX9_farBy_85 : decode cX9_farBy 85 = .ok (.ifCond .ge 16, 3) := by decide +kernel
theorem dX9_farBy_88 : decode cX9_farBy 88 = .ok (.lload 8, 2) := by decide +kernel
theorem dX9_farBy_90 : decode cX9_farBy 90 = .ok (.aload_n 0, 1) := by decide +kernel
theorem dX9_farBy_91 : decode cX9_farBy 91 = .ok (.getfield 47, 3) := by decide +kernel
theorem dX9_farBy_94 : decode cX9_farBy 94 = .ok (.iload 10, 2) := by decide +kernel
theorem dX9_farBy_96 : decode cX9_farBy 96 = .ok (.laload, 1) := by decide +kernel
theorem dX9_farBy_97 : decode cX9_farBy 97 = .ok (.lsub, 1) := by decide +kernel
theorem dX9_farBy_98 : decode cX9_farBy 98 = .ok (.goto 13, 3) := by decide +kernel
theorem dX9_farBy_101 : decode cX9_farBy 101 = .ok (.aload_n 0, 1) := by decide +kernel
theorem dX9_farBy_102 : decode cX9_farBy 102 = .ok (.getfield 47, 3) := by decide +kernel
theorem dX9_farBy_105 : decode cX9_farBy 105 = .ok (.iload 10, 2) := by decide +kernel
theorem dX9_farBy_107 : decode cX9_farBy 107 = .ok (.laload, 1) := by decide +kernel
theorem dX9_farBy_108 : decode cX9_farBy 108 = .ok (.lload 8, 2) := by decide +kernel
theorem dX9_farBy_110 : decode cX9_farBy 110 = .ok (.lsub, 1) := by decide +kernel
theorem dX9_farBy_111 : decode cX9_farBy 111 = .ok (.ladd, 1) := by decide +kernel
theorem dX9_farBy_112 : decode cX9_farBy 112 = .ok (.lstore 6, 2) := by decide +kernel
theorem dX9_farBy_114 : decode cX9_farBy 114 = .ok (.iinc 10 1, 3) := by decide +kernel
theorem dX9_farBy_117 : decode cX9_farBy 117 = .ok (.goto (-53), 3) := by decide +kernel
theorem dX9_farBy_120 : decode cX9_farBy 120 = .ok (.lload 8, 2) := by decide +kernel
theorem dX9_farBy_122 : decode cX9_farBy 122 = .ok (.iload_n 1, 1) := by decide +kernel
theorem dX9_farBy_123 : decode cX9_farBy 123 = .ok (.i2l, 1) := by decide +kernel
theorem dX9_farBy_124 : decode cX9_farBy 124 = .ok (.lload 6, 2) := by decide +kernel
theorem dX9_farBy_126 : decode cX9_farBy 126 = .ok (.lload_n 2, 1) := by decide +kernel
theorem dX9_farBy_127 : decode cX9_farBy 127 = .ok (.invokestatic 115, 3) := by decide +kernel
theorem dX9_farBy_130 : decode cX9_farBy 130 = .ok (.lmul, 1) := by decide +kernel
theorem dX9_farBy_131 : decode cX9_farBy 131 = .ok (.ladd, 1) := by decide +kernel
theorem dX9_farBy_132 : decode cX9_farBy 132 = .ok (.lreturn, 1) := by decide +kernel
set_option maxRecDepth 20000 in
theorem ggX9_wishFor_X9_findDrift : GoodIn wsX9_wishFor wsX9_findDrift := goodIn_r _ [13, 3, 5, 2, 4, 14, 15, 16, 12, 17, 18, 19, 20, 21, 22, 42, 43, 44, 45, 46, 47, 48, 49, 50, 51, 52, 53, 54, 55, 56, 57, 58, 59, 60, 61, 62, 63, 64, 65, 66, 67, 68, 69] (by decide +kernel) (by decide +kernel)
set_option maxRecDepth 20000 in
theorem gX9_wishFor_X9_findDrift : GoodIn wsX9_wishFor (wsV RX9 119 RX9 yX9_findDrift wsX9_findDrift) := goodIn_app (goodIn_of _ (by decide +kernel)) ggX9_wishFor_X9_findDrift
set_option maxRecDepth 20000 in
theorem ggX9_wishFor_X9_oldest : GoodIn wsX9_wishFor wsX9_oldest := goodIn_r _ [26, 2, 42, 43, 44, 45, 46, 47, 48, 49, 50, 51, 52, 53, 54, 55, 56, 57, 58, 59, 60, 61, 62, 63, 64, 65, 66, 67, 68, 69] (by decide +kernel) (by decide +kernel)
set_option maxRecDepth 20000 in
theorem gX9_wishFor_X9_oldest : GoodIn wsX9_wishFor (wsV RX9 112 RX9 yX9_oldest wsX9_oldest) := goodIn_app (goodIn_of _ (by decide +kernel)) ggX9_wishFor_X9_oldest
set_option maxRecDepth 20000 in
theorem ggX9_wishFor_X9_down : GoodIn wsX9_wishFor wsX9_down := goodIn_r _ [29] (by decide +kernel) (by decide +kernel)
set_option maxRecDepth 20000 in
theorem gX9_wishFor_X9_down : GoodIn wsX9_wishFor (va_wsS RX9 115 yX9_down wsX9_down) := goodIn_app (goodIn_of _ (by decide +kernel)) ggX9_wishFor_X9_down
set_option maxRecDepth 20000 in
theorem ggX9_wishFor_X9_delay : GoodIn wsX9_wishFor wsX9_delay := goodIn_r _ [21, 22, 4, 42, 43, 44, 45, 46, 47, 48, 49, 50, 51, 52, 53, 54, 55, 56, 57, 58, 59, 60, 61, 62, 63, 64, 65, 66, 67, 68, 69] (by decide +kernel) (by decide +kernel)
set_option maxRecDepth 20000 in
theorem gX9_wishFor_X9_delay : GoodIn wsX9_wishFor (wsV RX9 103 RX9 yX9_delay wsX9_delay) := goodIn_app (goodIn_of _ (by decide +kernel)) ggX9_wishFor_X9_delay
set_option maxRecDepth 20000 in
theorem ggX9_wishFor_X9_farBy : GoodIn wsX9_wishFor wsX9_farBy := goodIn_r _ [33, 2, 6, 23, 24, 25, 12, 26, 27, 28, 29, 42, 43, 44, 45, 46, 47, 48, 49, 50, 51, 52, 53, 54, 55, 56, 57, 58, 59, 60, 61, 62, 63, 64, 65, 66, 67, 68, 69] (by decide +kernel) (by decide +kernel)
set_option maxRecDepth 20000 in
theorem gX9_wishFor_X9_farBy : GoodIn wsX9_wishFor (wsV RX9 129 RX9 yX9_farBy wsX9_farBy) := goodIn_app (goodIn_of _ (by decide +kernel)) ggX9_wishFor_X9_farBy
set_option maxRecDepth 20000 in
theorem ggX9_wishFor_X9_latelyMost : GoodIn wsX9_wishFor wsX9_latelyMost := goodIn_r _ [37, 6, 2, 23, 24, 25, 12, 26, 42, 43, 44, 45, 46, 47, 48, 49, 50, 51, 52, 53, 54, 55, 56, 57, 58, 59, 60, 61, 62, 63, 64, 65, 66, 67, 68, 69] (by decide +kernel) (by decide +kernel)
set_option maxRecDepth 20000 in
theorem gX9_wishFor_X9_latelyMost : GoodIn wsX9_wishFor (wsV RX9 133 RX9 yX9_latelyMost wsX9_latelyMost) := goodIn_app (goodIn_of _ (by decide +kernel)) ggX9_wishFor_X9_latelyMost
set_option maxRecDepth 20000 in
theorem ggX9_wishFor_X9_leastBy : GoodIn wsX9_wishFor wsX9_leastBy := goodIn_r _ [41, 2, 6, 23, 24, 25, 12, 26, 42, 43, 44, 45, 46, 47, 48, 49, 50, 51, 52, 53, 54, 55, 56, 57, 58, 59, 60, 61, 62, 63, 64, 65, 66, 67, 68, 69] (by decide +kernel) (by decide +kernel)
set_option maxRecDepth 20000 in
theorem gX9_wishFor_X9_leastBy : GoodIn wsX9_wishFor (wsV RX9 137 RX9 yX9_leastBy wsX9_leastBy) := goodIn_app (goodIn_of _ (by decide +kernel)) ggX9_wishFor_X9_leastBy
theorem dX9_wishFor_0 : decode cX9_wishFor 0 = .ok (.aload_n 0, 1) := by decide +kernel
theorem dX9_wishFor_1 : decode cX9_wishFor 1 = .ok (.getfield 69, 3) := by decide +kernel
theorem dX9_wishFor_4 : decode cX9_wishFor 4 = .ok (.iconst 3, 1) := by decide +kernel
theorem dX9_wishFor_5 : decode cX9_wishFor 5 = .ok (.if_icmp .ne 7, 3) := by decide +kernel
theorem dX9_wishFor_8 : decode cX9_wishFor 8 = .ok (.aload_n 0, 1) := by decide +kernel
theorem dX9_wishFor_9 : decode cX9_wishFor 9 = .ok (.invokevirtual 119, 3) := by decide +kernel
theorem dX9_wishFor_12 : decode cX9_wishFor 12 = .ok (.aload_n 0, 1) := by decide +kernel
theorem dX9_wishFor_13 : decode cX9_wishFor 13 = .ok (.invokevirtual 112, 3) := by decide +kernel
theorem dX9_wishFor_16 : decode cX9_wishFor 16 = .ok (.istore_n 2, 1) := by decide +kernel
theorem dX9_wishFor_17 : decode cX9_wishFor 17 = .ok (.iload_n 2, 1) := by decide +kernel
theorem dX9_wishFor_18 : decode cX9_wishFor 18 = .ok (.aload_n 0, 1) := by decide +kernel
theorem dX9_wishFor_19 : decode cX9_wishFor 19 = .ok (.getfield 78, 3) := by decide +kernel
theorem dX9_wishFor_22 : decode cX9_wishFor 22 = .ok (.if_icmp .ge 59, 3) := by decide +kernel
theorem dX9_wishFor_25 : decode cX9_wishFor 25 = .ok (.aload_n 0, 1) := by decide +kernel
theorem dX9_wishFor_26 : decode cX9_wishFor 26 = .ok (.getfield 69, 3) := by decide +kernel
theorem dX9_wishFor_29 : decode cX9_wishFor 29 = .ok (.iconst 3, 1) := by decide +kernel
theorem dX9_wishFor_30 : decode cX9_wishFor 30 = .ok (.if_icmp .ne 29, 3) := by decide +kernel
theorem dX9_wishFor_33 : decode cX9_wishFor 33 = .ok (.aload_n 0, 1) := by decide +kernel
theorem dX9_wishFor_34 : decode cX9_wishFor 34 = .ok (.getfield 122, 3) := by decide +kernel
theorem dX9_wishFor_37 : decode cX9_wishFor 37 = .ok (.iload_n 1, 1) := by decide +kernel
theorem dX9_wishFor_38 : decode cX9_wishFor 38 = .ok (.aload_n 0, 1) := by decide +kernel
theorem dX9_wishFor_39 : decode cX9_wishFor 39 = .ok (.getfield 23, 3) := by decide +kernel
theorem dX9_wishFor_42 : decode cX9_wishFor 42 = .ok (.iload_n 2, 1) := by decide +kernel
theorem dX9_wishFor_43 : decode cX9_wishFor 43 = .ok (.iaload, 1) := by decide +kernel
theorem dX9_wishFor_44 : decode cX9_wishFor 44 = .ok (.isub, 1) := by decide +kernel
theorem dX9_wishFor_45 : decode cX9_wishFor 45 = .ok (.i2l, 1) := by decide +kernel
theorem dX9_wishFor_46 : decode cX9_wishFor 46 = .ok (.lmul, 1) := by decide +kernel
theorem dX9_wishFor_47 : decode cX9_wishFor 47 = .ok (.lneg, 1) := by decide +kernel
theorem dX9_wishFor_48 : decode cX9_wishFor 48 = .ok (.aload_n 0, 1) := by decide +kernel
theorem dX9_wishFor_49 : decode cX9_wishFor 49 = .ok (.getfield 126, 3) := by decide +kernel
theorem dX9_wishFor_52 : decode cX9_wishFor 52 = .ok (.invokestatic 115, 3) := by decide +kernel
theorem dX9_wishFor_55 : decode cX9_wishFor 55 = .ok (.lneg, 1) := by decide +kernel
theorem dX9_wishFor_56 : decode cX9_wishFor 56 = .ok (.goto 4, 3) := by decide +kernel
theorem dX9_wishFor_59 : decode cX9_wishFor 59 = .ok (.lconst 0, 1) := by decide +kernel
theorem dX9_wishFor_60 : decode cX9_wishFor 60 = .ok (.lstore_n 3, 1) := by decide +kernel
theorem dX9_wishFor_61 : decode cX9_wishFor 61 = .ok (.aload_n 0, 1) := by decide +kernel
theorem dX9_wishFor_62 : decode cX9_wishFor 62 = .ok (.getfield 47, 3) := by decide +kernel
theorem dX9_wishFor_65 : decode cX9_wishFor 65 = .ok (.iload_n 2, 1) := by decide +kernel
theorem dX9_wishFor_66 : decode cX9_wishFor 66 = .ok (.aload_n 0, 1) := by decide +kernel
theorem dX9_wishFor_67 : decode cX9_wishFor 67 = .ok (.iload_n 2, 1) := by decide +kernel
theorem dX9_wishFor_68 : decode cX9_wishFor 68 = .ok (.invokevirtual 103, 3) := by decide +kernel
theorem dX9_wishFor_71 : decode cX9_wishFor 71 = .ok (.i2l, 1) := by decide +kernel
theorem dX9_wishFor_72 : decode cX9_wishFor 72 = .ok (.lload_n 3, 1) := by decide +kernel
theorem dX9_wishFor_73 : decode cX9_wishFor 73 = .ok (.ladd, 1) := by decide +kernel
theorem dX9_wishFor_74 : decode cX9_wishFor 74 = .ok (.lastore, 1) := by decide +kernel
theorem dX9_wishFor_75 : decode cX9_wishFor 75 = .ok (.iinc 2 1, 3) := by decide +kernel
theorem dX9_wishFor_78 : decode cX9_wishFor 78 = .ok (.goto (-61), 3) := by decide +kernel
theorem dX9_wishFor_81 : decode cX9_wishFor 81 = .ok (.aload_n 0, 1) := by decide +kernel
theorem dX9_wishFor_82 : decode cX9_wishFor 82 = .ok (.getfield 69, 3) := by decide +kernel
theorem dX9_wishFor_85 : decode cX9_wishFor 85 = .ok (.ifCond .ne 8, 3) := by decide +kernel
theorem dX9_wishFor_88 : decode cX9_wishFor 88 = .ok (.aload_n 0, 1) := by decide +kernel
theorem dX9_wishFor_89 : decode cX9_wishFor 89 = .ok (.getfield 16, 3) := by decide +kernel
theorem dX9_wishFor_92 : decode cX9_wishFor 92 = .ok (.ireturn, 1) := by decide +kernel
theorem dX9_wishFor_93 : decode cX9_wishFor 93 = .ok (.aload_n 0, 1) := by decide +kernel
theorem dX9_wishFor_94 : decode cX9_wishFor 94 = .ok (.getfield 69, 3) := by decide +kernel
theorem dX9_wishFor_97 : decode cX9_wishFor 97 = .ok (.iconst 4, 1) := by decide +kernel
theorem dX9_wishFor_98 : decode cX9_wishFor 98 = .ok (.if_icmp .ne 13, 3) := by decide +kernel
theorem dX9_wishFor_101 : decode cX9_wishFor 101 = .ok (.aload_n 0, 1) := by decide +kernel
theorem dX9_wishFor_102 : decode cX9_wishFor 102 = .ok (.aload_n 0, 1) := by decide +kernel
theorem dX9_wishFor_103 : decode cX9_wishFor 103 = .ok (.getfield 16, 3) := by decide +kernel
theorem dX9_wishFor_106 : decode cX9_wishFor 106 = .ok (.invokevirtual 129, 3) := by decide +kernel
theorem dX9_wishFor_109 : decode cX9_wishFor 109 = .ok (.l2i, 1) := by decide +kernel
theorem dX9_wishFor_110 : decode cX9_wishFor 110 = .ok (.ireturn, 1) := by decide +kernel
theorem dX9_wishFor_111 : decode cX9_wishFor 111 = .ok (.aload_n 0, 1) := by decide +kernel
theorem dX9_wishFor_112 : decode cX9_wishFor 112 = .ok (.getfield 69, 3) := by decide +kernel
theorem dX9_wishFor_115 : decode cX9_wishFor 115 = .ok (.iconst 2, 1) := by decide +kernel
theorem dX9_wishFor_116 : decode cX9_wishFor 116 = .ok (.if_icmp .ne 17, 3) := by decide +kernel
theorem dX9_wishFor_119 : decode cX9_wishFor 119 = .ok (.aload_n 0, 1) := by decide +kernel
theorem dX9_wishFor_120 : decode cX9_wishFor 120 = .ok (.getfield 99, 3) := by decide +kernel
theorem dX9_wishFor_123 : decode cX9_wishFor 123 = .ok (.ifCond .eq 10, 3) := by decide +kernel
theorem dX9_wishFor_126 : decode cX9_wishFor 126 = .ok (.aload_n 0, 1) := by decide +kernel
theorem dX9_wishFor_127 : decode cX9_wishFor 127 = .ok (.invokevirtual 133, 3) := by decide +kernel
theorem dX9_wishFor_130 : decode cX9_wishFor 130 = .ok (.goto 11, 3) := by decide +kernel
theorem dX9_wishFor_133 : decode cX9_wishFor 133 = .ok (.aload_n 0, 1) := by decide +kernel
theorem dX9_wishFor_134 : decode cX9_wishFor 134 = .ok (.aload_n 0, 1) := by decide +kernel
theorem dX9_wishFor_135 : decode cX9_wishFor 135 = .ok (.getfield 16, 3) := by decide +kernel
theorem dX9_wishFor_138 : decode cX9_wishFor 138 = .ok (.invokevirtual 137, 3) := by decide +kernel
theorem dX9_wishFor_141 : decode cX9_wishFor 141 = .ok (.l2i, 1) := by decide +kernel
theorem dX9_wishFor_142 : decode cX9_wishFor 142 = .ok (.ireturn, 1) := by decide +kernel
theorem dX9_beside_0 : decode cX9_beside 0 = .ok (.bipush (-9), 2) := by decide +kernel
theorem dX9_beside_2 : decode cX9_beside 2 = .ok (.istore_n 3, 1) := by decide +kernel
theorem dX9_beside_3 : decode cX9_beside 3 = .ok (.iconst 0, 1) := by decide +kernel
theorem dX9_beside_4 : decode cX9_beside 4 = .ok (.istore 4, 2) := by decide +kernel
theorem dX9_beside_6 : decode cX9_beside 6 = .ok (.iload 4, 2) := by decide +kernel
theorem dX9_beside_8 : decode cX9_beside 8 = .ok (.aload_n 0, 1) := by decide +kernel
theorem dX9_beside_9 : decode cX9_beside 9 = .ok (.getfield 75, 3) := by decide +kernel
theorem dX9_beside_12 : decode cX9_beside 12 = .ok (.if_icmp .ge 119, 3) := by decide +kernel
theorem dX9_beside_15 : decode cX9_beside 15 = .ok (.iload_n 2, 1) := by decide +kernel
theorem dX9_beside_16 : decode cX9_beside 16 = .ok (.ifCond .eq 22, 3) := by decide +kernel
theorem dX9_beside_19 : decode cX9_beside 19 = .ok (.aload_n 0, 1) := by decide +kernel
theorem dX9_beside_20 : decode cX9_beside 20 = .ok (.getfield 35, 3) := by decide +kernel
theorem dX9_beside_23 : decode cX9_beside 23 = .ok (.iload 4, 2) := by decide +kernel
theorem dX9_beside_25 : decode cX9_beside 25 = .ok (.iaload, 1) := by decide +kernel
theorem dX9_beside_26 : decode cX9_beside 26 = .ok (.iload_n 1, 1) := by decide +kernel
theorem dX9_beside_27 : decode cX9_beside 27 = .ok (.if_icmp .ge 7, 3) := by decide +kernel
theorem dX9_beside_30 : decode cX9_beside 30 = .ok (.iconst 1, 1) := by decide +kernel
theorem dX9_beside_31 : decode cX9_beside 31 = .ok (.goto 23, 3) := by decide +kernel
theorem dX9_beside_34 : decode cX9_beside 34 = .ok (.iconst 0, 1) := by decide +kernel
theorem dX9_beside_35 : decode cX9_beside 35 = .ok (.goto 19, 3) := by decide +kernel
theorem dX9_beside_38 : decode cX9_beside 38 = .ok (.aload_n 0, 1) := by decide +kernel
theorem dX9_beside_39 : decode cX9_beside 39 = .ok (.getfield 35, 3) := by decide +kernel
theorem dX9_beside_42 : decode cX9_beside 42 = .ok (.iload 4, 2) := by decide +kernel
theorem dX9_beside_44 : decode cX9_beside 44 = .ok (.iaload, 1) := by decide +kernel
theorem dX9_beside_45 : decode cX9_beside 45 = .ok (.iload_n 1, 1) := by decide +kernel
theorem dX9_beside_46 : decode cX9_beside 46 = .ok (.if_icmp .le 7, 3) := by decide +kernel
theorem dX9_beside_49 : decode cX9_beside 49 = .ok (.iconst 1, 1) := by decide +kernel
theorem dX9_beside_50 : decode cX9_beside 50 = .ok (.goto 4, 3) := by decide +kernel
theorem dX9_beside_53 : decode cX9_beside 53 = .ok (.iconst 0, 1) := by decide +kernel
theorem dX9_beside_54 : decode cX9_beside 54 = .ok (.istore 5, 2) := by decide +kernel
theorem dX9_beside_56 : decode cX9_beside 56 = .ok (.iload_n 3, 1) := by decide +kernel
theorem dX9_beside_57 : decode cX9_beside 57 = .ok (.bipush (-9), 2) := by decide +kernel
theorem dX9_beside_59 : decode cX9_beside 59 = .ok (.if_icmp .eq 42, 3) := by decide +kernel
theorem dX9_beside_62 : decode cX9_beside 62 = .ok (.iload_n 2, 1) := by decide +kernel
theorem dX9_beside_63 : decode cX9_beside 63 = .ok (.ifCond .eq 22, 3) := by decide +kernel
theorem dX9_beside_66 : decode cX9_beside 66 = .ok (.aload_n 0, 1) := by decide +kernel
theorem dX9_beside_67 : decode cX9_beside 67 = .ok (.getfield 35, 3) := by decide +kernel
theorem dX9_beside_70 : decode cX9_beside 70 = .ok (.iload 4, 2) := by decide +kernel
theorem dX9_beside_72 : decode cX9_beside 72 = .ok (.iaload, 1) := by decide +kernel
theorem dX9_beside_73 : decode cX9_beside 73 = .ok (.aload_n 0, 1) := by decide +kernel
theorem dX9_beside_74 : decode cX9_beside 74 = .ok (.getfield 35, 3) := by decide +kernel
theorem dX9_beside_77 : decode cX9_beside 77 = .ok (.iload_n 3, 1) := by decide +kernel
theorem dX9_beside_78 : decode cX9_beside 78 = .ok (.iaload, 1) := by decide +kernel
theorem dX9_beside_79 : decode cX9_beside 79 = .ok (.if_icmp .le 26, 3) := by decide +kernel
theorem dX9_beside_82 : decode cX9_beside 82 = .ok (.goto 19, 3) := by decide +kernel
theorem dX9_beside_85 : decode cX9_beside 85 = .ok (.aload_n 0, 1) := by decide +kernel
theorem dX9_beside_86 : decode cX9_beside 86 = .ok (.getfield 35, 3) := by decide +kernel
theorem dX9_beside_89 : decode cX9_beside 89 = .ok (.iload 4, 2) := by decide +kernel
theorem dX9_beside_91 : decode cX9_beside 91 = .ok (.iaload, 1) := by decide +kernel
theorem dX9_beside_92 : decode cX9_beside 92 = .ok (.aload_n 0, 1) := by decide +kernel
theorem dX9_beside_93 : decode cX9_beside 93 = .ok (.getfield 35, 3) := by decide +kernel
theorem dX9_beside_96 : decode cX9_beside 96 = .ok (.iload_n 3, 1) := by decide +kernel
theorem dX9_beside_97 : decode cX9_beside 97 = .ok (.iaload, 1) := by decide +kernel
theorem dX9_beside_98 : decode cX9_beside 98 = .ok (.if_icmp .ge 7, 3) := by decide +kernel
theorem dX9_beside_101 : decode cX9_beside 101 = .ok (.iconst 1, 1) := by decide +kernel
theorem dX9_beside_102 : decode cX9_beside 102 = .ok (.goto 4, 3) := by decide +kernel
theorem dX9_beside_105 : decode cX9_beside 105 = .ok (.iconst 0, 1) := by decide +kernel
theorem dX9_beside_106 : decode cX9_beside 106 = .ok (.istore 6, 2) := by decide +kernel
theorem dX9_beside_108 : decode cX9_beside 108 = .ok (.iload 5, 2) := by decide +kernel
theorem dX9_beside_110 : decode cX9_beside 110 = .ok (.ifCond .eq 13, 3) := by decide +kernel
theorem dX9_beside_113 : decode cX9_beside 113 = .ok (.iload 6, 2) := by decide +kernel
theorem dX9_beside_115 : decode cX9_beside 115 = .ok (.ifCond .eq 8, 3) := by decide +kernel
theorem dX9_beside_118 : decode cX9_beside 118 = .ok (.iload 4, 2) := by decide +kernel
theorem dX9_beside_120 : decode cX9_beside 120 = .ok (.goto 4, 3) := by decide +kernel
theorem dX9_beside_123 : decode cX9_beside 123 = .ok (.iload_n 3, 1) := by decide +kernel
theorem dX9_beside_124 : decode cX9_beside 124 = .ok (.istore_n 3, 1) := by decide +kernel
theorem dX9_beside_125 : decode cX9_beside 125 = .ok (.iinc 4 1, 3) := by decide +kernel
theorem dX9_beside_128 : decode cX9_beside 128 = .ok (.goto (-122), 3) := by decide +kernel
theorem dX9_beside_131 : decode cX9_beside 131 = .ok (.iload_n 3, 1) := by decide +kernel
theorem dX9_beside_132 : decode cX9_beside 132 = .ok (.ireturn, 1) := by decide +kernel
set_option maxRecDepth 20000 in
theorem ggX9_timeFor_X9_wishFor : GoodIn wsX9_timeFor wsX9_wishFor := goodIn_r _ [8, 9, 10, 11, 12, 13, 14, 15, 16, 17, 18, 19, 7, 20, 21, 22, 23, 24, 25, 26, 27, 28, 29, 30, 31, 32, 33, 34, 35, 36, 37, 38, 39, 40, 41, 42, 43, 44, 45, 46, 47, 48, 55, 56, 57, 58, 59, 60, 61, 62, 63, 64, 65, 66, 67, 68, 69, 70, 71, 72, 73, 74, 75, 76, 77, 78, 79, 80, 81, 82] (by decide +kernel) (by decide +kernel)
set_option maxRecDepth 20000 in
theorem gX9_timeFor_X9_wishFor : GoodIn wsX9_timeFor (wsV RX9 140 RX9 yX9_wishFor wsX9_wishFor) := goodIn_app (goodIn_of _ (by decide +kernel)) ggX9_timeFor_X9_wishFor
set_option maxRecDepth 20000 in
theorem ggX9_timeFor_X9_beside : GoodIn wsX9_timeFor wsX9_beside := goodIn_r _ [52, 53, 54, 55, 56, 57, 58, 59, 60, 61, 62, 63, 64, 65, 66, 67, 68, 69, 70, 71, 72, 73, 74, 75, 76, 77, 78, 79, 80, 81, 82] (by decide +kernel) (by decide +kernel)
set_option maxRecDepth 20000 in
theorem gX9_timeFor_X9_beside : GoodIn wsX9_timeFor (wsV RX9 143 RX9 yX9_beside wsX9_beside) := goodIn_app (goodIn_of _ (by decide +kernel)) ggX9_timeFor_X9_beside
theorem dX9_timeFor_0 : decode cX9_timeFor 0 = .ok (.aload_n 0, 1) := by decide +kernel
theorem dX9_timeFor_1 : decode cX9_timeFor 1 = .ok (.iload_n 1, 1) := by decide +kernel
theorem dX9_timeFor_2 : decode cX9_timeFor 2 = .ok (.invokevirtual 140, 3) := by decide +kernel
theorem dX9_timeFor_5 : decode cX9_timeFor 5 = .ok (.aload_n 0, 1) := by decide +kernel
theorem dX9_timeFor_6 : decode cX9_timeFor 6 = .ok (.getfield 72, 3) := by decide +kernel
theorem dX9_timeFor_9 : decode cX9_timeFor 9 = .ok (.iadd, 1) := by decide +kernel
theorem dX9_timeFor_10 : decode cX9_timeFor 10 = .ok (.istore_n 3, 1) := by decide +kernel
theorem dX9_timeFor_11 : decode cX9_timeFor 11 = .ok (.aload_n 0, 1) := by decide +kernel
theorem dX9_timeFor_12 : decode cX9_timeFor 12 = .ok (.iload_n 1, 1) := by decide +kernel
theorem dX9_timeFor_13 : decode cX9_timeFor 13 = .ok (.iconst 1, 1) := by decide +kernel
theorem dX9_timeFor_14 : decode cX9_timeFor 14 = .ok (.invokevirtual 143, 3) := by decide +kernel
theorem dX9_timeFor_17 : decode cX9_timeFor 17 = .ok (.istore 4, 2) := by decide +kernel
theorem dX9_timeFor_19 : decode cX9_timeFor 19 = .ok (.aload_n 0, 1) := by decide +kernel
theorem dX9_timeFor_20 : decode cX9_timeFor 20 = .ok (.iload_n 1, 1) := by decide +kernel
theorem dX9_timeFor_21 : decode cX9_timeFor 21 = .ok (.iconst 0, 1) := by decide +kernel
theorem dX9_timeFor_22 : decode cX9_timeFor 22 = .ok (.invokevirtual 143, 3) := by decide +kernel
theorem dX9_timeFor_25 : decode cX9_timeFor 25 = .ok (.istore 5, 2) := by decide +kernel
theorem dX9_timeFor_27 : decode cX9_timeFor 27 = .ok (.iload 4, 2) := by decide +kernel
theorem dX9_timeFor_29 : decode cX9_timeFor 29 = .ok (.bipush (-9), 2) := by decide +kernel
theorem dX9_timeFor_31 : decode cX9_timeFor 31 = .ok (.if_icmp .eq 32, 3) := by decide +kernel
theorem dX9_timeFor_34 : decode cX9_timeFor 34 = .ok (.iload_n 3, 1) := by decide +kernel
theorem dX9_timeFor_35 : decode cX9_timeFor 35 = .ok (.aload_n 0, 1) := by decide +kernel
theorem dX9_timeFor_36 : decode cX9_timeFor 36 = .ok (.getfield 41, 3) := by decide +kernel
theorem dX9_timeFor_39 : decode cX9_timeFor 39 = .ok (.iload 4, 2) := by decide +kernel
theorem dX9_timeFor_41 : decode cX9_timeFor 41 = .ok (.iaload, 1) := by decide +kernel
theorem dX9_timeFor_42 : decode cX9_timeFor 42 = .ok (.bipush 20, 2) := by decide +kernel
theorem dX9_timeFor_44 : decode cX9_timeFor 44 = .ok (.iload_n 2, 1) := by decide +kernel
theorem dX9_timeFor_45 : decode cX9_timeFor 45 = .ok (.imul, 1) := by decide +kernel
theorem dX9_timeFor_46 : decode cX9_timeFor 46 = .ok (.isub, 1) := by decide +kernel
theorem dX9_timeFor_47 : decode cX9_timeFor 47 = .ok (.if_icmp .ge 16, 3) := by decide +kernel
theorem dX9_timeFor_50 : decode cX9_timeFor 50 = .ok (.aload_n 0, 1) := by decide +kernel
theorem dX9_timeFor_51 : decode cX9_timeFor 51 = .ok (.getfield 41, 3) := by decide +kernel
theorem dX9_timeFor_54 : decode cX9_timeFor 54 = .ok (.iload 4, 2) := by decide +kernel
theorem dX9_timeFor_56 : decode cX9_timeFor 56 = .ok (.iaload, 1) := by decide +kernel
theorem dX9_timeFor_57 : decode cX9_timeFor 57 = .ok (.bipush 20, 2) := by decide +kernel
theorem dX9_timeFor_59 : decode cX9_timeFor 59 = .ok (.iload_n 2, 1) := by decide +kernel
theorem dX9_timeFor_60 : decode cX9_timeFor 60 = .ok (.imul, 1) := by decide +kernel
theorem dX9_timeFor_61 : decode cX9_timeFor 61 = .ok (.isub, 1) := by decide +kernel
theorem dX9_timeFor_62 : decode cX9_timeFor 62 = .ok (.istore_n 3, 1) := by decide +kernel
theorem dX9_timeFor_63 : decode cX9_timeFor 63 = .ok (.iload 5, 2) := by decide +kernel
theorem dX9_timeFor_65 : decode cX9_timeFor 65 = .ok (.bipush (-9), 2) := by decide +kernel
theorem dX9_timeFor_67 : decode cX9_timeFor 67 = .ok (.if_icmp .eq 44, 3) := by decide +kernel
theorem dX9_timeFor_70 : decode cX9_timeFor 70 = .ok (.iload_n 3, 1) := by decide +kernel
theorem dX9_timeFor_71 : decode cX9_timeFor 71 = .ok (.aload_n 0, 1) := by decide +kernel
theorem dX9_timeFor_72 : decode cX9_timeFor 72 = .ok (.getfield 41, 3) := by decide +kernel
theorem dX9_timeFor_75 : decode cX9_timeFor 75 = .ok (.iload 5, 2) := by decide +kernel
theorem dX9_timeFor_77 : decode cX9_timeFor 77 = .ok (.iaload, 1) := by decide +kernel
theorem dX9_timeFor_78 : decode cX9_timeFor 78 = .ok (.bipush 20, 2) := by decide +kernel
theorem dX9_timeFor_80 : decode cX9_timeFor 80 = .ok (.aload_n 0, 1) := by decide +kernel
theorem dX9_timeFor_81 : decode cX9_timeFor 81 = .ok (.getfield 38, 3) := by decide +kernel
theorem dX9_timeFor_84 : decode cX9_timeFor 84 = .ok (.iload 5, 2) := by decide +kernel
theorem dX9_timeFor_86 : decode cX9_timeFor 86 = .ok (.iaload, 1) := by decide +kernel
theorem dX9_timeFor_87 : decode cX9_timeFor 87 = .ok (.imul, 1) := by decide +kernel
theorem dX9_timeFor_88 : decode cX9_timeFor 88 = .ok (.iadd, 1) := by decide +kernel
theorem dX9_timeFor_89 : decode cX9_timeFor 89 = .ok (.if_icmp .le 22, 3) := by decide +kernel
theorem dX9_timeFor_92 : decode cX9_timeFor 92 = .ok (.aload_n 0, 1) := by decide +kernel
theorem dX9_timeFor_93 : decode cX9_timeFor 93 = .ok (.getfield 41, 3) := by decide +kernel
theorem dX9_timeFor_96 : decode cX9_timeFor 96 = .ok (.iload 5, 2) := by decide +kernel
theorem dX9_timeFor_98 : decode cX9_timeFor 98 = .ok (.iaload, 1) := by decide +kernel
theorem dX9_timeFor_99 : decode cX9_timeFor 99 = .ok (.bipush 20, 2) := by decide +kernel
theorem dX9_timeFor_101 : decode cX9_timeFor 101 = .ok (.aload_n 0, 1) := by decide +kernel
theorem dX9_timeFor_102 : decode cX9_timeFor 102 = .ok (.getfield 38, 3) := by decide +kernel
theorem dX9_timeFor_105 : decode cX9_timeFor 105 = .ok (.iload 5, 2) := by decide +kernel
theorem dX9_timeFor_107 : decode cX9_timeFor 107 = .ok (.iaload, 1) := by decide +kernel
theorem dX9_timeFor_108 : decode cX9_timeFor 108 = .ok (.imul, 1) := by decide +kernel
theorem dX9_timeFor_109 : decode cX9_timeFor 109 = .ok (.iadd, 1) := by decide +kernel
theorem dX9_timeFor_110 : decode cX9_timeFor 110 = .ok (.istore_n 3, 1) := by decide +kernel
theorem dX9_timeFor_111 : decode cX9_timeFor 111 = .ok (.iload_n 3, 1) := by decide +kernel
theorem dX9_timeFor_112 : decode cX9_timeFor 112 = .ok (.ireturn, 1) := by decide +kernel
set_option maxRecDepth 20000 in
theorem ggX9_isPlayed_X9_delay : GoodIn wsX9_isPlayed wsX9_delay := goodIn_r _ [7, 8, 9, 10, 11, 12, 13, 14, 15, 16, 17, 18, 19, 20, 21, 22, 23, 24, 25, 26, 27, 28, 29, 30, 31, 32, 33, 34, 35, 36, 37] (by decide +kernel) (by decide +kernel)
set_option maxRecDepth 20000 in
theorem gX9_isPlayed_X9_delay : GoodIn wsX9_isPlayed (wsV RX9 103 RX9 yX9_delay wsX9_delay) := goodIn_app (goodIn_of _ (by decide +kernel)) ggX9_isPlayed_X9_delay
theorem dX9_isPlayed_0 : decode cX9_isPlayed 0 = .ok (.aload_n 0, 1) := by decide +kernel
theorem dX9_isPlayed_1 : decode cX9_isPlayed 1 = .ok (.iload_n 1, 1) := by decide +kernel
theorem dX9_isPlayed_2 : decode cX9_isPlayed 2 = .ok (.invokevirtual 103, 3) := by decide +kernel
theorem dX9_isPlayed_5 : decode cX9_isPlayed 5 = .ok (.aload_n 0, 1) := by decide +kernel
theorem dX9_isPlayed_6 : decode cX9_isPlayed 6 = .ok (.getfield 41, 3) := by decide +kernel
theorem dX9_isPlayed_9 : decode cX9_isPlayed 9 = .ok (.aload_n 0, 1) := by decide +kernel
theorem dX9_isPlayed_10 : decode cX9_isPlayed 10 = .ok (.getfield 29, 3) := by decide +kernel
theorem dX9_isPlayed_13 : decode cX9_isPlayed 13 = .ok (.iload_n 1, 1) := by decide +kernel
theorem dX9_isPlayed_14 : decode cX9_isPlayed 14 = .ok (.iaload, 1) := by decide +kernel
theorem dX9_isPlayed_15 : decode cX9_isPlayed 15 = .ok (.iaload, 1) := by decide +kernel
theorem dX9_isPlayed_16 : decode cX9_isPlayed 16 = .ok (.if_icmp .gt 7, 3) := by decide +kernel
theorem dX9_isPlayed_19 : decode cX9_isPlayed 19 = .ok (.iconst 1, 1) := by decide +kernel
theorem dX9_isPlayed_20 : decode cX9_isPlayed 20 = .ok (.goto 4, 3) := by decide +kernel
theorem dX9_isPlayed_23 : decode cX9_isPlayed 23 = .ok (.iconst 0, 1) := by decide +kernel
theorem dX9_isPlayed_24 : decode cX9_isPlayed 24 = .ok (.ireturn, 1) := by decide +kernel
theorem dX9_playedAt_0 : decode cX9_playedAt 0 = .ok (.bipush 20, 2) := by decide +kernel
theorem dX9_playedAt_2 : decode cX9_playedAt 2 = .ok (.aload_n 0, 1) := by decide +kernel
theorem dX9_playedAt_3 : decode cX9_playedAt 3 = .ok (.getfield 23, 3) := by decide +kernel
theorem dX9_playedAt_6 : decode cX9_playedAt 6 = .ok (.iload_n 1, 1) := by decide +kernel
theorem dX9_playedAt_7 : decode cX9_playedAt 7 = .ok (.iaload, 1) := by decide +kernel
theorem dX9_playedAt_8 : decode cX9_playedAt 8 = .ok (.imul, 1) := by decide +kernel
theorem dX9_playedAt_9 : decode cX9_playedAt 9 = .ok (.aload_n 0, 1) := by decide +kernel
theorem dX9_playedAt_10 : decode cX9_playedAt 10 = .ok (.getfield 41, 3) := by decide +kernel
theorem dX9_playedAt_13 : decode cX9_playedAt 13 = .ok (.aload_n 0, 1) := by decide +kernel
theorem dX9_playedAt_14 : decode cX9_playedAt 14 = .ok (.getfield 29, 3) := by decide +kernel
theorem dX9_playedAt_17 : decode cX9_playedAt 17 = .ok (.iload_n 1, 1) := by decide +kernel
theorem dX9_playedAt_18 : decode cX9_playedAt 18 = .ok (.iaload, 1) := by decide +kernel
theorem dX9_playedAt_19 : decode cX9_playedAt 19 = .ok (.iaload, 1) := by decide +kernel
theorem dX9_playedAt_20 : decode cX9_playedAt 20 = .ok (.iadd, 1) := by decide +kernel
theorem dX9_playedAt_21 : decode cX9_playedAt 21 = .ok (.ireturn, 1) := by decide +kernel
set_option maxRecDepth 20000 in
theorem ggX9_ofFrame_X9_within : GoodIn wsX9_ofFrame wsX9_within := goodIn_r _ [7] (by decide +kernel) (by decide +kernel)
set_option maxRecDepth 20000 in
theorem gX9_ofFrame_X9_within : GoodIn wsX9_ofFrame (va_wsS RX9 54 yX9_within wsX9_within) := goodIn_app (goodIn_of _ (by decide +kernel)) ggX9_ofFrame_X9_within
set_option maxRecDepth 20000 in
theorem ggX9_ofFrame_X9_delay : GoodIn wsX9_ofFrame wsX9_delay := goodIn_r _ [11, 2, 12, 22, 23, 24, 25, 26, 27, 28, 29, 30, 31, 32, 33, 34, 35, 36, 37, 38, 39, 40, 41, 42, 43, 44, 45, 46, 47, 48, 49] (by decide +kernel) (by decide +kernel)
set_option maxRecDepth 20000 in
theorem gX9_ofFrame_X9_delay : GoodIn wsX9_ofFrame (wsV RX9 103 RX9 yX9_delay wsX9_delay) := goodIn_app (goodIn_of _ (by decide +kernel)) ggX9_ofFrame_X9_delay
set_option maxRecDepth 20000 in
theorem ggX9_ofFrame_X9_isPlayed : GoodIn wsX9_ofFrame wsX9_isPlayed := goodIn_r _ [16, 17, 3, 8, 9, 10, 6, 11, 2, 12, 22, 23, 24, 25, 26, 27, 28, 29, 30, 31, 32, 33, 34, 35, 36, 37, 38, 39, 40, 41, 42, 43, 44, 45, 46, 47, 48, 49] (by decide +kernel) (by decide +kernel)
set_option maxRecDepth 20000 in
theorem gX9_ofFrame_X9_isPlayed : GoodIn wsX9_ofFrame (wsV RX9 147 RX9 yX9_isPlayed wsX9_isPlayed) := goodIn_app (goodIn_of _ (by decide +kernel)) ggX9_ofFrame_X9_isPlayed
set_option maxRecDepth 20000 in
theorem ggX9_ofFrame_X9_playedAt : GoodIn wsX9_ofFrame wsX9_playedAt := goodIn_r _ [21, 12, 17, 3, 22, 23, 24, 25, 26, 27, 28, 29, 30, 31, 32, 33, 34, 35, 36, 37, 38, 39, 40, 41, 42, 43, 44, 45, 46, 47, 48, 49] (by decide +kernel) (by decide +kernel)
set_option maxRecDepth 20000 in
theorem gX9_ofFrame_X9_playedAt : GoodIn wsX9_ofFrame (wsV RX9 151 RX9 yX9_playedAt wsX9_playedAt) := goodIn_app (goodIn_of _ (by decide +kernel)) ggX9_ofFrame_X9_playedAt
theorem dX9_ofFrame_0 : decode cX9_ofFrame 0 = .ok (.iload_n 1, 1) := by decide +kernel
theorem dX9_ofFrame_1 : decode cX9_ofFrame 1 = .ok (.iconst 0, 1) := by decide +kernel
theorem dX9_ofFrame_2 : decode cX9_ofFrame 2 = .ok (.sipush 299, 3) := by decide +kernel
theorem dX9_ofFrame_5 : decode cX9_ofFrame 5 = .ok (.invokestatic 54, 3) := by decide +kernel
theorem dX9_ofFrame_8 : decode cX9_ofFrame 8 = .ok (.ifCond .eq 14, 3) := by decide +kernel
theorem dX9_ofFrame_11 : decode cX9_ofFrame 11 = .ok (.aload_n 0, 1) := by decide +kernel
theorem dX9_ofFrame_12 : decode cX9_ofFrame 12 = .ok (.getfield 32, 3) := by decide +kernel
theorem dX9_ofFrame_15 : decode cX9_ofFrame 15 = .ok (.iload_n 1, 1) := by decide +kernel
theorem dX9_ofFrame_16 : decode cX9_ofFrame 16 = .ok (.iaload, 1) := by decide +kernel
theorem dX9_ofFrame_17 : decode cX9_ofFrame 17 = .ok (.bipush (-9), 2) := by decide +kernel
theorem dX9_ofFrame_19 : decode cX9_ofFrame 19 = .ok (.if_icmp .ne 5, 3) := by decide +kernel
theorem dX9_ofFrame_22 : decode cX9_ofFrame 22 = .ok (.iconst (-1), 1) := by decide +kernel
theorem dX9_ofFrame_23 : decode cX9_ofFrame 23 = .ok (.ireturn, 1) := by decide +kernel
theorem dX9_ofFrame_24 : decode cX9_ofFrame 24 = .ok (.aload_n 0, 1) := by decide +kernel
theorem dX9_ofFrame_25 : decode cX9_ofFrame 25 = .ok (.getfield 32, 3) := by decide +kernel
theorem dX9_ofFrame_28 : decode cX9_ofFrame 28 = .ok (.iload_n 1, 1) := by decide +kernel
theorem dX9_ofFrame_29 : decode cX9_ofFrame 29 = .ok (.iaload, 1) := by decide +kernel
theorem dX9_ofFrame_30 : decode cX9_ofFrame 30 = .ok (.istore_n 3, 1) := by decide +kernel
theorem dX9_ofFrame_31 : decode cX9_ofFrame 31 = .ok (.iload_n 2, 1) := by decide +kernel
theorem dX9_ofFrame_32 : decode cX9_ofFrame 32 = .ok (.tableswitch 81 0 4 #[36, 43, 53, 60, 79], 36) := by decide +kernel
theorem dX9_ofFrame_68 : decode cX9_ofFrame 68 = .ok (.aload_n 0, 1) := by decide +kernel
theorem dX9_ofFrame_69 : decode cX9_ofFrame 69 = .ok (.getfield 26, 3) := by decide +kernel
theorem dX9_ofFrame_72 : decode cX9_ofFrame 72 = .ok (.iload_n 3, 1) := by decide +kernel
theorem dX9_ofFrame_73 : decode cX9_ofFrame 73 = .ok (.iaload, 1) := by decide +kernel
theorem dX9_ofFrame_74 : decode cX9_ofFrame 74 = .ok (.ireturn, 1) := by decide +kernel
theorem dX9_ofFrame_75 : decode cX9_ofFrame 75 = .ok (.aload_n 0, 1) := by decide +kernel
theorem dX9_ofFrame_76 : decode cX9_ofFrame 76 = .ok (.iload_n 3, 1) := by decide +kernel
theorem dX9_ofFrame_77 : decode cX9_ofFrame 77 = .ok (.invokevirtual 103, 3) := by decide +kernel
theorem dX9_ofFrame_80 : decode cX9_ofFrame 80 = .ok (.sipush 10000, 3) := by decide +kernel
theorem dX9_ofFrame_83 : decode cX9_ofFrame 83 = .ok (.iadd, 1) := by decide +kernel
theorem dX9_ofFrame_84 : decode cX9_ofFrame 84 = .ok (.ireturn, 1) := by decide +kernel
theorem dX9_ofFrame_85 : decode cX9_ofFrame 85 = .ok (.aload_n 0, 1) := by decide +kernel
theorem dX9_ofFrame_86 : decode cX9_ofFrame 86 = .ok (.getfield 29, 3) := by decide +kernel
theorem dX9_ofFrame_89 : decode cX9_ofFrame 89 = .ok (.iload_n 3, 1) := by decide +kernel
theorem dX9_ofFrame_90 : decode cX9_ofFrame 90 = .ok (.iaload, 1) := by decide +kernel
theorem dX9_ofFrame_91 : decode cX9_ofFrame 91 = .ok (.ireturn, 1) := by decide +kernel
theorem dX9_ofFrame_92 : decode cX9_ofFrame 92 = .ok (.aload_n 0, 1) := by decide +kernel
theorem dX9_ofFrame_93 : decode cX9_ofFrame 93 = .ok (.iload_n 3, 1) := by decide +kernel
theorem dX9_ofFrame_94 : decode cX9_ofFrame 94 = .ok (.invokevirtual 147, 3) := by decide +kernel
theorem dX9_ofFrame_97 : decode cX9_ofFrame 97 = .ok (.ifCond .eq 11, 3) := by decide +kernel
theorem dX9_ofFrame_100 : decode cX9_ofFrame 100 = .ok (.aload_n 0, 1) := by decide +kernel
theorem dX9_ofFrame_101 : decode cX9_ofFrame 101 = .ok (.iload_n 3, 1) := by decide +kernel
theorem dX9_ofFrame_102 : decode cX9_ofFrame 102 = .ok (.invokevirtual 151, 3) := by decide +kernel
theorem dX9_ofFrame_105 : decode cX9_ofFrame 105 = .ok (.goto 5, 3) := by decide +kernel
theorem dX9_ofFrame_108 : decode cX9_ofFrame 108 = .ok (.bipush (-9), 2) := by decide +kernel
theorem dX9_ofFrame_110 : decode cX9_ofFrame 110 = .ok (.ireturn, 1) := by decide +kernel
theorem dX9_ofFrame_111 : decode cX9_ofFrame 111 = .ok (.iload_n 3, 1) := by decide +kernel
