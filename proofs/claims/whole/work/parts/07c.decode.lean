theorem dX9_init_0 : decode cX9_init 0 = .ok (.aload_n 0, 1) := by decide +kernel
theorem dX9_init_1 : decode cX9_init 1 = .ok (.invokespecial 7, 3) := by decide +kernel
theorem dX9_init_4 : decode cX9_init 4 = .ok (.aload_n 0, 1) := by decide +kernel
theorem dX9_init_5 : decode cX9_init 5 = .ok (.sipush 6300, 3) := by decide +kernel
theorem dX9_init_8 : decode cX9_init 8 = .ok (.newarray .byte, 2) := by decide +kernel
theorem dX9_init_10 : decode cX9_init 10 = .ok (.putfield 13, 3) := by decide +kernel
theorem dX9_init_13 : decode cX9_init 13 = .ok (.aload_n 0, 1) := by decide +kernel
theorem dX9_init_14 : decode cX9_init 14 = .ok (.sipush 256, 3) := by decide +kernel
theorem dX9_init_17 : decode cX9_init 17 = .ok (.newarray .long, 2) := by decide +kernel
theorem dX9_init_19 : decode cX9_init 19 = .ok (.putfield 17, 3) := by decide +kernel
theorem dX9_init_22 : decode cX9_init 22 = .ok (.aload_n 0, 1) := by decide +kernel
theorem dX9_init_23 : decode cX9_init 23 = .ok (.iconst 5, 1) := by decide +kernel
theorem dX9_init_24 : decode cX9_init 24 = .ok (.newarray .int, 2) := by decide +kernel
theorem dX9_init_26 : decode cX9_init 26 = .ok (.putfield 21, 3) := by decide +kernel
theorem dX9_init_29 : decode cX9_init 29 = .ok (.aload_n 0, 1) := by decide +kernel
theorem dX9_init_30 : decode cX9_init 30 = .ok (.ldc 25, 2) := by decide +kernel
theorem dX9_init_32 : decode cX9_init 32 = .ok (.newarray .byte, 2) := by decide +kernel
theorem dX9_init_34 : decode cX9_init 34 = .ok (.putfield 26, 3) := by decide +kernel
theorem dX9_init_37 : decode cX9_init 37 = .ok (.aload_n 0, 1) := by decide +kernel
theorem dX9_init_38 : decode cX9_init 38 = .ok (.bipush 61, 2) := by decide +kernel
theorem dX9_init_40 : decode cX9_init 40 = .ok (.newarray .int, 2) := by decide +kernel
theorem dX9_init_42 : decode cX9_init 42 = .ok (.putfield 29, 3) := by decide +kernel
theorem dX9_init_45 : decode cX9_init 45 = .ok (.aload_n 0, 1) := by decide +kernel
theorem dX9_init_46 : decode cX9_init 46 = .ok (.sipush 2000, 3) := by decide +kernel
theorem dX9_init_49 : decode cX9_init 49 = .ok (.newarray .byte, 2) := by decide +kernel
theorem dX9_init_51 : decode cX9_init 51 = .ok (.putfield 32, 3) := by decide +kernel
theorem dX9_init_54 : decode cX9_init 54 = .ok (.aload_n 0, 1) := by decide +kernel
theorem dX9_init_55 : decode cX9_init 55 = .ok (.bipush 8, 2) := by decide +kernel
theorem dX9_init_57 : decode cX9_init 57 = .ok (.newarray .int, 2) := by decide +kernel
theorem dX9_init_59 : decode cX9_init 59 = .ok (.putfield 35, 3) := by decide +kernel
theorem dX9_init_62 : decode cX9_init 62 = .ok (.aload_n 0, 1) := by decide +kernel
theorem dX9_init_63 : decode cX9_init 63 = .ok (.bipush 8, 2) := by decide +kernel
theorem dX9_init_65 : decode cX9_init 65 = .ok (.newarray .int, 2) := by decide +kernel
theorem dX9_init_67 : decode cX9_init 67 = .ok (.putfield 38, 3) := by decide +kernel
theorem dX9_init_70 : decode cX9_init 70 = .ok (.aload_n 0, 1) := by decide +kernel
theorem dX9_init_71 : decode cX9_init 71 = .ok (.bipush 8, 2) := by decide +kernel
theorem dX9_init_73 : decode cX9_init 73 = .ok (.newarray .int, 2) := by decide +kernel
theorem dX9_init_75 : decode cX9_init 75 = .ok (.putfield 41, 3) := by decide +kernel
theorem dX9_init_78 : decode cX9_init 78 = .ok (.aload_n 0, 1) := by decide +kernel
theorem dX9_init_79 : decode cX9_init 79 = .ok (.bipush 8, 2) := by decide +kernel
theorem dX9_init_81 : decode cX9_init 81 = .ok (.newarray .int, 2) := by decide +kernel
theorem dX9_init_83 : decode cX9_init 83 = .ok (.putfield 44, 3) := by decide +kernel
theorem dX9_init_86 : decode cX9_init 86 = .ok (.aload_n 0, 1) := by decide +kernel
theorem dX9_init_87 : decode cX9_init 87 = .ok (.bipush 8, 2) := by decide +kernel
theorem dX9_init_89 : decode cX9_init 89 = .ok (.newarray .boolean, 2) := by decide +kernel
theorem dX9_init_91 : decode cX9_init 91 = .ok (.putfield 47, 3) := by decide +kernel
theorem dX9_init_94 : decode cX9_init 94 = .ok (.aload_n 0, 1) := by decide +kernel
theorem dX9_init_95 : decode cX9_init 95 = .ok (.bipush 8, 2) := by decide +kernel
theorem dX9_init_97 : decode cX9_init 97 = .ok (.newarray .int, 2) := by decide +kernel
theorem dX9_init_99 : decode cX9_init 99 = .ok (.putfield 51, 3) := by decide +kernel
theorem dX9_init_102 : decode cX9_init 102 = .ok (.aload_n 0, 1) := by decide +kernel
theorem dX9_init_103 : decode cX9_init 103 = .ok (.bipush 8, 2) := by decide +kernel
theorem dX9_init_105 : decode cX9_init 105 = .ok (.newarray .int, 2) := by decide +kernel
theorem dX9_init_107 : decode cX9_init 107 = .ok (.putfield 54, 3) := by decide +kernel
theorem dX9_init_110 : decode cX9_init 110 = .ok (.aload_n 0, 1) := by decide +kernel
theorem dX9_init_111 : decode cX9_init 111 = .ok (.bipush 8, 2) := by decide +kernel
theorem dX9_init_113 : decode cX9_init 113 = .ok (.newarray .boolean, 2) := by decide +kernel
theorem dX9_init_115 : decode cX9_init 115 = .ok (.putfield 57, 3) := by decide +kernel
theorem dX9_init_118 : decode cX9_init 118 = .ok (.aload_n 0, 1) := by decide +kernel
theorem dX9_init_119 : decode cX9_init 119 = .ok (.bipush 8, 2) := by decide +kernel
theorem dX9_init_121 : decode cX9_init 121 = .ok (.newarray .int, 2) := by decide +kernel
theorem dX9_init_123 : decode cX9_init 123 = .ok (.putfield 60, 3) := by decide +kernel
theorem dX9_init_126 : decode cX9_init 126 = .ok (.aload_n 0, 1) := by decide +kernel
theorem dX9_init_127 : decode cX9_init 127 = .ok (.sipush 512, 3) := by decide +kernel
theorem dX9_init_130 : decode cX9_init 130 = .ok (.newarray .int, 2) := by decide +kernel
theorem dX9_init_132 : decode cX9_init 132 = .ok (.putfield 63, 3) := by decide +kernel
theorem dX9_init_135 : decode cX9_init 135 = .ok (.aload_n 0, 1) := by decide +kernel
theorem dX9_init_136 : decode cX9_init 136 = .ok (.ldc 66, 2) := by decide +kernel
theorem dX9_init_138 : decode cX9_init 138 = .ok (.newarray .byte, 2) := by decide +kernel
theorem dX9_init_140 : decode cX9_init 140 = .ok (.putfield 67, 3) := by decide +kernel
theorem dX9_init_143 : decode cX9_init 143 = .ok (.aload_n 0, 1) := by decide +kernel
theorem dX9_init_144 : decode cX9_init 144 = .ok (.sipush 512, 3) := by decide +kernel
theorem dX9_init_147 : decode cX9_init 147 = .ok (.newarray .byte, 2) := by decide +kernel
theorem dX9_init_149 : decode cX9_init 149 = .ok (.putfield 70, 3) := by decide +kernel
theorem dX9_init_152 : decode cX9_init 152 = .ok (.aload_n 0, 1) := by decide +kernel
theorem dX9_init_153 : decode cX9_init 153 = .ok (.bipush 18, 2) := by decide +kernel
theorem dX9_init_155 : decode cX9_init 155 = .ok (.newarray .int, 2) := by decide +kernel
theorem dX9_init_157 : decode cX9_init 157 = .ok (.putfield 73, 3) := by decide +kernel
theorem dX9_init_160 : decode cX9_init 160 = .ok (.aload_n 0, 1) := by decide +kernel
theorem dX9_init_161 : decode cX9_init 161 = .ok (.iconst 4, 1) := by decide +kernel
theorem dX9_init_162 : decode cX9_init 162 = .ok (.newarray .int, 2) := by decide +kernel
theorem dX9_init_164 : decode cX9_init 164 = .ok (.putfield 76, 3) := by decide +kernel
theorem dX9_init_167 : decode cX9_init 167 = .ok (.aload_n 0, 1) := by decide +kernel
theorem dX9_init_168 : decode cX9_init 168 = .ok (.bipush 18, 2) := by decide +kernel
theorem dX9_init_170 : decode cX9_init 170 = .ok (.newarray .int, 2) := by decide +kernel
theorem dX9_init_172 : decode cX9_init 172 = .ok (.putfield 79, 3) := by decide +kernel
theorem dX9_init_175 : decode cX9_init 175 = .ok (.aload_n 0, 1) := by decide +kernel
theorem dX9_init_176 : decode cX9_init 176 = .ok (.bipush 18, 2) := by decide +kernel
theorem dX9_init_178 : decode cX9_init 178 = .ok (.newarray .boolean, 2) := by decide +kernel
theorem dX9_init_180 : decode cX9_init 180 = .ok (.putfield 82, 3) := by decide +kernel
theorem dX9_init_183 : decode cX9_init 183 = .ok (.aload_n 0, 1) := by decide +kernel
theorem dX9_init_184 : decode cX9_init 184 = .ok (.bipush 32, 2) := by decide +kernel
theorem dX9_init_186 : decode cX9_init 186 = .ok (.newarray .long, 2) := by decide +kernel
theorem dX9_init_188 : decode cX9_init 188 = .ok (.putfield 85, 3) := by decide +kernel
theorem dX9_init_191 : decode cX9_init 191 = .ok (.aload_n 0, 1) := by decide +kernel
theorem dX9_init_192 : decode cX9_init 192 = .ok (.iconst 2, 1) := by decide +kernel
theorem dX9_init_193 : decode cX9_init 193 = .ok (.newarray .boolean, 2) := by decide +kernel
theorem dX9_init_195 : decode cX9_init 195 = .ok (.putfield 88, 3) := by decide +kernel
theorem dX9_init_198 : decode cX9_init 198 = .ok (.aload_n 0, 1) := by decide +kernel
theorem dX9_init_199 : decode cX9_init 199 = .ok (.bipush 18, 2) := by decide +kernel
theorem dX9_init_201 : decode cX9_init 201 = .ok (.newarray .int, 2) := by decide +kernel
theorem dX9_init_203 : decode cX9_init 203 = .ok (.putfield 91, 3) := by decide +kernel
theorem dX9_init_206 : decode cX9_init 206 = .ok (.aload_n 0, 1) := by decide +kernel
theorem dX9_init_207 : decode cX9_init 207 = .ok (.bipush 32, 2) := by decide +kernel
theorem dX9_init_209 : decode cX9_init 209 = .ok (.newarray .long, 2) := by decide +kernel
theorem dX9_init_211 : decode cX9_init 211 = .ok (.putfield 94, 3) := by decide +kernel
theorem dX9_init_214 : decode cX9_init 214 = .ok (.aload_n 0, 1) := by decide +kernel
theorem dX9_init_215 : decode cX9_init 215 = .ok (.iconst 2, 1) := by decide +kernel
theorem dX9_init_216 : decode cX9_init 216 = .ok (.newarray .boolean, 2) := by decide +kernel
theorem dX9_init_218 : decode cX9_init 218 = .ok (.putfield 97, 3) := by decide +kernel
theorem dX9_init_221 : decode cX9_init 221 = .ok (.aload_n 0, 1) := by decide +kernel
theorem dX9_init_222 : decode cX9_init 222 = .ok (.bipush 64, 2) := by decide +kernel
theorem dX9_init_224 : decode cX9_init 224 = .ok (.newarray .long, 2) := by decide +kernel
theorem dX9_init_226 : decode cX9_init 226 = .ok (.putfield 100, 3) := by decide +kernel
theorem dX9_init_229 : decode cX9_init 229 = .ok (.aload_n 0, 1) := by decide +kernel
theorem dX9_init_230 : decode cX9_init 230 = .ok (.bipush 64, 2) := by decide +kernel
theorem dX9_init_232 : decode cX9_init 232 = .ok (.newarray .long, 2) := by decide +kernel
theorem dX9_init_234 : decode cX9_init 234 = .ok (.putfield 103, 3) := by decide +kernel
theorem dX9_init_237 : decode cX9_init 237 = .ok (.aload_n 0, 1) := by decide +kernel
theorem dX9_init_238 : decode cX9_init 238 = .ok (.sipush 1920, 3) := by decide +kernel
theorem dX9_init_241 : decode cX9_init 241 = .ok (.newarray .int, 2) := by decide +kernel
theorem dX9_init_243 : decode cX9_init 243 = .ok (.putfield 106, 3) := by decide +kernel
theorem dX9_init_246 : decode cX9_init 246 = .ok (.aload_n 0, 1) := by decide +kernel
theorem dX9_init_247 : decode cX9_init 247 = .ok (.getfield 17, 3) := by decide +kernel
theorem dX9_init_250 : decode cX9_init 250 = .ok (.sipush 255, 3) := by decide +kernel
theorem dX9_init_253 : decode cX9_init 253 = .ok (.ldc2_w 109, 3) := by decide +kernel
theorem dX9_init_256 : decode cX9_init 256 = .ok (.lastore, 1) := by decide +kernel
theorem dX9_init_257 : decode cX9_init 257 = .ok (.sipush 254, 3) := by decide +kernel
theorem dX9_init_260 : decode cX9_init 260 = .ok (.istore_n 1, 1) := by decide +kernel
theorem dX9_init_261 : decode cX9_init 261 = .ok (.iload_n 1, 1) := by decide +kernel
theorem dX9_init_262 : decode cX9_init 262 = .ok (.ifCond .lt 34, 3) := by decide +kernel
theorem dX9_init_265 : decode cX9_init 265 = .ok (.aload_n 0, 1) := by decide +kernel
theorem dX9_init_266 : decode cX9_init 266 = .ok (.getfield 17, 3) := by decide +kernel
theorem dX9_init_269 : decode cX9_init 269 = .ok (.iload_n 1, 1) := by decide +kernel
theorem dX9_init_270 : decode cX9_init 270 = .ok (.ldc2_w 111, 3) := by decide +kernel
theorem dX9_init_273 : decode cX9_init 273 = .ok (.aload_n 0, 1) := by decide +kernel
theorem dX9_init_274 : decode cX9_init 274 = .ok (.getfield 17, 3) := by decide +kernel
theorem dX9_init_277 : decode cX9_init 277 = .ok (.iload_n 1, 1) := by decide +kernel
theorem dX9_init_278 : decode cX9_init 278 = .ok (.iconst 1, 1) := by decide +kernel
theorem dX9_init_279 : decode cX9_init 279 = .ok (.iadd, 1) := by decide +kernel
theorem dX9_init_280 : decode cX9_init 280 = .ok (.laload, 1) := by decide +kernel
theorem dX9_init_281 : decode cX9_init 281 = .ok (.lmul, 1) := by decide +kernel
theorem dX9_init_282 : decode cX9_init 282 = .ok (.ldc2_w 113, 3) := by decide +kernel
theorem dX9_init_285 : decode cX9_init 285 = .ok (.ladd, 1) := by decide +kernel
theorem dX9_init_286 : decode cX9_init 286 = .ok (.bipush 14, 2) := by decide +kernel
theorem dX9_init_288 : decode cX9_init 288 = .ok (.lshr, 1) := by decide +kernel
theorem dX9_init_289 : decode cX9_init 289 = .ok (.lastore, 1) := by decide +kernel
theorem dX9_init_290 : decode cX9_init 290 = .ok (.iinc 1 (-1), 3) := by decide +kernel
theorem dX9_init_293 : decode cX9_init 293 = .ok (.goto (-32), 3) := by decide +kernel
theorem dX9_init_296 : decode cX9_init 296 = .ok (.return_, 1) := by decide +kernel
theorem dX9_crc_0 : decode cX9_crc 0 = .ok (.iconst 0, 1) := by decide +kernel
theorem dX9_crc_1 : decode cX9_crc 1 = .ok (.istore 4, 2) := by decide +kernel
theorem dX9_crc_3 : decode cX9_crc 3 = .ok (.iconst 0, 1) := by decide +kernel
theorem dX9_crc_4 : decode cX9_crc 4 = .ok (.istore 5, 2) := by decide +kernel
theorem dX9_crc_6 : decode cX9_crc 6 = .ok (.iload 5, 2) := by decide +kernel
theorem dX9_crc_8 : decode cX9_crc 8 = .ok (.iload_n 2, 1) := by decide +kernel
theorem dX9_crc_9 : decode cX9_crc 9 = .ok (.if_icmp .ge 82, 3) := by decide +kernel
theorem dX9_crc_12 : decode cX9_crc 12 = .ok (.iload 4, 2) := by decide +kernel
theorem dX9_crc_14 : decode cX9_crc 14 = .ok (.iload 5, 2) := by decide +kernel
theorem dX9_crc_16 : decode cX9_crc 16 = .ok (.iload_n 3, 1) := by decide +kernel
theorem dX9_crc_17 : decode cX9_crc 17 = .ok (.if_icmp .lt 15, 3) := by decide +kernel
theorem dX9_crc_20 : decode cX9_crc 20 = .ok (.iload 5, 2) := by decide +kernel
theorem dX9_crc_22 : decode cX9_crc 22 = .ok (.iload_n 3, 1) := by decide +kernel
theorem dX9_crc_23 : decode cX9_crc 23 = .ok (.iconst 4, 1) := by decide +kernel
theorem dX9_crc_24 : decode cX9_crc 24 = .ok (.iadd, 1) := by decide +kernel
theorem dX9_crc_25 : decode cX9_crc 25 = .ok (.if_icmp .ge 7, 3) := by decide +kernel
theorem dX9_crc_28 : decode cX9_crc 28 = .ok (.iconst 0, 1) := by decide +kernel
theorem dX9_crc_29 : decode cX9_crc 29 = .ok (.goto 13, 3) := by decide +kernel
theorem dX9_crc_32 : decode cX9_crc 32 = .ok (.aload_n 0, 1) := by decide +kernel
theorem dX9_crc_33 : decode cX9_crc 33 = .ok (.iload_n 1, 1) := by decide +kernel
theorem dX9_crc_34 : decode cX9_crc 34 = .ok (.iload 5, 2) := by decide +kernel
theorem dX9_crc_36 : decode cX9_crc 36 = .ok (.iadd, 1) := by decide +kernel
theorem dX9_crc_37 : decode cX9_crc 37 = .ok (.baload, 1) := by decide +kernel
theorem dX9_crc_38 : decode cX9_crc 38 = .ok (.sipush 255, 3) := by decide +kernel
theorem dX9_crc_41 : decode cX9_crc 41 = .ok (.iand, 1) := by decide +kernel
theorem dX9_crc_42 : decode cX9_crc 42 = .ok (.bipush 24, 2) := by decide +kernel
theorem dX9_crc_44 : decode cX9_crc 44 = .ok (.ishl, 1) := by decide +kernel
theorem dX9_crc_45 : decode cX9_crc 45 = .ok (.ixor, 1) := by decide +kernel
theorem dX9_crc_46 : decode cX9_crc 46 = .ok (.istore 4, 2) := by decide +kernel
theorem dX9_crc_48 : decode cX9_crc 48 = .ok (.iconst 0, 1) := by decide +kernel
theorem dX9_crc_49 : decode cX9_crc 49 = .ok (.istore 6, 2) := by decide +kernel
theorem dX9_crc_51 : decode cX9_crc 51 = .ok (.iload 6, 2) := by decide +kernel
theorem dX9_crc_53 : decode cX9_crc 53 = .ok (.bipush 8, 2) := by decide +kernel
theorem dX9_crc_55 : decode cX9_crc 55 = .ok (.if_icmp .ge 30, 3) := by decide +kernel
theorem dX9_crc_58 : decode cX9_crc 58 = .ok (.iload 4, 2) := by decide +kernel
theorem dX9_crc_60 : decode cX9_crc 60 = .ok (.ifCond .ge 13, 3) := by decide +kernel
theorem dX9_crc_63 : decode cX9_crc 63 = .ok (.iload 4, 2) := by decide +kernel
theorem dX9_crc_65 : decode cX9_crc 65 = .ok (.iconst 1, 1) := by decide +kernel
theorem dX9_crc_66 : decode cX9_crc 66 = .ok (.ishl, 1) := by decide +kernel
theorem dX9_crc_67 : decode cX9_crc 67 = .ok (.ldc 115, 2) := by decide +kernel
theorem dX9_crc_69 : decode cX9_crc 69 = .ok (.ixor, 1) := by decide +kernel
theorem dX9_crc_70 : decode cX9_crc 70 = .ok (.goto 7, 3) := by decide +kernel
theorem dX9_crc_73 : decode cX9_crc 73 = .ok (.iload 4, 2) := by decide +kernel
theorem dX9_crc_75 : decode cX9_crc 75 = .ok (.iconst 1, 1) := by decide +kernel
theorem dX9_crc_76 : decode cX9_crc 76 = .ok (.ishl, 1) := by decide +kernel
theorem dX9_crc_77 : decode cX9_crc 77 = .ok (.istore 4, 2) := by decide +kernel
theorem dX9_crc_79 : decode cX9_crc 79 = .ok (.iinc 6 1, 3) := by decide +kernel
theorem dX9_crc_82 : decode cX9_crc 82 = .ok (.goto (-31), 3) := by decide +kernel
theorem dX9_crc_85 : decode cX9_crc 85 = .ok (.iinc 5 1, 3) := by decide +kernel
theorem dX9_crc_88 : decode cX9_crc 88 = .ok (.goto (-82), 3) := by decide +kernel
theorem dX9_crc_91 : decode cX9_crc 91 = .ok (.iload 4, 2) := by decide +kernel
theorem dX9_crc_93 : decode cX9_crc 93 = .ok (.ireturn, 1) := by decide +kernel
theorem dX9_low_0 : decode cX9_low 0 = .ok (.lconst 0, 1) := by decide +kernel
theorem dX9_low_1 : decode cX9_low 1 = .ok (.lstore_n 3, 1) := by decide +kernel
theorem dX9_low_2 : decode cX9_low 2 = .ok (.iload_n 2, 1) := by decide +kernel
theorem dX9_low_3 : decode cX9_low 3 = .ok (.iconst 1, 1) := by decide +kernel
theorem dX9_low_4 : decode cX9_low 4 = .ok (.isub, 1) := by decide +kernel
theorem dX9_low_5 : decode cX9_low 5 = .ok (.istore 5, 2) := by decide +kernel
theorem dX9_low_7 : decode cX9_low 7 = .ok (.iload 5, 2) := by decide +kernel
theorem dX9_low_9 : decode cX9_low 9 = .ok (.ifCond .lt 26, 3) := by decide +kernel
theorem dX9_low_12 : decode cX9_low 12 = .ok (.lload_n 3, 1) := by decide +kernel
theorem dX9_low_13 : decode cX9_low 13 = .ok (.bipush 8, 2) := by decide +kernel
theorem dX9_low_15 : decode cX9_low 15 = .ok (.lshl, 1) := by decide +kernel
theorem dX9_low_16 : decode cX9_low 16 = .ok (.aload_n 0, 1) := by decide +kernel
theorem dX9_low_17 : decode cX9_low 17 = .ok (.iload_n 1, 1) := by decide +kernel
theorem dX9_low_18 : decode cX9_low 18 = .ok (.iload 5, 2) := by decide +kernel
theorem dX9_low_20 : decode cX9_low 20 = .ok (.iadd, 1) := by decide +kernel
theorem dX9_low_21 : decode cX9_low 21 = .ok (.baload, 1) := by decide +kernel
theorem dX9_low_22 : decode cX9_low 22 = .ok (.sipush 255, 3) := by decide +kernel
theorem dX9_low_25 : decode cX9_low 25 = .ok (.iand, 1) := by decide +kernel
theorem dX9_low_26 : decode cX9_low 26 = .ok (.i2l, 1) := by decide +kernel
theorem dX9_low_27 : decode cX9_low 27 = .ok (.lor, 1) := by decide +kernel
theorem dX9_low_28 : decode cX9_low 28 = .ok (.lstore_n 3, 1) := by decide +kernel
theorem dX9_low_29 : decode cX9_low 29 = .ok (.iinc 5 (-1), 3) := by decide +kernel
theorem dX9_low_32 : decode cX9_low 32 = .ok (.goto (-25), 3) := by decide +kernel
theorem dX9_low_35 : decode cX9_low 35 = .ok (.lload_n 3, 1) := by decide +kernel
theorem dX9_low_36 : decode cX9_low 36 = .ok (.lreturn, 1) := by decide +kernel
theorem dX9_putLow_0 : decode cX9_putLow 0 = .ok (.iconst 0, 1) := by decide +kernel
theorem dX9_putLow_1 : decode cX9_putLow 1 = .ok (.istore 5, 2) := by decide +kernel
theorem dX9_putLow_3 : decode cX9_putLow 3 = .ok (.iload 5, 2) := by decide +kernel
theorem dX9_putLow_5 : decode cX9_putLow 5 = .ok (.iload 4, 2) := by decide +kernel
theorem dX9_putLow_7 : decode cX9_putLow 7 = .ok (.if_icmp .ge 24, 3) := by decide +kernel
theorem dX9_putLow_10 : decode cX9_putLow 10 = .ok (.aload_n 0, 1) := by decide +kernel
theorem dX9_putLow_11 : decode cX9_putLow 11 = .ok (.iload_n 1, 1) := by decide +kernel
theorem dX9_putLow_12 : decode cX9_putLow 12 = .ok (.iload 5, 2) := by decide +kernel
theorem dX9_putLow_14 : decode cX9_putLow 14 = .ok (.iadd, 1) := by decide +kernel
theorem dX9_putLow_15 : decode cX9_putLow 15 = .ok (.lload_n 2, 1) := by decide +kernel
theorem dX9_putLow_16 : decode cX9_putLow 16 = .ok (.bipush 8, 2) := by decide +kernel
theorem dX9_putLow_18 : decode cX9_putLow 18 = .ok (.iload 5, 2) := by decide +kernel
theorem dX9_putLow_20 : decode cX9_putLow 20 = .ok (.imul, 1) := by decide +kernel
theorem dX9_putLow_21 : decode cX9_putLow 21 = .ok (.lshr, 1) := by decide +kernel
theorem dX9_putLow_22 : decode cX9_putLow 22 = .ok (.l2i, 1) := by decide +kernel
theorem dX9_putLow_23 : decode cX9_putLow 23 = .ok (.i2b, 1) := by decide +kernel
theorem dX9_putLow_24 : decode cX9_putLow 24 = .ok (.bastore, 1) := by decide +kernel
theorem dX9_putLow_25 : decode cX9_putLow 25 = .ok (.iinc 5 1, 3) := by decide +kernel
theorem dX9_putLow_28 : decode cX9_putLow 28 = .ok (.goto (-25), 3) := by decide +kernel
theorem dX9_putLow_31 : decode cX9_putLow 31 = .ok (.return_, 1) := by decide +kernel
theorem dX9_feed_0 : decode cX9_feed 0 = .ok (.aload_n 0, 1) := by decide +kernel
theorem dX9_feed_1 : decode cX9_feed 1 = .ok (.iconst 0, 1) := by decide +kernel
theorem dX9_feed_2 : decode cX9_feed 2 = .ok (.putfield 1, 3) := by decide +kernel
theorem dX9_feed_5 : decode cX9_feed 5 = .ok (.aload_n 0, 1) := by decide +kernel
theorem dX9_feed_6 : decode cX9_feed 6 = .ok (.getfield 116, 3) := by decide +kernel
theorem dX9_feed_9 : decode cX9_feed 9 = .ok (.bipush 20, 2) := by decide +kernel
theorem dX9_feed_11 : decode cX9_feed 11 = .ok (.iadd, 1) := by decide +kernel
theorem dX9_feed_12 : decode cX9_feed 12 = .ok (.sipush 6000, 3) := by decide +kernel
theorem dX9_feed_15 : decode cX9_feed 15 = .ok (.if_icmp .le 5, 3) := by decide +kernel
theorem dX9_feed_18 : decode cX9_feed 18 = .ok (.iconst (-1), 1) := by decide +kernel
theorem dX9_feed_19 : decode cX9_feed 19 = .ok (.ireturn, 1) := by decide +kernel
theorem dX9_feed_20 : decode cX9_feed 20 = .ok (.aload_n 0, 1) := by decide +kernel
theorem dX9_feed_21 : decode cX9_feed 21 = .ok (.getfield 21, 3) := by decide +kernel
theorem dX9_feed_24 : decode cX9_feed 24 = .ok (.iconst 0, 1) := by decide +kernel
theorem dX9_feed_25 : decode cX9_feed 25 = .ok (.iload_n 1, 1) := by decide +kernel
theorem dX9_feed_26 : decode cX9_feed 26 = .ok (.iastore, 1) := by decide +kernel
theorem dX9_feed_27 : decode cX9_feed 27 = .ok (.aload_n 0, 1) := by decide +kernel
theorem dX9_feed_28 : decode cX9_feed 28 = .ok (.getfield 21, 3) := by decide +kernel
theorem dX9_feed_31 : decode cX9_feed 31 = .ok (.iconst 1, 1) := by decide +kernel
theorem dX9_feed_32 : decode cX9_feed 32 = .ok (.iload_n 2, 1) := by decide +kernel
theorem dX9_feed_33 : decode cX9_feed 33 = .ok (.iastore, 1) := by decide +kernel
theorem dX9_feed_34 : decode cX9_feed 34 = .ok (.aload_n 0, 1) := by decide +kernel
theorem dX9_feed_35 : decode cX9_feed 35 = .ok (.getfield 21, 3) := by decide +kernel
theorem dX9_feed_38 : decode cX9_feed 38 = .ok (.iconst 2, 1) := by decide +kernel
theorem dX9_feed_39 : decode cX9_feed 39 = .ok (.iload_n 3, 1) := by decide +kernel
theorem dX9_feed_40 : decode cX9_feed 40 = .ok (.iastore, 1) := by decide +kernel
theorem dX9_feed_41 : decode cX9_feed 41 = .ok (.aload_n 0, 1) := by decide +kernel
theorem dX9_feed_42 : decode cX9_feed 42 = .ok (.getfield 21, 3) := by decide +kernel
theorem dX9_feed_45 : decode cX9_feed 45 = .ok (.iconst 3, 1) := by decide +kernel
theorem dX9_feed_46 : decode cX9_feed 46 = .ok (.iload 4, 2) := by decide +kernel
theorem dX9_feed_48 : decode cX9_feed 48 = .ok (.iastore, 1) := by decide +kernel
theorem dX9_feed_49 : decode cX9_feed 49 = .ok (.aload_n 0, 1) := by decide +kernel
theorem dX9_feed_50 : decode cX9_feed 50 = .ok (.getfield 21, 3) := by decide +kernel
theorem dX9_feed_53 : decode cX9_feed 53 = .ok (.iconst 4, 1) := by decide +kernel
theorem dX9_feed_54 : decode cX9_feed 54 = .ok (.iload 5, 2) := by decide +kernel
theorem dX9_feed_56 : decode cX9_feed 56 = .ok (.iastore, 1) := by decide +kernel
theorem dX9_feed_57 : decode cX9_feed 57 = .ok (.iconst 0, 1) := by decide +kernel
theorem dX9_feed_58 : decode cX9_feed 58 = .ok (.istore 6, 2) := by decide +kernel
theorem dX9_feed_60 : decode cX9_feed 60 = .ok (.iload 6, 2) := by decide +kernel
theorem dX9_feed_62 : decode cX9_feed 62 = .ok (.bipush 20, 2) := by decide +kernel
theorem dX9_feed_64 : decode cX9_feed 64 = .ok (.if_icmp .ge 42, 3) := by decide +kernel
theorem dX9_feed_67 : decode cX9_feed 67 = .ok (.aload_n 0, 1) := by decide +kernel
theorem dX9_feed_68 : decode cX9_feed 68 = .ok (.getfield 13, 3) := by decide +kernel
theorem dX9_feed_71 : decode cX9_feed 71 = .ok (.aload_n 0, 1) := by decide +kernel
theorem dX9_feed_72 : decode cX9_feed 72 = .ok (.getfield 116, 3) := by decide +kernel
theorem dX9_feed_75 : decode cX9_feed 75 = .ok (.iload 6, 2) := by decide +kernel
theorem dX9_feed_77 : decode cX9_feed 77 = .ok (.iadd, 1) := by decide +kernel
theorem dX9_feed_78 : decode cX9_feed 78 = .ok (.aload_n 0, 1) := by decide +kernel
theorem dX9_feed_79 : decode cX9_feed 79 = .ok (.getfield 21, 3) := by decide +kernel
theorem dX9_feed_82 : decode cX9_feed 82 = .ok (.iload 6, 2) := by decide +kernel
theorem dX9_feed_84 : decode cX9_feed 84 = .ok (.iconst 4, 1) := by decide +kernel
theorem dX9_feed_85 : decode cX9_feed 85 = .ok (.idiv, 1) := by decide +kernel
theorem dX9_feed_86 : decode cX9_feed 86 = .ok (.iaload, 1) := by decide +kernel
theorem dX9_feed_87 : decode cX9_feed 87 = .ok (.bipush 24, 2) := by decide +kernel
theorem dX9_feed_89 : decode cX9_feed 89 = .ok (.bipush 8, 2) := by decide +kernel
theorem dX9_feed_91 : decode cX9_feed 91 = .ok (.iload 6, 2) := by decide +kernel
theorem dX9_feed_93 : decode cX9_feed 93 = .ok (.iconst 4, 1) := by decide +kernel
theorem dX9_feed_94 : decode cX9_feed 94 = .ok (.irem, 1) := by decide +kernel
theorem dX9_feed_95 : decode cX9_feed 95 = .ok (.imul, 1) := by decide +kernel
theorem dX9_feed_96 : decode cX9_feed 96 = .ok (.isub, 1) := by decide +kernel
theorem dX9_feed_97 : decode cX9_feed 97 = .ok (.ishr, 1) := by decide +kernel
theorem dX9_feed_98 : decode cX9_feed 98 = .ok (.i2b, 1) := by decide +kernel
theorem dX9_feed_99 : decode cX9_feed 99 = .ok (.bastore, 1) := by decide +kernel
theorem dX9_feed_100 : decode cX9_feed 100 = .ok (.iinc 6 1, 3) := by decide +kernel
theorem dX9_feed_103 : decode cX9_feed 103 = .ok (.goto (-43), 3) := by decide +kernel
theorem dX9_feed_106 : decode cX9_feed 106 = .ok (.aload_n 0, 1) := by decide +kernel
theorem dX9_feed_107 : decode cX9_feed 107 = .ok (.dup, 1) := by decide +kernel
theorem dX9_feed_108 : decode cX9_feed 108 = .ok (.getfield 116, 3) := by decide +kernel
theorem dX9_feed_111 : decode cX9_feed 111 = .ok (.bipush 20, 2) := by decide +kernel
theorem dX9_feed_113 : decode cX9_feed 113 = .ok (.iadd, 1) := by decide +kernel
theorem dX9_feed_114 : decode cX9_feed 114 = .ok (.putfield 116, 3) := by decide +kernel
theorem dX9_feed_117 : decode cX9_feed 117 = .ok (.aload_n 0, 1) := by decide +kernel
theorem dX9_feed_118 : decode cX9_feed 118 = .ok (.getfield 116, 3) := by decide +kernel
theorem dX9_feed_121 : decode cX9_feed 121 = .ok (.ireturn, 1) := by decide +kernel
theorem dX9_end_0 : decode cX9_end 0 = .ok (.aload_n 0, 1) := by decide +kernel
theorem dX9_end_1 : decode cX9_end 1 = .ok (.iconst 0, 1) := by decide +kernel
theorem dX9_end_2 : decode cX9_end 2 = .ok (.putfield 1, 3) := by decide +kernel
theorem dX9_end_5 : decode cX9_end 5 = .ok (.iload_n 1, 1) := by decide +kernel
theorem dX9_end_6 : decode cX9_end 6 = .ok (.ifCond .lt 11, 3) := by decide +kernel
theorem dX9_end_9 : decode cX9_end 9 = .ok (.iload_n 1, 1) := by decide +kernel
theorem dX9_end_10 : decode cX9_end 10 = .ok (.aload_n 0, 1) := by decide +kernel
theorem dX9_end_11 : decode cX9_end 11 = .ok (.getfield 116, 3) := by decide +kernel
theorem dX9_end_14 : decode cX9_end 14 = .ok (.if_icmp .le 5, 3) := by decide +kernel
theorem dX9_end_17 : decode cX9_end 17 = .ok (.iconst 0, 1) := by decide +kernel
theorem dX9_end_18 : decode cX9_end 18 = .ok (.ireturn, 1) := by decide +kernel
theorem dX9_end_19 : decode cX9_end 19 = .ok (.aload_n 0, 1) := by decide +kernel
theorem dX9_end_20 : decode cX9_end 20 = .ok (.iload_n 1, 1) := by decide +kernel
theorem dX9_end_21 : decode cX9_end 21 = .ok (.putfield 116, 3) := by decide +kernel
theorem dX9_end_24 : decode cX9_end 24 = .ok (.iconst 1, 1) := by decide +kernel
theorem dX9_end_25 : decode cX9_end 25 = .ok (.ireturn, 1) := by decide +kernel
theorem dX9_harm_0 : decode cX9_harm 0 = .ok (.aload_n 0, 1) := by decide +kernel
theorem dX9_harm_1 : decode cX9_harm 1 = .ok (.iconst 0, 1) := by decide +kernel
theorem dX9_harm_2 : decode cX9_harm 2 = .ok (.putfield 1, 3) := by decide +kernel
theorem dX9_harm_5 : decode cX9_harm 5 = .ok (.iload_n 1, 1) := by decide +kernel
theorem dX9_harm_6 : decode cX9_harm 6 = .ok (.ifCond .lt 11, 3) := by decide +kernel
theorem dX9_harm_9 : decode cX9_harm 9 = .ok (.iload_n 1, 1) := by decide +kernel
theorem dX9_harm_10 : decode cX9_harm 10 = .ok (.aload_n 0, 1) := by decide +kernel
theorem dX9_harm_11 : decode cX9_harm 11 = .ok (.getfield 116, 3) := by decide +kernel
theorem dX9_harm_14 : decode cX9_harm 14 = .ok (.if_icmp .lt 5, 3) := by decide +kernel
theorem dX9_harm_17 : decode cX9_harm 17 = .ok (.iconst 0, 1) := by decide +kernel
theorem dX9_harm_18 : decode cX9_harm 18 = .ok (.ireturn, 1) := by decide +kernel
theorem dX9_harm_19 : decode cX9_harm 19 = .ok (.aload_n 0, 1) := by decide +kernel
theorem dX9_harm_20 : decode cX9_harm 20 = .ok (.getfield 13, 3) := by decide +kernel
theorem dX9_harm_23 : decode cX9_harm 23 = .ok (.iload_n 1, 1) := by decide +kernel
theorem dX9_harm_24 : decode cX9_harm 24 = .ok (.dup2, 1) := by decide +kernel
theorem dX9_harm_25 : decode cX9_harm 25 = .ok (.baload, 1) := by decide +kernel
theorem dX9_harm_26 : decode cX9_harm 26 = .ok (.iload_n 2, 1) := by decide +kernel
theorem dX9_harm_27 : decode cX9_harm 27 = .ok (.i2b, 1) := by decide +kernel
theorem dX9_harm_28 : decode cX9_harm 28 = .ok (.ixor, 1) := by decide +kernel
theorem dX9_harm_29 : decode cX9_harm 29 = .ok (.i2b, 1) := by decide +kernel
theorem dX9_harm_30 : decode cX9_harm 30 = .ok (.bastore, 1) := by decide +kernel
theorem dX9_harm_31 : decode cX9_harm 31 = .ok (.iconst 1, 1) := by decide +kernel
theorem dX9_harm_32 : decode cX9_harm 32 = .ok (.ireturn, 1) := by decide +kernel
theorem dX9_page_0 : decode cX9_page 0 = .ok (.aload_n 0, 1) := by decide +kernel
theorem dX9_page_1 : decode cX9_page 1 = .ok (.iconst 0, 1) := by decide +kernel
theorem dX9_page_2 : decode cX9_page 2 = .ok (.putfield 1, 3) := by decide +kernel
theorem dX9_page_5 : decode cX9_page 5 = .ok (.iload_n 1, 1) := by decide +kernel
theorem dX9_page_6 : decode cX9_page 6 = .ok (.ifCond .lt 11, 3) := by decide +kernel
theorem dX9_page_9 : decode cX9_page 9 = .ok (.iload_n 1, 1) := by decide +kernel
theorem dX9_page_10 : decode cX9_page 10 = .ok (.aload_n 0, 1) := by decide +kernel
theorem dX9_page_11 : decode cX9_page 11 = .ok (.getfield 116, 3) := by decide +kernel
theorem dX9_page_14 : decode cX9_page 14 = .ok (.if_icmp .le 5, 3) := by decide +kernel
theorem dX9_page_17 : decode cX9_page 17 = .ok (.iconst (-1), 1) := by decide +kernel
theorem dX9_page_18 : decode cX9_page 18 = .ok (.ireturn, 1) := by decide +kernel
theorem dX9_page_19 : decode cX9_page 19 = .ok (.aload_n 0, 1) := by decide +kernel
theorem dX9_page_20 : decode cX9_page 20 = .ok (.getfield 116, 3) := by decide +kernel
theorem dX9_page_23 : decode cX9_page 23 = .ok (.iload_n 1, 1) := by decide +kernel
theorem dX9_page_24 : decode cX9_page 24 = .ok (.isub, 1) := by decide +kernel
theorem dX9_page_25 : decode cX9_page 25 = .ok (.istore 8, 2) := by decide +kernel
theorem dX9_page_27 : decode cX9_page 27 = .ok (.iload 8, 2) := by decide +kernel
theorem dX9_page_29 : decode cX9_page 29 = .ok (.sipush 255, 3) := by decide +kernel
theorem dX9_page_32 : decode cX9_page 32 = .ok (.idiv, 1) := by decide +kernel
theorem dX9_page_33 : decode cX9_page 33 = .ok (.iload 7, 2) := by decide +kernel
theorem dX9_page_35 : decode cX9_page 35 = .ok (.ifCond .eq 7, 3) := by decide +kernel
theorem dX9_page_38 : decode cX9_page 38 = .ok (.iconst 0, 1) := by decide +kernel
theorem dX9_page_39 : decode cX9_page 39 = .ok (.goto 4, 3) := by decide +kernel
theorem dX9_page_42 : decode cX9_page 42 = .ok (.iconst 1, 1) := by decide +kernel
theorem dX9_page_43 : decode cX9_page 43 = .ok (.iadd, 1) := by decide +kernel
theorem dX9_page_44 : decode cX9_page 44 = .ok (.istore 9, 2) := by decide +kernel
theorem dX9_page_46 : decode cX9_page 46 = .ok (.iload 9, 2) := by decide +kernel
theorem dX9_page_48 : decode cX9_page 48 = .ok (.sipush 255, 3) := by decide +kernel
theorem dX9_page_51 : decode cX9_page 51 = .ok (.if_icmp .gt 33, 3) := by decide +kernel
theorem dX9_page_54 : decode cX9_page 54 = .ok (.iload 7, 2) := by decide +kernel
theorem dX9_page_56 : decode cX9_page 56 = .ok (.ifCond .eq 12, 3) := by decide +kernel
theorem dX9_page_59 : decode cX9_page 59 = .ok (.iload 8, 2) := by decide +kernel
theorem dX9_page_61 : decode cX9_page 61 = .ok (.sipush 255, 3) := by decide +kernel
theorem dX9_page_64 : decode cX9_page 64 = .ok (.irem, 1) := by decide +kernel
theorem dX9_page_65 : decode cX9_page 65 = .ok (.ifCond .ne 19, 3) := by decide +kernel
theorem dX9_page_68 : decode cX9_page 68 = .ok (.aload_n 0, 1) := by decide +kernel
theorem dX9_page_69 : decode cX9_page 69 = .ok (.getfield 116, 3) := by decide +kernel
theorem dX9_page_72 : decode cX9_page 72 = .ok (.bipush 27, 2) := by decide +kernel
theorem dX9_page_74 : decode cX9_page 74 = .ok (.iadd, 1) := by decide +kernel
theorem dX9_page_75 : decode cX9_page 75 = .ok (.iload 9, 2) := by decide +kernel
theorem dX9_page_77 : decode cX9_page 77 = .ok (.iadd, 1) := by decide +kernel
theorem dX9_page_78 : decode cX9_page 78 = .ok (.sipush 6000, 3) := by decide +kernel
theorem dX9_page_81 : decode cX9_page 81 = .ok (.if_icmp .le 5, 3) := by decide +kernel
theorem dX9_page_84 : decode cX9_page 84 = .ok (.iconst (-1), 1) := by decide +kernel
theorem dX9_page_85 : decode cX9_page 85 = .ok (.ireturn, 1) := by decide +kernel
theorem dX9_page_86 : decode cX9_page 86 = .ok (.aload_n 0, 1) := by decide +kernel
theorem dX9_page_87 : decode cX9_page 87 = .ok (.getfield 116, 3) := by decide +kernel
theorem dX9_page_90 : decode cX9_page 90 = .ok (.iconst 1, 1) := by decide +kernel
theorem dX9_page_91 : decode cX9_page 91 = .ok (.isub, 1) := by decide +kernel
theorem dX9_page_92 : decode cX9_page 92 = .ok (.istore 10, 2) := by decide +kernel
theorem dX9_page_94 : decode cX9_page 94 = .ok (.iload 10, 2) := by decide +kernel
theorem dX9_page_96 : decode cX9_page 96 = .ok (.iload_n 1, 1) := by decide +kernel
theorem dX9_page_97 : decode cX9_page 97 = .ok (.if_icmp .lt 29, 3) := by decide +kernel
theorem dX9_page_100 : decode cX9_page 100 = .ok (.aload_n 0, 1) := by decide +kernel
theorem dX9_page_101 : decode cX9_page 101 = .ok (.getfield 13, 3) := by decide +kernel
theorem dX9_page_104 : decode cX9_page 104 = .ok (.iload 10, 2) := by decide +kernel
theorem dX9_page_106 : decode cX9_page 106 = .ok (.bipush 27, 2) := by decide +kernel
theorem dX9_page_108 : decode cX9_page 108 = .ok (.iadd, 1) := by decide +kernel
theorem dX9_page_109 : decode cX9_page 109 = .ok (.iload 9, 2) := by decide +kernel
theorem dX9_page_111 : decode cX9_page 111 = .ok (.iadd, 1) := by decide +kernel
theorem dX9_page_112 : decode cX9_page 112 = .ok (.aload_n 0, 1) := by decide +kernel
theorem dX9_page_113 : decode cX9_page 113 = .ok (.getfield 13, 3) := by decide +kernel
theorem dX9_page_116 : decode cX9_page 116 = .ok (.iload 10, 2) := by decide +kernel
theorem dX9_page_118 : decode cX9_page 118 = .ok (.baload, 1) := by decide +kernel
theorem dX9_page_119 : decode cX9_page 119 = .ok (.bastore, 1) := by decide +kernel
theorem dX9_page_120 : decode cX9_page 120 = .ok (.iinc 10 (-1), 3) := by decide +kernel
theorem dX9_page_123 : decode cX9_page 123 = .ok (.goto (-29), 3) := by decide +kernel
theorem dX9_page_126 : decode cX9_page 126 = .ok (.aload_n 0, 1) := by decide +kernel
theorem dX9_page_127 : decode cX9_page 127 = .ok (.getfield 13, 3) := by decide +kernel
theorem dX9_page_130 : decode cX9_page 130 = .ok (.iload_n 1, 1) := by decide +kernel
theorem dX9_page_131 : decode cX9_page 131 = .ok (.bipush 79, 2) := by decide +kernel
theorem dX9_page_133 : decode cX9_page 133 = .ok (.bastore, 1) := by decide +kernel
theorem dX9_page_134 : decode cX9_page 134 = .ok (.aload_n 0, 1) := by decide +kernel
theorem dX9_page_135 : decode cX9_page 135 = .ok (.getfield 13, 3) := by decide +kernel
theorem dX9_page_138 : decode cX9_page 138 = .ok (.iload_n 1, 1) := by decide +kernel
theorem dX9_page_139 : decode cX9_page 139 = .ok (.iconst 1, 1) := by decide +kernel
theorem dX9_page_140 : decode cX9_page 140 = .ok (.iadd, 1) := by decide +kernel
theorem dX9_page_141 : decode cX9_page 141 = .ok (.bipush 103, 2) := by decide +kernel
theorem dX9_page_143 : decode cX9_page 143 = .ok (.bastore, 1) := by decide +kernel
theorem dX9_page_144 : decode cX9_page 144 = .ok (.aload_n 0, 1) := by decide +kernel
theorem dX9_page_145 : decode cX9_page 145 = .ok (.getfield 13, 3) := by decide +kernel
theorem dX9_page_148 : decode cX9_page 148 = .ok (.iload_n 1, 1) := by decide +kernel
theorem dX9_page_149 : decode cX9_page 149 = .ok (.iconst 2, 1) := by decide +kernel
theorem dX9_page_150 : decode cX9_page 150 = .ok (.iadd, 1) := by decide +kernel
theorem dX9_page_151 : decode cX9_page 151 = .ok (.bipush 103, 2) := by decide +kernel
theorem dX9_page_153 : decode cX9_page 153 = .ok (.bastore, 1) := by decide +kernel
theorem dX9_page_154 : decode cX9_page 154 = .ok (.aload_n 0, 1) := by decide +kernel
theorem dX9_page_155 : decode cX9_page 155 = .ok (.getfield 13, 3) := by decide +kernel
theorem dX9_page_158 : decode cX9_page 158 = .ok (.iload_n 1, 1) := by decide +kernel
theorem dX9_page_159 : decode cX9_page 159 = .ok (.iconst 3, 1) := by decide +kernel
theorem dX9_page_160 : decode cX9_page 160 = .ok (.iadd, 1) := by decide +kernel
theorem dX9_page_161 : decode cX9_page 161 = .ok (.bipush 83, 2) := by decide +kernel
theorem dX9_page_163 : decode cX9_page 163 = .ok (.bastore, 1) := by decide +kernel
theorem dX9_page_164 : decode cX9_page 164 = .ok (.aload_n 0, 1) := by decide +kernel
theorem dX9_page_165 : decode cX9_page 165 = .ok (.getfield 13, 3) := by decide +kernel
theorem dX9_page_168 : decode cX9_page 168 = .ok (.iload_n 1, 1) := by decide +kernel
theorem dX9_page_169 : decode cX9_page 169 = .ok (.iconst 4, 1) := by decide +kernel
theorem dX9_page_170 : decode cX9_page 170 = .ok (.iadd, 1) := by decide +kernel
theorem dX9_page_171 : decode cX9_page 171 = .ok (.iconst 0, 1) := by decide +kernel
theorem dX9_page_172 : decode cX9_page 172 = .ok (.bastore, 1) := by decide +kernel
theorem dX9_page_173 : decode cX9_page 173 = .ok (.aload_n 0, 1) := by decide +kernel
theorem dX9_page_174 : decode cX9_page 174 = .ok (.getfield 13, 3) := by decide +kernel
theorem dX9_page_177 : decode cX9_page 177 = .ok (.iload_n 1, 1) := by decide +kernel
theorem dX9_page_178 : decode cX9_page 178 = .ok (.iconst 5, 1) := by decide +kernel
theorem dX9_page_179 : decode cX9_page 179 = .ok (.iadd, 1) := by decide +kernel
theorem dX9_page_180 : decode cX9_page 180 = .ok (.iload_n 2, 1) := by decide +kernel
theorem dX9_page_181 : decode cX9_page 181 = .ok (.i2b, 1) := by decide +kernel
theorem dX9_page_182 : decode cX9_page 182 = .ok (.bastore, 1) := by decide +kernel
theorem dX9_page_183 : decode cX9_page 183 = .ok (.aload_n 0, 1) := by decide +kernel
theorem dX9_page_184 : decode cX9_page 184 = .ok (.getfield 13, 3) := by decide +kernel
theorem dX9_page_187 : decode cX9_page 187 = .ok (.iload_n 1, 1) := by decide +kernel
theorem dX9_page_188 : decode cX9_page 188 = .ok (.bipush 6, 2) := by decide +kernel
theorem dX9_page_190 : decode cX9_page 190 = .ok (.iadd, 1) := by decide +kernel
theorem dX9_page_191 : decode cX9_page 191 = .ok (.lload_n 3, 1) := by decide +kernel
theorem dX9_page_192 : decode cX9_page 192 = .ok (.bipush 8, 2) := by decide +kernel
theorem dX9_page_194 : decode cX9_page 194 = .ok (.invokestatic 119, 3) := by decide +kernel
theorem dX9_page_197 : decode cX9_page 197 = .ok (.aload_n 0, 1) := by decide +kernel
theorem dX9_page_198 : decode cX9_page 198 = .ok (.getfield 13, 3) := by decide +kernel
theorem dX9_page_201 : decode cX9_page 201 = .ok (.iload_n 1, 1) := by decide +kernel
theorem dX9_page_202 : decode cX9_page 202 = .ok (.bipush 14, 2) := by decide +kernel
theorem dX9_page_204 : decode cX9_page 204 = .ok (.iadd, 1) := by decide +kernel
theorem dX9_page_205 : decode cX9_page 205 = .ok (.iload 5, 2) := by decide +kernel
theorem dX9_page_207 : decode cX9_page 207 = .ok (.i2l, 1) := by decide +kernel
theorem dX9_page_208 : decode cX9_page 208 = .ok (.iconst 4, 1) := by decide +kernel
theorem dX9_page_209 : decode cX9_page 209 = .ok (.invokestatic 119, 3) := by decide +kernel
theorem dX9_page_212 : decode cX9_page 212 = .ok (.aload_n 0, 1) := by decide +kernel
theorem dX9_page_213 : decode cX9_page 213 = .ok (.getfield 13, 3) := by decide +kernel
theorem dX9_page_216 : decode cX9_page 216 = .ok (.iload_n 1, 1) := by decide +kernel
theorem dX9_page_217 : decode cX9_page 217 = .ok (.bipush 18, 2) := by decide +kernel
theorem dX9_page_219 : decode cX9_page 219 = .ok (.iadd, 1) := by decide +kernel
theorem dX9_page_220 : decode cX9_page 220 = .ok (.iload 6, 2) := by decide +kernel
theorem dX9_page_222 : decode cX9_page 222 = .ok (.i2l, 1) := by decide +kernel
theorem dX9_page_223 : decode cX9_page 223 = .ok (.iconst 4, 1) := by decide +kernel
theorem dX9_page_224 : decode cX9_page 224 = .ok (.invokestatic 119, 3) := by decide +kernel
theorem dX9_page_227 : decode cX9_page 227 = .ok (.aload_n 0, 1) := by decide +kernel
theorem dX9_page_228 : decode cX9_page 228 = .ok (.getfield 13, 3) := by decide +kernel
theorem dX9_page_231 : decode cX9_page 231 = .ok (.iload_n 1, 1) := by decide +kernel
theorem dX9_page_232 : decode cX9_page 232 = .ok (.bipush 26, 2) := by decide +kernel
theorem dX9_page_234 : decode cX9_page 234 = .ok (.iadd, 1) := by decide +kernel
theorem dX9_page_235 : decode cX9_page 235 = .ok (.iload 9, 2) := by decide +kernel
theorem dX9_page_237 : decode cX9_page 237 = .ok (.i2b, 1) := by decide +kernel
theorem dX9_page_238 : decode cX9_page 238 = .ok (.bastore, 1) := by decide +kernel
theorem dX9_page_239 : decode cX9_page 239 = .ok (.iconst 0, 1) := by decide +kernel
theorem dX9_page_240 : decode cX9_page 240 = .ok (.istore 10, 2) := by decide +kernel
theorem dX9_page_242 : decode cX9_page 242 = .ok (.iload 10, 2) := by decide +kernel
theorem dX9_page_244 : decode cX9_page 244 = .ok (.iload 9, 2) := by decide +kernel
theorem dX9_page_246 : decode cX9_page 246 = .ok (.if_icmp .ge 47, 3) := by decide +kernel
theorem dX9_page_249 : decode cX9_page 249 = .ok (.aload_n 0, 1) := by decide +kernel
theorem dX9_page_250 : decode cX9_page 250 = .ok (.getfield 13, 3) := by decide +kernel
theorem dX9_page_253 : decode cX9_page 253 = .ok (.iload_n 1, 1) := by decide +kernel
theorem dX9_page_254 : decode cX9_page 254 = .ok (.bipush 27, 2) := by decide +kernel
theorem dX9_page_256 : decode cX9_page 256 = .ok (.iadd, 1) := by decide +kernel
theorem dX9_page_257 : decode cX9_page 257 = .ok (.iload 10, 2) := by decide +kernel
theorem dX9_page_259 : decode cX9_page 259 = .ok (.iadd, 1) := by decide +kernel
theorem dX9_page_260 : decode cX9_page 260 = .ok (.sipush 255, 3) := by decide +kernel
theorem dX9_page_263 : decode cX9_page 263 = .ok (.iload 10, 2) := by decide +kernel
theorem dX9_page_265 : decode cX9_page 265 = .ok (.iconst 1, 1) := by decide +kernel
theorem dX9_page_266 : decode cX9_page 266 = .ok (.iadd, 1) := by decide +kernel
theorem dX9_page_267 : decode cX9_page 267 = .ok (.imul, 1) := by decide +kernel
theorem dX9_page_268 : decode cX9_page 268 = .ok (.iload 8, 2) := by decide +kernel
theorem dX9_page_270 : decode cX9_page 270 = .ok (.if_icmp .gt 9, 3) := by decide +kernel
theorem dX9_page_273 : decode cX9_page 273 = .ok (.sipush 255, 3) := by decide +kernel
theorem dX9_page_276 : decode cX9_page 276 = .ok (.goto 9, 3) := by decide +kernel
theorem dX9_page_279 : decode cX9_page 279 = .ok (.iload 8, 2) := by decide +kernel
theorem dX9_page_281 : decode cX9_page 281 = .ok (.sipush 255, 3) := by decide +kernel
theorem dX9_page_284 : decode cX9_page 284 = .ok (.irem, 1) := by decide +kernel
theorem dX9_page_285 : decode cX9_page 285 = .ok (.i2b, 1) := by decide +kernel
theorem dX9_page_286 : decode cX9_page 286 = .ok (.bastore, 1) := by decide +kernel
theorem dX9_page_287 : decode cX9_page 287 = .ok (.iinc 10 1, 3) := by decide +kernel
theorem dX9_page_290 : decode cX9_page 290 = .ok (.goto (-48), 3) := by decide +kernel
theorem dX9_page_293 : decode cX9_page 293 = .ok (.aload_n 0, 1) := by decide +kernel
theorem dX9_page_294 : decode cX9_page 294 = .ok (.dup, 1) := by decide +kernel
theorem dX9_page_295 : decode cX9_page 295 = .ok (.getfield 116, 3) := by decide +kernel
theorem dX9_page_298 : decode cX9_page 298 = .ok (.bipush 27, 2) := by decide +kernel
theorem dX9_page_300 : decode cX9_page 300 = .ok (.iload 9, 2) := by decide +kernel
theorem dX9_page_302 : decode cX9_page 302 = .ok (.iadd, 1) := by decide +kernel
theorem dX9_page_303 : decode cX9_page 303 = .ok (.iadd, 1) := by decide +kernel
theorem dX9_page_304 : decode cX9_page 304 = .ok (.putfield 116, 3) := by decide +kernel
theorem dX9_page_307 : decode cX9_page 307 = .ok (.aload_n 0, 1) := by decide +kernel
theorem dX9_page_308 : decode cX9_page 308 = .ok (.getfield 13, 3) := by decide +kernel
theorem dX9_page_311 : decode cX9_page 311 = .ok (.iload_n 1, 1) := by decide +kernel
theorem dX9_page_312 : decode cX9_page 312 = .ok (.bipush 22, 2) := by decide +kernel
theorem dX9_page_314 : decode cX9_page 314 = .ok (.iadd, 1) := by decide +kernel
theorem dX9_page_315 : decode cX9_page 315 = .ok (.aload_n 0, 1) := by decide +kernel
theorem dX9_page_316 : decode cX9_page 316 = .ok (.getfield 13, 3) := by decide +kernel
theorem dX9_page_319 : decode cX9_page 319 = .ok (.iload_n 1, 1) := by decide +kernel
theorem dX9_page_320 : decode cX9_page 320 = .ok (.aload_n 0, 1) := by decide +kernel
theorem dX9_page_321 : decode cX9_page 321 = .ok (.getfield 116, 3) := by decide +kernel
theorem dX9_page_324 : decode cX9_page 324 = .ok (.iload_n 1, 1) := by decide +kernel
theorem dX9_page_325 : decode cX9_page 325 = .ok (.isub, 1) := by decide +kernel
theorem dX9_page_326 : decode cX9_page 326 = .ok (.bipush 22, 2) := by decide +kernel
theorem dX9_page_328 : decode cX9_page 328 = .ok (.invokestatic 123, 3) := by decide +kernel
theorem dX9_page_331 : decode cX9_page 331 = .ok (.i2l, 1) := by decide +kernel
theorem dX9_page_332 : decode cX9_page 332 = .ok (.iconst 4, 1) := by decide +kernel
theorem dX9_page_333 : decode cX9_page 333 = .ok (.invokestatic 119, 3) := by decide +kernel
theorem dX9_page_336 : decode cX9_page 336 = .ok (.aload_n 0, 1) := by decide +kernel
theorem dX9_page_337 : decode cX9_page 337 = .ok (.getfield 116, 3) := by decide +kernel
theorem dX9_page_340 : decode cX9_page 340 = .ok (.ireturn, 1) := by decide +kernel
theorem dX9_taped_0 : decode cX9_taped 0 = .ok (.aload_n 0, 1) := by decide +kernel
theorem dX9_taped_1 : decode cX9_taped 1 = .ok (.iconst 0, 1) := by decide +kernel
theorem dX9_taped_2 : decode cX9_taped 2 = .ok (.putfield 1, 3) := by decide +kernel
theorem dX9_taped_5 : decode cX9_taped 5 = .ok (.aload_n 0, 1) := by decide +kernel
theorem dX9_taped_6 : decode cX9_taped 6 = .ok (.getfield 116, 3) := by decide +kernel
theorem dX9_taped_9 : decode cX9_taped 9 = .ok (.ireturn, 1) := by decide +kernel
theorem dX9_pageEnd_0 : decode cX9_pageEnd 0 = .ok (.iload_n 1, 1) := by decide +kernel
theorem dX9_pageEnd_1 : decode cX9_pageEnd 1 = .ok (.bipush 27, 2) := by decide +kernel
theorem dX9_pageEnd_3 : decode cX9_pageEnd 3 = .ok (.iadd, 1) := by decide +kernel
theorem dX9_pageEnd_4 : decode cX9_pageEnd 4 = .ok (.iload_n 2, 1) := by decide +kernel
theorem dX9_pageEnd_5 : decode cX9_pageEnd 5 = .ok (.if_icmp .gt 64, 3) := by decide +kernel
theorem dX9_pageEnd_8 : decode cX9_pageEnd 8 = .ok (.aload_n 0, 1) := by decide +kernel
theorem dX9_pageEnd_9 : decode cX9_pageEnd 9 = .ok (.getfield 13, 3) := by decide +kernel
theorem dX9_pageEnd_12 : decode cX9_pageEnd 12 = .ok (.iload_n 1, 1) := by decide +kernel
theorem dX9_pageEnd_13 : decode cX9_pageEnd 13 = .ok (.baload, 1) := by decide +kernel
theorem dX9_pageEnd_14 : decode cX9_pageEnd 14 = .ok (.bipush 79, 2) := by decide +kernel
theorem dX9_pageEnd_16 : decode cX9_pageEnd 16 = .ok (.if_icmp .ne 53, 3) := by decide +kernel
theorem dX9_pageEnd_19 : decode cX9_pageEnd 19 = .ok (.aload_n 0, 1) := by decide +kernel
theorem dX9_pageEnd_20 : decode cX9_pageEnd 20 = .ok (.getfield 13, 3) := by decide +kernel
theorem dX9_pageEnd_23 : decode cX9_pageEnd 23 = .ok (.iload_n 1, 1) := by decide +kernel
theorem dX9_pageEnd_24 : decode cX9_pageEnd 24 = .ok (.iconst 1, 1) := by decide +kernel
theorem dX9_pageEnd_25 : decode cX9_pageEnd 25 = .ok (.iadd, 1) := by decide +kernel
theorem dX9_pageEnd_26 : decode cX9_pageEnd 26 = .ok (.baload, 1) := by decide +kernel
theorem dX9_pageEnd_27 : decode cX9_pageEnd 27 = .ok (.bipush 103, 2) := by decide +kernel
theorem dX9_pageEnd_29 : decode cX9_pageEnd 29 = .ok (.if_icmp .ne 40, 3) := by decide +kernel
theorem dX9_pageEnd_32 : decode cX9_pageEnd 32 = .ok (.aload_n 0, 1) := by decide +kernel
theorem dX9_pageEnd_33 : decode cX9_pageEnd 33 = .ok (.getfield 13, 3) := by decide +kernel
theorem dX9_pageEnd_36 : decode cX9_pageEnd 36 = .ok (.iload_n 1, 1) := by decide +kernel
theorem dX9_pageEnd_37 : decode cX9_pageEnd 37 = .ok (.iconst 2, 1) := by decide +kernel
theorem dX9_pageEnd_38 : decode cX9_pageEnd 38 = .ok (.iadd, 1) := by decide +kernel
theorem dX9_pageEnd_39 : decode cX9_pageEnd 39 = .ok (.baload, 1) := by decide +kernel
theorem dX9_pageEnd_40 : decode cX9_pageEnd 40 = .ok (.bipush 103, 2) := by decide +kernel
theorem dX9_pageEnd_42 : decode cX9_pageEnd 42 = .ok (.if_icmp .ne 27, 3) := by decide +kernel
theorem dX9_pageEnd_45 : decode cX9_pageEnd 45 = .ok (.aload_n 0, 1) := by decide +kernel
theorem dX9_pageEnd_46 : decode cX9_pageEnd 46 = .ok (.getfield 13, 3) := by decide +kernel
theorem dX9_pageEnd_49 : decode cX9_pageEnd 49 = .ok (.iload_n 1, 1) := by decide +kernel
theorem dX9_pageEnd_50 : decode cX9_pageEnd 50 = .ok (.iconst 3, 1) := by decide +kernel
theorem dX9_pageEnd_51 : decode cX9_pageEnd 51 = .ok (.iadd, 1) := by decide +kernel
theorem dX9_pageEnd_52 : decode cX9_pageEnd 52 = .ok (.baload, 1) := by decide +kernel
theorem dX9_pageEnd_53 : decode cX9_pageEnd 53 = .ok (.bipush 83, 2) := by decide +kernel
theorem dX9_pageEnd_55 : decode cX9_pageEnd 55 = .ok (.if_icmp .ne 14, 3) := by decide +kernel
theorem dX9_pageEnd_58 : decode cX9_pageEnd 58 = .ok (.aload_n 0, 1) := by decide +kernel
theorem dX9_pageEnd_59 : decode cX9_pageEnd 59 = .ok (.getfield 13, 3) := by decide +kernel
theorem dX9_pageEnd_62 : decode cX9_pageEnd 62 = .ok (.iload_n 1, 1) := by decide +kernel
theorem dX9_pageEnd_63 : decode cX9_pageEnd 63 = .ok (.iconst 4, 1) := by decide +kernel
theorem dX9_pageEnd_64 : decode cX9_pageEnd 64 = .ok (.iadd, 1) := by decide +kernel
theorem dX9_pageEnd_65 : decode cX9_pageEnd 65 = .ok (.baload, 1) := by decide +kernel
theorem dX9_pageEnd_66 : decode cX9_pageEnd 66 = .ok (.ifCond .eq 5, 3) := by decide +kernel
theorem dX9_pageEnd_69 : decode cX9_pageEnd 69 = .ok (.iconst (-1), 1) := by decide +kernel
theorem dX9_pageEnd_70 : decode cX9_pageEnd 70 = .ok (.ireturn, 1) := by decide +kernel
theorem dX9_pageEnd_71 : decode cX9_pageEnd 71 = .ok (.aload_n 0, 1) := by decide +kernel
theorem dX9_pageEnd_72 : decode cX9_pageEnd 72 = .ok (.getfield 13, 3) := by decide +kernel
theorem dX9_pageEnd_75 : decode cX9_pageEnd 75 = .ok (.iload_n 1, 1) := by decide +kernel
theorem dX9_pageEnd_76 : decode cX9_pageEnd 76 = .ok (.bipush 26, 2) := by decide +kernel
theorem dX9_pageEnd_78 : decode cX9_pageEnd 78 = .ok (.iadd, 1) := by decide +kernel
theorem dX9_pageEnd_79 : decode cX9_pageEnd 79 = .ok (.baload, 1) := by decide +kernel
theorem dX9_pageEnd_80 : decode cX9_pageEnd 80 = .ok (.sipush 255, 3) := by decide +kernel
theorem dX9_pageEnd_83 : decode cX9_pageEnd 83 = .ok (.iand, 1) := by decide +kernel
theorem dX9_pageEnd_84 : decode cX9_pageEnd 84 = .ok (.istore_n 3, 1) := by decide +kernel
theorem dX9_pageEnd_85 : decode cX9_pageEnd 85 = .ok (.iload_n 1, 1) := by decide +kernel
theorem dX9_pageEnd_86 : decode cX9_pageEnd 86 = .ok (.bipush 27, 2) := by decide +kernel
theorem dX9_pageEnd_88 : decode cX9_pageEnd 88 = .ok (.iadd, 1) := by decide +kernel
theorem dX9_pageEnd_89 : decode cX9_pageEnd 89 = .ok (.iload_n 3, 1) := by decide +kernel
theorem dX9_pageEnd_90 : decode cX9_pageEnd 90 = .ok (.iadd, 1) := by decide +kernel
theorem dX9_pageEnd_91 : decode cX9_pageEnd 91 = .ok (.istore 4, 2) := by decide +kernel
theorem dX9_pageEnd_93 : decode cX9_pageEnd 93 = .ok (.iload 4, 2) := by decide +kernel
theorem dX9_pageEnd_95 : decode cX9_pageEnd 95 = .ok (.iload_n 2, 1) := by decide +kernel
theorem dX9_pageEnd_96 : decode cX9_pageEnd 96 = .ok (.if_icmp .le 5, 3) := by decide +kernel
theorem dX9_pageEnd_99 : decode cX9_pageEnd 99 = .ok (.iconst (-1), 1) := by decide +kernel
theorem dX9_pageEnd_100 : decode cX9_pageEnd 100 = .ok (.ireturn, 1) := by decide +kernel
theorem dX9_pageEnd_101 : decode cX9_pageEnd 101 = .ok (.iconst 0, 1) := by decide +kernel
theorem dX9_pageEnd_102 : decode cX9_pageEnd 102 = .ok (.istore 5, 2) := by decide +kernel
theorem dX9_pageEnd_104 : decode cX9_pageEnd 104 = .ok (.iload 5, 2) := by decide +kernel
theorem dX9_pageEnd_106 : decode cX9_pageEnd 106 = .ok (.iload_n 3, 1) := by decide +kernel
theorem dX9_pageEnd_107 : decode cX9_pageEnd 107 = .ok (.if_icmp .ge 30, 3) := by decide +kernel
theorem dX9_pageEnd_110 : decode cX9_pageEnd 110 = .ok (.iload 4, 2) := by decide +kernel
theorem dX9_pageEnd_112 : decode cX9_pageEnd 112 = .ok (.aload_n 0, 1) := by decide +kernel
theorem dX9_pageEnd_113 : decode cX9_pageEnd 113 = .ok (.getfield 13, 3) := by decide +kernel
theorem dX9_pageEnd_116 : decode cX9_pageEnd 116 = .ok (.iload_n 1, 1) := by decide +kernel
theorem dX9_pageEnd_117 : decode cX9_pageEnd 117 = .ok (.bipush 27, 2) := by decide +kernel
theorem dX9_pageEnd_119 : decode cX9_pageEnd 119 = .ok (.iadd, 1) := by decide +kernel
theorem dX9_pageEnd_120 : decode cX9_pageEnd 120 = .ok (.iload 5, 2) := by decide +kernel
theorem dX9_pageEnd_122 : decode cX9_pageEnd 122 = .ok (.iadd, 1) := by decide +kernel
theorem dX9_pageEnd_123 : decode cX9_pageEnd 123 = .ok (.baload, 1) := by decide +kernel
theorem dX9_pageEnd_124 : decode cX9_pageEnd 124 = .ok (.sipush 255, 3) := by decide +kernel
theorem dX9_pageEnd_127 : decode cX9_pageEnd 127 = .ok (.iand, 1) := by decide +kernel
theorem dX9_pageEnd_128 : decode cX9_pageEnd 128 = .ok (.iadd, 1) := by decide +kernel
theorem dX9_pageEnd_129 : decode cX9_pageEnd 129 = .ok (.istore 4, 2) := by decide +kernel
theorem dX9_pageEnd_131 : decode cX9_pageEnd 131 = .ok (.iinc 5 1, 3) := by decide +kernel
theorem dX9_pageEnd_134 : decode cX9_pageEnd 134 = .ok (.goto (-30), 3) := by decide +kernel
theorem dX9_pageEnd_137 : decode cX9_pageEnd 137 = .ok (.iload 4, 2) := by decide +kernel
theorem dX9_pageEnd_139 : decode cX9_pageEnd 139 = .ok (.iload_n 2, 1) := by decide +kernel
theorem dX9_pageEnd_140 : decode cX9_pageEnd 140 = .ok (.if_icmp .gt 38, 3) := by decide +kernel
theorem dX9_pageEnd_143 : decode cX9_pageEnd 143 = .ok (.aload_n 0, 1) := by decide +kernel
theorem dX9_pageEnd_144 : decode cX9_pageEnd 144 = .ok (.getfield 13, 3) := by decide +kernel
theorem dX9_pageEnd_147 : decode cX9_pageEnd 147 = .ok (.iload_n 1, 1) := by decide +kernel
theorem dX9_pageEnd_148 : decode cX9_pageEnd 148 = .ok (.iload 4, 2) := by decide +kernel
theorem dX9_pageEnd_150 : decode cX9_pageEnd 150 = .ok (.iload_n 1, 1) := by decide +kernel
theorem dX9_pageEnd_151 : decode cX9_pageEnd 151 = .ok (.isub, 1) := by decide +kernel
theorem dX9_pageEnd_152 : decode cX9_pageEnd 152 = .ok (.bipush 22, 2) := by decide +kernel
theorem dX9_pageEnd_154 : decode cX9_pageEnd 154 = .ok (.invokestatic 123, 3) := by decide +kernel
theorem dX9_pageEnd_157 : decode cX9_pageEnd 157 = .ok (.aload_n 0, 1) := by decide +kernel
theorem dX9_pageEnd_158 : decode cX9_pageEnd 158 = .ok (.getfield 13, 3) := by decide +kernel
theorem dX9_pageEnd_161 : decode cX9_pageEnd 161 = .ok (.iload_n 1, 1) := by decide +kernel
theorem dX9_pageEnd_162 : decode cX9_pageEnd 162 = .ok (.bipush 22, 2) := by decide +kernel
theorem dX9_pageEnd_164 : decode cX9_pageEnd 164 = .ok (.iadd, 1) := by decide +kernel
theorem dX9_pageEnd_165 : decode cX9_pageEnd 165 = .ok (.iconst 4, 1) := by decide +kernel
theorem dX9_pageEnd_166 : decode cX9_pageEnd 166 = .ok (.invokestatic 127, 3) := by decide +kernel
theorem dX9_pageEnd_169 : decode cX9_pageEnd 169 = .ok (.l2i, 1) := by decide +kernel
theorem dX9_pageEnd_170 : decode cX9_pageEnd 170 = .ok (.if_icmp .ne 8, 3) := by decide +kernel
theorem dX9_pageEnd_173 : decode cX9_pageEnd 173 = .ok (.iload 4, 2) := by decide +kernel
theorem dX9_pageEnd_175 : decode cX9_pageEnd 175 = .ok (.goto 4, 3) := by decide +kernel
theorem dX9_pageEnd_178 : decode cX9_pageEnd 178 = .ok (.iconst (-1), 1) := by decide +kernel
theorem dX9_pageEnd_179 : decode cX9_pageEnd 179 = .ok (.ireturn, 1) := by decide +kernel
theorem dX9_begins_0 : decode cX9_begins 0 = .ok (.aload_n 0, 1) := by decide +kernel
theorem dX9_begins_1 : decode cX9_begins 1 = .ok (.iconst 0, 1) := by decide +kernel
theorem dX9_begins_2 : decode cX9_begins 2 = .ok (.putfield 131, 3) := by decide +kernel
theorem dX9_begins_5 : decode cX9_begins 5 = .ok (.aload_n 0, 1) := by decide +kernel
theorem dX9_begins_6 : decode cX9_begins 6 = .ok (.iconst 0, 1) := by decide +kernel
theorem dX9_begins_7 : decode cX9_begins 7 = .ok (.putfield 134, 3) := by decide +kernel
theorem dX9_begins_10 : decode cX9_begins 10 = .ok (.return_, 1) := by decide +kernel
theorem dX9_laces_0 : decode cX9_laces 0 = .ok (.aload_n 0, 1) := by decide +kernel
theorem dX9_laces_1 : decode cX9_laces 1 = .ok (.iconst 1, 1) := by decide +kernel
theorem dX9_laces_2 : decode cX9_laces 2 = .ok (.putfield 134, 3) := by decide +kernel
theorem dX9_laces_5 : decode cX9_laces 5 = .ok (.iconst 0, 1) := by decide +kernel
theorem dX9_laces_6 : decode cX9_laces 6 = .ok (.istore_n 3, 1) := by decide +kernel
theorem dX9_laces_7 : decode cX9_laces 7 = .ok (.iload_n 3, 1) := by decide +kernel
theorem dX9_laces_8 : decode cX9_laces 8 = .ok (.iload_n 2, 1) := by decide +kernel
theorem dX9_laces_9 : decode cX9_laces 9 = .ok (.if_icmp .ge 46, 3) := by decide +kernel
theorem dX9_laces_12 : decode cX9_laces 12 = .ok (.aload_n 0, 1) := by decide +kernel
theorem dX9_laces_13 : decode cX9_laces 13 = .ok (.getfield 131, 3) := by decide +kernel
theorem dX9_laces_16 : decode cX9_laces 16 = .ok (.sipush 2000, 3) := by decide +kernel
theorem dX9_laces_19 : decode cX9_laces 19 = .ok (.if_icmp .ge 20, 3) := by decide +kernel
theorem dX9_laces_22 : decode cX9_laces 22 = .ok (.aload_n 0, 1) := by decide +kernel
theorem dX9_laces_23 : decode cX9_laces 23 = .ok (.getfield 32, 3) := by decide +kernel
theorem dX9_laces_26 : decode cX9_laces 26 = .ok (.aload_n 0, 1) := by decide +kernel
theorem dX9_laces_27 : decode cX9_laces 27 = .ok (.getfield 131, 3) := by decide +kernel
theorem dX9_laces_30 : decode cX9_laces 30 = .ok (.aload_n 0, 1) := by decide +kernel
theorem dX9_laces_31 : decode cX9_laces 31 = .ok (.getfield 13, 3) := by decide +kernel
theorem dX9_laces_34 : decode cX9_laces 34 = .ok (.iload_n 1, 1) := by decide +kernel
theorem dX9_laces_35 : decode cX9_laces 35 = .ok (.iload_n 3, 1) := by decide +kernel
theorem dX9_laces_36 : decode cX9_laces 36 = .ok (.iadd, 1) := by decide +kernel
theorem dX9_laces_37 : decode cX9_laces 37 = .ok (.baload, 1) := by decide +kernel
theorem dX9_laces_38 : decode cX9_laces 38 = .ok (.bastore, 1) := by decide +kernel
theorem dX9_laces_39 : decode cX9_laces 39 = .ok (.aload_n 0, 1) := by decide +kernel
theorem dX9_laces_40 : decode cX9_laces 40 = .ok (.dup, 1) := by decide +kernel
theorem dX9_laces_41 : decode cX9_laces 41 = .ok (.getfield 131, 3) := by decide +kernel
theorem dX9_laces_44 : decode cX9_laces 44 = .ok (.iconst 1, 1) := by decide +kernel
theorem dX9_laces_45 : decode cX9_laces 45 = .ok (.iadd, 1) := by decide +kernel
theorem dX9_laces_46 : decode cX9_laces 46 = .ok (.putfield 131, 3) := by decide +kernel
theorem dX9_laces_49 : decode cX9_laces 49 = .ok (.iinc 3 1, 3) := by decide +kernel
theorem dX9_laces_52 : decode cX9_laces 52 = .ok (.goto (-45), 3) := by decide +kernel
theorem dX9_laces_55 : decode cX9_laces 55 = .ok (.iload_n 2, 1) := by decide +kernel
theorem dX9_laces_56 : decode cX9_laces 56 = .ok (.sipush 255, 3) := by decide +kernel
theorem dX9_laces_59 : decode cX9_laces 59 = .ok (.if_icmp .ne 4, 3) := by decide +kernel
theorem dX9_laces_62 : decode cX9_laces 62 = .ok (.return_, 1) := by decide +kernel
theorem dX9_laces_63 : decode cX9_laces 63 = .ok (.aload_n 0, 1) := by decide +kernel
theorem dX9_laces_64 : decode cX9_laces 64 = .ok (.getfield 131, 3) := by decide +kernel
theorem dX9_laces_67 : decode cX9_laces 67 = .ok (.sipush 2000, 3) := by decide +kernel
theorem dX9_laces_70 : decode cX9_laces 70 = .ok (.if_icmp .le 17, 3) := by decide +kernel
theorem dX9_laces_73 : decode cX9_laces 73 = .ok (.aload_n 0, 1) := by decide +kernel
theorem dX9_laces_74 : decode cX9_laces 74 = .ok (.getfield 35, 3) := by decide +kernel
theorem dX9_laces_77 : decode cX9_laces 77 = .ok (.bipush 6, 2) := by decide +kernel
theorem dX9_laces_79 : decode cX9_laces 79 = .ok (.dup2, 1) := by decide +kernel
theorem dX9_laces_80 : decode cX9_laces 80 = .ok (.iaload, 1) := by decide +kernel
theorem dX9_laces_81 : decode cX9_laces 81 = .ok (.iconst 1, 1) := by decide +kernel
theorem dX9_laces_82 : decode cX9_laces 82 = .ok (.iadd, 1) := by decide +kernel
theorem dX9_laces_83 : decode cX9_laces 83 = .ok (.iastore, 1) := by decide +kernel
theorem dX9_laces_84 : decode cX9_laces 84 = .ok (.goto 107, 3) := by decide +kernel
theorem dX9_laces_87 : decode cX9_laces 87 = .ok (.aload_n 0, 1) := by decide +kernel
theorem dX9_laces_88 : decode cX9_laces 88 = .ok (.getfield 138, 3) := by decide +kernel
theorem dX9_laces_91 : decode cX9_laces 91 = .ok (.bipush 60, 2) := by decide +kernel
theorem dX9_laces_93 : decode cX9_laces 93 = .ok (.if_icmp .ge 98, 3) := by decide +kernel
theorem dX9_laces_96 : decode cX9_laces 96 = .ok (.iconst 0, 1) := by decide +kernel
theorem dX9_laces_97 : decode cX9_laces 97 = .ok (.istore_n 3, 1) := by decide +kernel
theorem dX9_laces_98 : decode cX9_laces 98 = .ok (.iload_n 3, 1) := by decide +kernel
theorem dX9_laces_99 : decode cX9_laces 99 = .ok (.aload_n 0, 1) := by decide +kernel
theorem dX9_laces_100 : decode cX9_laces 100 = .ok (.getfield 131, 3) := by decide +kernel
theorem dX9_laces_103 : decode cX9_laces 103 = .ok (.if_icmp .ge 30, 3) := by decide +kernel
theorem dX9_laces_106 : decode cX9_laces 106 = .ok (.aload_n 0, 1) := by decide +kernel
theorem dX9_laces_107 : decode cX9_laces 107 = .ok (.getfield 26, 3) := by decide +kernel
theorem dX9_laces_110 : decode cX9_laces 110 = .ok (.sipush 2000, 3) := by decide +kernel
theorem dX9_laces_113 : decode cX9_laces 113 = .ok (.aload_n 0, 1) := by decide +kernel
theorem dX9_laces_114 : decode cX9_laces 114 = .ok (.getfield 138, 3) := by decide +kernel
theorem dX9_laces_117 : decode cX9_laces 117 = .ok (.imul, 1) := by decide +kernel
theorem dX9_laces_118 : decode cX9_laces 118 = .ok (.iload_n 3, 1) := by decide +kernel
theorem dX9_laces_119 : decode cX9_laces 119 = .ok (.iadd, 1) := by decide +kernel
theorem dX9_laces_120 : decode cX9_laces 120 = .ok (.aload_n 0, 1) := by decide +kernel
theorem dX9_laces_121 : decode cX9_laces 121 = .ok (.getfield 32, 3) := by decide +kernel
theorem dX9_laces_124 : decode cX9_laces 124 = .ok (.iload_n 3, 1) := by decide +kernel
theorem dX9_laces_125 : decode cX9_laces 125 = .ok (.baload, 1) := by decide +kernel
theorem dX9_laces_126 : decode cX9_laces 126 = .ok (.bastore, 1) := by decide +kernel
theorem dX9_laces_127 : decode cX9_laces 127 = .ok (.iinc 3 1, 3) := by decide +kernel
theorem dX9_laces_130 : decode cX9_laces 130 = .ok (.goto (-32), 3) := by decide +kernel
theorem dX9_laces_133 : decode cX9_laces 133 = .ok (.aload_n 0, 1) := by decide +kernel
theorem dX9_laces_134 : decode cX9_laces 134 = .ok (.getfield 29, 3) := by decide +kernel
theorem dX9_laces_137 : decode cX9_laces 137 = .ok (.aload_n 0, 1) := by decide +kernel
theorem dX9_laces_138 : decode cX9_laces 138 = .ok (.getfield 138, 3) := by decide +kernel
theorem dX9_laces_141 : decode cX9_laces 141 = .ok (.aload_n 0, 1) := by decide +kernel
theorem dX9_laces_142 : decode cX9_laces 142 = .ok (.getfield 131, 3) := by decide +kernel
theorem dX9_laces_145 : decode cX9_laces 145 = .ok (.iastore, 1) := by decide +kernel
theorem dX9_laces_146 : decode cX9_laces 146 = .ok (.aload_n 0, 1) := by decide +kernel
theorem dX9_laces_147 : decode cX9_laces 147 = .ok (.getfield 35, 3) := by decide +kernel
theorem dX9_laces_150 : decode cX9_laces 150 = .ok (.bipush 7, 2) := by decide +kernel
theorem dX9_laces_152 : decode cX9_laces 152 = .ok (.aload_n 0, 1) := by decide +kernel
theorem dX9_laces_153 : decode cX9_laces 153 = .ok (.getfield 131, 3) := by decide +kernel
theorem dX9_laces_156 : decode cX9_laces 156 = .ok (.aload_n 0, 1) := by decide +kernel
theorem dX9_laces_157 : decode cX9_laces 157 = .ok (.getfield 35, 3) := by decide +kernel
theorem dX9_laces_160 : decode cX9_laces 160 = .ok (.bipush 7, 2) := by decide +kernel
theorem dX9_laces_162 : decode cX9_laces 162 = .ok (.iaload, 1) := by decide +kernel
theorem dX9_laces_163 : decode cX9_laces 163 = .ok (.if_icmp .le 10, 3) := by decide +kernel
theorem dX9_laces_166 : decode cX9_laces 166 = .ok (.aload_n 0, 1) := by decide +kernel
theorem dX9_laces_167 : decode cX9_laces 167 = .ok (.getfield 131, 3) := by decide +kernel
theorem dX9_laces_170 : decode cX9_laces 170 = .ok (.goto 10, 3) := by decide +kernel
theorem dX9_laces_173 : decode cX9_laces 173 = .ok (.aload_n 0, 1) := by decide +kernel
theorem dX9_laces_174 : decode cX9_laces 174 = .ok (.getfield 35, 3) := by decide +kernel
theorem dX9_laces_177 : decode cX9_laces 177 = .ok (.bipush 7, 2) := by decide +kernel
theorem dX9_laces_179 : decode cX9_laces 179 = .ok (.iaload, 1) := by decide +kernel
theorem dX9_laces_180 : decode cX9_laces 180 = .ok (.iastore, 1) := by decide +kernel
theorem dX9_laces_181 : decode cX9_laces 181 = .ok (.aload_n 0, 1) := by decide +kernel
theorem dX9_laces_182 : decode cX9_laces 182 = .ok (.dup, 1) := by decide +kernel
theorem dX9_laces_183 : decode cX9_laces 183 = .ok (.getfield 138, 3) := by decide +kernel
theorem dX9_laces_186 : decode cX9_laces 186 = .ok (.iconst 1, 1) := by decide +kernel
theorem dX9_laces_187 : decode cX9_laces 187 = .ok (.iadd, 1) := by decide +kernel
theorem dX9_laces_188 : decode cX9_laces 188 = .ok (.putfield 138, 3) := by decide +kernel
theorem dX9_laces_191 : decode cX9_laces 191 = .ok (.aload_n 0, 1) := by decide +kernel
theorem dX9_laces_192 : decode cX9_laces 192 = .ok (.invokevirtual 141, 3) := by decide +kernel
theorem dX9_laces_195 : decode cX9_laces 195 = .ok (.return_, 1) := by decide +kernel
theorem dX9_takesPage_0 : decode cX9_takesPage 0 = .ok (.aload_n 0, 1) := by decide +kernel
theorem dX9_takesPage_1 : decode cX9_takesPage 1 = .ok (.getfield 13, 3) := by decide +kernel
theorem dX9_takesPage_4 : decode cX9_takesPage 4 = .ok (.iload_n 1, 1) := by decide +kernel
theorem dX9_takesPage_5 : decode cX9_takesPage 5 = .ok (.iconst 5, 1) := by decide +kernel
theorem dX9_takesPage_6 : decode cX9_takesPage 6 = .ok (.iadd, 1) := by decide +kernel
theorem dX9_takesPage_7 : decode cX9_takesPage 7 = .ok (.baload, 1) := by decide +kernel
theorem dX9_takesPage_8 : decode cX9_takesPage 8 = .ok (.istore_n 3, 1) := by decide +kernel
theorem dX9_takesPage_9 : decode cX9_takesPage 9 = .ok (.iload_n 2, 1) := by decide +kernel
theorem dX9_takesPage_10 : decode cX9_takesPage 10 = .ok (.ifCond .eq 9, 3) := by decide +kernel
theorem dX9_takesPage_13 : decode cX9_takesPage 13 = .ok (.iload_n 3, 1) := by decide +kernel
theorem dX9_takesPage_14 : decode cX9_takesPage 14 = .ok (.iconst 1, 1) := by decide +kernel
theorem dX9_takesPage_15 : decode cX9_takesPage 15 = .ok (.iand, 1) := by decide +kernel
theorem dX9_takesPage_16 : decode cX9_takesPage 16 = .ok (.ifCond .ne 7, 3) := by decide +kernel
theorem dX9_takesPage_19 : decode cX9_takesPage 19 = .ok (.aload_n 0, 1) := by decide +kernel
theorem dX9_takesPage_20 : decode cX9_takesPage 20 = .ok (.invokevirtual 141, 3) := by decide +kernel
theorem dX9_takesPage_23 : decode cX9_takesPage 23 = .ok (.iload_n 3, 1) := by decide +kernel
theorem dX9_takesPage_24 : decode cX9_takesPage 24 = .ok (.iconst 1, 1) := by decide +kernel
theorem dX9_takesPage_25 : decode cX9_takesPage 25 = .ok (.iand, 1) := by decide +kernel
theorem dX9_takesPage_26 : decode cX9_takesPage 26 = .ok (.ifCond .eq 14, 3) := by decide +kernel
theorem dX9_takesPage_29 : decode cX9_takesPage 29 = .ok (.aload_n 0, 1) := by decide +kernel
theorem dX9_takesPage_30 : decode cX9_takesPage 30 = .ok (.getfield 134, 3) := by decide +kernel
theorem dX9_takesPage_33 : decode cX9_takesPage 33 = .ok (.ifCond .ne 7, 3) := by decide +kernel
theorem dX9_takesPage_36 : decode cX9_takesPage 36 = .ok (.iconst 1, 1) := by decide +kernel
theorem dX9_takesPage_37 : decode cX9_takesPage 37 = .ok (.goto 4, 3) := by decide +kernel
theorem dX9_takesPage_40 : decode cX9_takesPage 40 = .ok (.iconst 0, 1) := by decide +kernel
theorem dX9_takesPage_41 : decode cX9_takesPage 41 = .ok (.istore 4, 2) := by decide +kernel
theorem dX9_takesPage_43 : decode cX9_takesPage 43 = .ok (.aload_n 0, 1) := by decide +kernel
theorem dX9_takesPage_44 : decode cX9_takesPage 44 = .ok (.getfield 13, 3) := by decide +kernel
theorem dX9_takesPage_47 : decode cX9_takesPage 47 = .ok (.iload_n 1, 1) := by decide +kernel
theorem dX9_takesPage_48 : decode cX9_takesPage 48 = .ok (.bipush 26, 2) := by decide +kernel
theorem dX9_takesPage_50 : decode cX9_takesPage 50 = .ok (.iadd, 1) := by decide +kernel
theorem dX9_takesPage_51 : decode cX9_takesPage 51 = .ok (.baload, 1) := by decide +kernel
theorem dX9_takesPage_52 : decode cX9_takesPage 52 = .ok (.sipush 255, 3) := by decide +kernel
theorem dX9_takesPage_55 : decode cX9_takesPage 55 = .ok (.iand, 1) := by decide +kernel
theorem dX9_takesPage_56 : decode cX9_takesPage 56 = .ok (.istore 5, 2) := by decide +kernel
theorem dX9_takesPage_58 : decode cX9_takesPage 58 = .ok (.iload_n 1, 1) := by decide +kernel
theorem dX9_takesPage_59 : decode cX9_takesPage 59 = .ok (.bipush 27, 2) := by decide +kernel
theorem dX9_takesPage_61 : decode cX9_takesPage 61 = .ok (.iadd, 1) := by decide +kernel
theorem dX9_takesPage_62 : decode cX9_takesPage 62 = .ok (.iload 5, 2) := by decide +kernel
theorem dX9_takesPage_64 : decode cX9_takesPage 64 = .ok (.iadd, 1) := by decide +kernel
theorem dX9_takesPage_65 : decode cX9_takesPage 65 = .ok (.istore 6, 2) := by decide +kernel
theorem dX9_takesPage_67 : decode cX9_takesPage 67 = .ok (.iconst 0, 1) := by decide +kernel
theorem dX9_takesPage_68 : decode cX9_takesPage 68 = .ok (.istore 7, 2) := by decide +kernel
theorem dX9_takesPage_70 : decode cX9_takesPage 70 = .ok (.iload 7, 2) := by decide +kernel
theorem dX9_takesPage_72 : decode cX9_takesPage 72 = .ok (.iload 5, 2) := by decide +kernel
theorem dX9_takesPage_74 : decode cX9_takesPage 74 = .ok (.if_icmp .ge 61, 3) := by decide +kernel
theorem dX9_takesPage_77 : decode cX9_takesPage 77 = .ok (.aload_n 0, 1) := by decide +kernel
theorem dX9_takesPage_78 : decode cX9_takesPage 78 = .ok (.getfield 13, 3) := by decide +kernel
theorem dX9_takesPage_81 : decode cX9_takesPage 81 = .ok (.iload_n 1, 1) := by decide +kernel
theorem dX9_takesPage_82 : decode cX9_takesPage 82 = .ok (.bipush 27, 2) := by decide +kernel
theorem dX9_takesPage_84 : decode cX9_takesPage 84 = .ok (.iadd, 1) := by decide +kernel
theorem dX9_takesPage_85 : decode cX9_takesPage 85 = .ok (.iload 7, 2) := by decide +kernel
theorem dX9_takesPage_87 : decode cX9_takesPage 87 = .ok (.iadd, 1) := by decide +kernel
theorem dX9_takesPage_88 : decode cX9_takesPage 88 = .ok (.baload, 1) := by decide +kernel
theorem dX9_takesPage_89 : decode cX9_takesPage 89 = .ok (.sipush 255, 3) := by decide +kernel
theorem dX9_takesPage_92 : decode cX9_takesPage 92 = .ok (.iand, 1) := by decide +kernel
theorem dX9_takesPage_93 : decode cX9_takesPage 93 = .ok (.istore 8, 2) := by decide +kernel
theorem dX9_takesPage_95 : decode cX9_takesPage 95 = .ok (.iload 4, 2) := by decide +kernel
theorem dX9_takesPage_97 : decode cX9_takesPage 97 = .ok (.ifCond .ne 14, 3) := by decide +kernel
theorem dX9_takesPage_100 : decode cX9_takesPage 100 = .ok (.aload_n 0, 1) := by decide +kernel
theorem dX9_takesPage_101 : decode cX9_takesPage 101 = .ok (.iload 6, 2) := by decide +kernel
theorem dX9_takesPage_103 : decode cX9_takesPage 103 = .ok (.iload 8, 2) := by decide +kernel
theorem dX9_takesPage_105 : decode cX9_takesPage 105 = .ok (.invokevirtual 144, 3) := by decide +kernel
theorem dX9_takesPage_108 : decode cX9_takesPage 108 = .ok (.goto 14, 3) := by decide +kernel
theorem dX9_takesPage_111 : decode cX9_takesPage 111 = .ok (.iload 8, 2) := by decide +kernel
theorem dX9_takesPage_113 : decode cX9_takesPage 113 = .ok (.sipush 255, 3) := by decide +kernel
theorem dX9_takesPage_116 : decode cX9_takesPage 116 = .ok (.if_icmp .ge 6, 3) := by decide +kernel
theorem dX9_takesPage_119 : decode cX9_takesPage 119 = .ok (.iconst 0, 1) := by decide +kernel
theorem dX9_takesPage_120 : decode cX9_takesPage 120 = .ok (.istore 4, 2) := by decide +kernel
theorem dX9_takesPage_122 : decode cX9_takesPage 122 = .ok (.iload 6, 2) := by decide +kernel
theorem dX9_takesPage_124 : decode cX9_takesPage 124 = .ok (.iload 8, 2) := by decide +kernel
theorem dX9_takesPage_126 : decode cX9_takesPage 126 = .ok (.iadd, 1) := by decide +kernel
theorem dX9_takesPage_127 : decode cX9_takesPage 127 = .ok (.istore 6, 2) := by decide +kernel
theorem dX9_takesPage_129 : decode cX9_takesPage 129 = .ok (.iinc 7 1, 3) := by decide +kernel
theorem dX9_takesPage_132 : decode cX9_takesPage 132 = .ok (.goto (-62), 3) := by decide +kernel
theorem dX9_takesPage_135 : decode cX9_takesPage 135 = .ok (.aload_n 0, 1) := by decide +kernel
theorem dX9_takesPage_136 : decode cX9_takesPage 136 = .ok (.iload_n 3, 1) := by decide +kernel
theorem dX9_takesPage_137 : decode cX9_takesPage 137 = .ok (.iconst 4, 1) := by decide +kernel
theorem dX9_takesPage_138 : decode cX9_takesPage 138 = .ok (.iand, 1) := by decide +kernel
theorem dX9_takesPage_139 : decode cX9_takesPage 139 = .ok (.ifCond .eq 7, 3) := by decide +kernel
theorem dX9_takesPage_142 : decode cX9_takesPage 142 = .ok (.iconst 1, 1) := by decide +kernel
theorem dX9_takesPage_143 : decode cX9_takesPage 143 = .ok (.goto 4, 3) := by decide +kernel
theorem dX9_takesPage_146 : decode cX9_takesPage 146 = .ok (.iconst 0, 1) := by decide +kernel
theorem dX9_takesPage_147 : decode cX9_takesPage 147 = .ok (.putfield 148, 3) := by decide +kernel
theorem dX9_takesPage_150 : decode cX9_takesPage 150 = .ok (.aload_n 0, 1) := by decide +kernel
theorem dX9_takesPage_151 : decode cX9_takesPage 151 = .ok (.aload_n 0, 1) := by decide +kernel
theorem dX9_takesPage_152 : decode cX9_takesPage 152 = .ok (.getfield 13, 3) := by decide +kernel
theorem dX9_takesPage_155 : decode cX9_takesPage 155 = .ok (.iload_n 1, 1) := by decide +kernel
theorem dX9_takesPage_156 : decode cX9_takesPage 156 = .ok (.bipush 6, 2) := by decide +kernel
theorem dX9_takesPage_158 : decode cX9_takesPage 158 = .ok (.iadd, 1) := by decide +kernel
theorem dX9_takesPage_159 : decode cX9_takesPage 159 = .ok (.bipush 8, 2) := by decide +kernel
theorem dX9_takesPage_161 : decode cX9_takesPage 161 = .ok (.invokestatic 127, 3) := by decide +kernel
theorem dX9_takesPage_164 : decode cX9_takesPage 164 = .ok (.putfield 151, 3) := by decide +kernel
theorem dX9_takesPage_167 : decode cX9_takesPage 167 = .ok (.return_, 1) := by decide +kernel
theorem dX9_pages_0 : decode cX9_pages 0 = .ok (.ldc2_w 155, 3) := by decide +kernel
theorem dX9_pages_3 : decode cX9_pages 3 = .ok (.lstore_n 2, 1) := by decide +kernel
theorem dX9_pages_4 : decode cX9_pages 4 = .ok (.iconst 0, 1) := by decide +kernel
theorem dX9_pages_5 : decode cX9_pages 5 = .ok (.istore 4, 2) := by decide +kernel
theorem dX9_pages_7 : decode cX9_pages 7 = .ok (.iconst 0, 1) := by decide +kernel
theorem dX9_pages_8 : decode cX9_pages 8 = .ok (.istore 5, 2) := by decide +kernel
theorem dX9_pages_10 : decode cX9_pages 10 = .ok (.iload 5, 2) := by decide +kernel
theorem dX9_pages_12 : decode cX9_pages 12 = .ok (.iload_n 1, 1) := by decide +kernel
theorem dX9_pages_13 : decode cX9_pages 13 = .ok (.if_icmp .ge 133, 3) := by decide +kernel
theorem dX9_pages_16 : decode cX9_pages 16 = .ok (.aload_n 0, 1) := by decide +kernel
theorem dX9_pages_17 : decode cX9_pages 17 = .ok (.iload 5, 2) := by decide +kernel
theorem dX9_pages_19 : decode cX9_pages 19 = .ok (.iload_n 1, 1) := by decide +kernel
theorem dX9_pages_20 : decode cX9_pages 20 = .ok (.invokevirtual 157, 3) := by decide +kernel
theorem dX9_pages_23 : decode cX9_pages 23 = .ok (.istore 6, 2) := by decide +kernel
theorem dX9_pages_25 : decode cX9_pages 25 = .ok (.iload 6, 2) := by decide +kernel
theorem dX9_pages_27 : decode cX9_pages 27 = .ok (.ifCond .ge 9, 3) := by decide +kernel
theorem dX9_pages_30 : decode cX9_pages 30 = .ok (.iinc 5 1, 3) := by decide +kernel
theorem dX9_pages_33 : decode cX9_pages 33 = .ok (.goto (-23), 3) := by decide +kernel
theorem dX9_pages_36 : decode cX9_pages 36 = .ok (.aload_n 0, 1) := by decide +kernel
theorem dX9_pages_37 : decode cX9_pages 37 = .ok (.getfield 13, 3) := by decide +kernel
theorem dX9_pages_40 : decode cX9_pages 40 = .ok (.iload 5, 2) := by decide +kernel
theorem dX9_pages_42 : decode cX9_pages 42 = .ok (.bipush 14, 2) := by decide +kernel
theorem dX9_pages_44 : decode cX9_pages 44 = .ok (.iadd, 1) := by decide +kernel
theorem dX9_pages_45 : decode cX9_pages 45 = .ok (.iconst 4, 1) := by decide +kernel
theorem dX9_pages_46 : decode cX9_pages 46 = .ok (.invokestatic 127, 3) := by decide +kernel
theorem dX9_pages_49 : decode cX9_pages 49 = .ok (.lstore 7, 2) := by decide +kernel
theorem dX9_pages_51 : decode cX9_pages 51 = .ok (.lload_n 2, 1) := by decide +kernel
theorem dX9_pages_52 : decode cX9_pages 52 = .ok (.lconst 0, 1) := by decide +kernel
theorem dX9_pages_53 : decode cX9_pages 53 = .ok (.lcmp, 1) := by decide +kernel
theorem dX9_pages_54 : decode cX9_pages 54 = .ok (.ifCond .ge 6, 3) := by decide +kernel
theorem dX9_pages_57 : decode cX9_pages 57 = .ok (.lload 7, 2) := by decide +kernel
theorem dX9_pages_59 : decode cX9_pages 59 = .ok (.lstore_n 2, 1) := by decide +kernel
theorem dX9_pages_60 : decode cX9_pages 60 = .ok (.lload 7, 2) := by decide +kernel
theorem dX9_pages_62 : decode cX9_pages 62 = .ok (.lload_n 2, 1) := by decide +kernel
theorem dX9_pages_63 : decode cX9_pages 63 = .ok (.lcmp, 1) := by decide +kernel
theorem dX9_pages_64 : decode cX9_pages 64 = .ok (.ifCond .ne 65, 3) := by decide +kernel
theorem dX9_pages_67 : decode cX9_pages 67 = .ok (.aload_n 0, 1) := by decide +kernel
theorem dX9_pages_68 : decode cX9_pages 68 = .ok (.getfield 13, 3) := by decide +kernel
theorem dX9_pages_71 : decode cX9_pages 71 = .ok (.iload 5, 2) := by decide +kernel
theorem dX9_pages_73 : decode cX9_pages 73 = .ok (.bipush 18, 2) := by decide +kernel
theorem dX9_pages_75 : decode cX9_pages 75 = .ok (.iadd, 1) := by decide +kernel
theorem dX9_pages_76 : decode cX9_pages 76 = .ok (.iconst 4, 1) := by decide +kernel
theorem dX9_pages_77 : decode cX9_pages 77 = .ok (.invokestatic 127, 3) := by decide +kernel
theorem dX9_pages_80 : decode cX9_pages 80 = .ok (.l2i, 1) := by decide +kernel
theorem dX9_pages_81 : decode cX9_pages 81 = .ok (.istore 9, 2) := by decide +kernel
theorem dX9_pages_83 : decode cX9_pages 83 = .ok (.aload_n 0, 1) := by decide +kernel
theorem dX9_pages_84 : decode cX9_pages 84 = .ok (.iload 5, 2) := by decide +kernel
theorem dX9_pages_86 : decode cX9_pages 86 = .ok (.aload_n 0, 1) := by decide +kernel
theorem dX9_pages_87 : decode cX9_pages 87 = .ok (.getfield 35, 3) := by decide +kernel
theorem dX9_pages_90 : decode cX9_pages 90 = .ok (.iconst 0, 1) := by decide +kernel
theorem dX9_pages_91 : decode cX9_pages 91 = .ok (.iaload, 1) := by decide +kernel
theorem dX9_pages_92 : decode cX9_pages 92 = .ok (.ifCond .eq 12, 3) := by decide +kernel
theorem dX9_pages_95 : decode cX9_pages 95 = .ok (.iload 9, 2) := by decide +kernel
theorem dX9_pages_97 : decode cX9_pages 97 = .ok (.iload 4, 2) := by decide +kernel
theorem dX9_pages_99 : decode cX9_pages 99 = .ok (.iconst 1, 1) := by decide +kernel
theorem dX9_pages_100 : decode cX9_pages 100 = .ok (.iadd, 1) := by decide +kernel
theorem dX9_pages_101 : decode cX9_pages 101 = .ok (.if_icmp .ne 7, 3) := by decide +kernel
theorem dX9_pages_104 : decode cX9_pages 104 = .ok (.iconst 1, 1) := by decide +kernel
theorem dX9_pages_105 : decode cX9_pages 105 = .ok (.goto 4, 3) := by decide +kernel
theorem dX9_pages_108 : decode cX9_pages 108 = .ok (.iconst 0, 1) := by decide +kernel
theorem dX9_pages_109 : decode cX9_pages 109 = .ok (.invokevirtual 161, 3) := by decide +kernel
theorem dX9_pages_112 : decode cX9_pages 112 = .ok (.iload 9, 2) := by decide +kernel
theorem dX9_pages_114 : decode cX9_pages 114 = .ok (.istore 4, 2) := by decide +kernel
theorem dX9_pages_116 : decode cX9_pages 116 = .ok (.aload_n 0, 1) := by decide +kernel
theorem dX9_pages_117 : decode cX9_pages 117 = .ok (.getfield 35, 3) := by decide +kernel
theorem dX9_pages_120 : decode cX9_pages 120 = .ok (.iconst 0, 1) := by decide +kernel
theorem dX9_pages_121 : decode cX9_pages 121 = .ok (.dup2, 1) := by decide +kernel
theorem dX9_pages_122 : decode cX9_pages 122 = .ok (.iaload, 1) := by decide +kernel
theorem dX9_pages_123 : decode cX9_pages 123 = .ok (.iconst 1, 1) := by decide +kernel
theorem dX9_pages_124 : decode cX9_pages 124 = .ok (.iadd, 1) := by decide +kernel
theorem dX9_pages_125 : decode cX9_pages 125 = .ok (.iastore, 1) := by decide +kernel
theorem dX9_pages_126 : decode cX9_pages 126 = .ok (.goto 13, 3) := by decide +kernel
theorem dX9_pages_129 : decode cX9_pages 129 = .ok (.aload_n 0, 1) := by decide +kernel
theorem dX9_pages_130 : decode cX9_pages 130 = .ok (.getfield 35, 3) := by decide +kernel
theorem dX9_pages_133 : decode cX9_pages 133 = .ok (.iconst 1, 1) := by decide +kernel
theorem dX9_pages_134 : decode cX9_pages 134 = .ok (.dup2, 1) := by decide +kernel
theorem dX9_pages_135 : decode cX9_pages 135 = .ok (.iaload, 1) := by decide +kernel
theorem dX9_pages_136 : decode cX9_pages 136 = .ok (.iconst 1, 1) := by decide +kernel
theorem dX9_pages_137 : decode cX9_pages 137 = .ok (.iadd, 1) := by decide +kernel
theorem dX9_pages_138 : decode cX9_pages 138 = .ok (.iastore, 1) := by decide +kernel
theorem dX9_pages_139 : decode cX9_pages 139 = .ok (.iload 6, 2) := by decide +kernel
theorem dX9_pages_141 : decode cX9_pages 141 = .ok (.istore 5, 2) := by decide +kernel
theorem dX9_pages_143 : decode cX9_pages 143 = .ok (.goto (-133), 3) := by decide +kernel
theorem dX9_pages_146 : decode cX9_pages 146 = .ok (.return_, 1) := by decide +kernel
theorem dX9_opens_0 : decode cX9_opens 0 = .ok (.aload_n 0, 1) := by decide +kernel
theorem dX9_opens_1 : decode cX9_opens 1 = .ok (.sipush 2000, 3) := by decide +kernel
theorem dX9_opens_4 : decode cX9_opens 4 = .ok (.iload_n 1, 1) := by decide +kernel
theorem dX9_opens_5 : decode cX9_opens 5 = .ok (.imul, 1) := by decide +kernel
theorem dX9_opens_6 : decode cX9_opens 6 = .ok (.putfield 165, 3) := by decide +kernel
theorem dX9_opens_9 : decode cX9_opens 9 = .ok (.aload_n 0, 1) := by decide +kernel
theorem dX9_opens_10 : decode cX9_opens 10 = .ok (.iconst 0, 1) := by decide +kernel
theorem dX9_opens_11 : decode cX9_opens 11 = .ok (.putfield 168, 3) := by decide +kernel
theorem dX9_opens_14 : decode cX9_opens 14 = .ok (.aload_n 0, 1) := by decide +kernel
theorem dX9_opens_15 : decode cX9_opens 15 = .ok (.bipush 8, 2) := by decide +kernel
theorem dX9_opens_17 : decode cX9_opens 17 = .ok (.aload_n 0, 1) := by decide +kernel
theorem dX9_opens_18 : decode cX9_opens 18 = .ok (.getfield 29, 3) := by decide +kernel
theorem dX9_opens_21 : decode cX9_opens 21 = .ok (.iload_n 1, 1) := by decide +kernel
theorem dX9_opens_22 : decode cX9_opens 22 = .ok (.iaload, 1) := by decide +kernel
theorem dX9_opens_23 : decode cX9_opens 23 = .ok (.imul, 1) := by decide +kernel
theorem dX9_opens_24 : decode cX9_opens 24 = .ok (.putfield 171, 3) := by decide +kernel
theorem dX9_opens_27 : decode cX9_opens 27 = .ok (.aload_n 0, 1) := by decide +kernel
theorem dX9_opens_28 : decode cX9_opens 28 = .ok (.iconst 0, 1) := by decide +kernel
theorem dX9_opens_29 : decode cX9_opens 29 = .ok (.putfield 174, 3) := by decide +kernel
theorem dX9_opens_32 : decode cX9_opens 32 = .ok (.return_, 1) := by decide +kernel
theorem dX9_bit_0 : decode cX9_bit 0 = .ok (.aload_n 0, 1) := by decide +kernel
theorem dX9_bit_1 : decode cX9_bit 1 = .ok (.getfield 174, 3) := by decide +kernel
theorem dX9_bit_4 : decode cX9_bit 4 = .ok (.ifCond .ne 14, 3) := by decide +kernel
theorem dX9_bit_7 : decode cX9_bit 7 = .ok (.aload_n 0, 1) := by decide +kernel
theorem dX9_bit_8 : decode cX9_bit 8 = .ok (.getfield 168, 3) := by decide +kernel
theorem dX9_bit_11 : decode cX9_bit 11 = .ok (.aload_n 0, 1) := by decide +kernel
theorem dX9_bit_12 : decode cX9_bit 12 = .ok (.getfield 171, 3) := by decide +kernel
theorem dX9_bit_15 : decode cX9_bit 15 = .ok (.if_icmp .ne 10, 3) := by decide +kernel
theorem dX9_bit_18 : decode cX9_bit 18 = .ok (.aload_n 0, 1) := by decide +kernel
theorem dX9_bit_19 : decode cX9_bit 19 = .ok (.iconst 1, 1) := by decide +kernel
theorem dX9_bit_20 : decode cX9_bit 20 = .ok (.putfield 174, 3) := by decide +kernel
theorem dX9_bit_23 : decode cX9_bit 23 = .ok (.iconst 0, 1) := by decide +kernel
theorem dX9_bit_24 : decode cX9_bit 24 = .ok (.ireturn, 1) := by decide +kernel
theorem dX9_bit_25 : decode cX9_bit 25 = .ok (.aload_n 0, 1) := by decide +kernel
theorem dX9_bit_26 : decode cX9_bit 26 = .ok (.dup, 1) := by decide +kernel
theorem dX9_bit_27 : decode cX9_bit 27 = .ok (.getfield 168, 3) := by decide +kernel
theorem dX9_bit_30 : decode cX9_bit 30 = .ok (.iconst 1, 1) := by decide +kernel
theorem dX9_bit_31 : decode cX9_bit 31 = .ok (.iadd, 1) := by decide +kernel
theorem dX9_bit_32 : decode cX9_bit 32 = .ok (.putfield 168, 3) := by decide +kernel
theorem dX9_bit_35 : decode cX9_bit 35 = .ok (.aload_n 0, 1) := by decide +kernel
theorem dX9_bit_36 : decode cX9_bit 36 = .ok (.getfield 26, 3) := by decide +kernel
theorem dX9_bit_39 : decode cX9_bit 39 = .ok (.aload_n 0, 1) := by decide +kernel
theorem dX9_bit_40 : decode cX9_bit 40 = .ok (.getfield 165, 3) := by decide +kernel
theorem dX9_bit_43 : decode cX9_bit 43 = .ok (.aload_n 0, 1) := by decide +kernel
theorem dX9_bit_44 : decode cX9_bit 44 = .ok (.getfield 168, 3) := by decide +kernel
theorem dX9_bit_47 : decode cX9_bit 47 = .ok (.iconst 1, 1) := by decide +kernel
theorem dX9_bit_48 : decode cX9_bit 48 = .ok (.isub, 1) := by decide +kernel
theorem dX9_bit_49 : decode cX9_bit 49 = .ok (.bipush 8, 2) := by decide +kernel
theorem dX9_bit_51 : decode cX9_bit 51 = .ok (.idiv, 1) := by decide +kernel
theorem dX9_bit_52 : decode cX9_bit 52 = .ok (.iadd, 1) := by decide +kernel
theorem dX9_bit_53 : decode cX9_bit 53 = .ok (.baload, 1) := by decide +kernel
theorem dX9_bit_54 : decode cX9_bit 54 = .ok (.aload_n 0, 1) := by decide +kernel
theorem dX9_bit_55 : decode cX9_bit 55 = .ok (.getfield 168, 3) := by decide +kernel
theorem dX9_bit_58 : decode cX9_bit 58 = .ok (.iconst 1, 1) := by decide +kernel
theorem dX9_bit_59 : decode cX9_bit 59 = .ok (.isub, 1) := by decide +kernel
theorem dX9_bit_60 : decode cX9_bit 60 = .ok (.bipush 8, 2) := by decide +kernel
theorem dX9_bit_62 : decode cX9_bit 62 = .ok (.irem, 1) := by decide +kernel
theorem dX9_bit_63 : decode cX9_bit 63 = .ok (.ishr, 1) := by decide +kernel
theorem dX9_bit_64 : decode cX9_bit 64 = .ok (.iconst 1, 1) := by decide +kernel
theorem dX9_bit_65 : decode cX9_bit 65 = .ok (.iand, 1) := by decide +kernel
theorem dX9_bit_66 : decode cX9_bit 66 = .ok (.ireturn, 1) := by decide +kernel
theorem dX9_bits_0 : decode cX9_bits 0 = .ok (.iconst 0, 1) := by decide +kernel
theorem dX9_bits_1 : decode cX9_bits 1 = .ok (.istore_n 2, 1) := by decide +kernel
theorem dX9_bits_2 : decode cX9_bits 2 = .ok (.iconst 0, 1) := by decide +kernel
theorem dX9_bits_3 : decode cX9_bits 3 = .ok (.istore_n 3, 1) := by decide +kernel
theorem dX9_bits_4 : decode cX9_bits 4 = .ok (.iload_n 3, 1) := by decide +kernel
theorem dX9_bits_5 : decode cX9_bits 5 = .ok (.iload_n 1, 1) := by decide +kernel
theorem dX9_bits_6 : decode cX9_bits 6 = .ok (.if_icmp .ge 18, 3) := by decide +kernel
theorem dX9_bits_9 : decode cX9_bits 9 = .ok (.iload_n 2, 1) := by decide +kernel
theorem dX9_bits_10 : decode cX9_bits 10 = .ok (.aload_n 0, 1) := by decide +kernel
theorem dX9_bits_11 : decode cX9_bits 11 = .ok (.invokevirtual 177, 3) := by decide +kernel
theorem dX9_bits_14 : decode cX9_bits 14 = .ok (.iload_n 3, 1) := by decide +kernel
theorem dX9_bits_15 : decode cX9_bits 15 = .ok (.ishl, 1) := by decide +kernel
theorem dX9_bits_16 : decode cX9_bits 16 = .ok (.ior, 1) := by decide +kernel
theorem dX9_bits_17 : decode cX9_bits 17 = .ok (.istore_n 2, 1) := by decide +kernel
theorem dX9_bits_18 : decode cX9_bits 18 = .ok (.iinc 3 1, 3) := by decide +kernel
theorem dX9_bits_21 : decode cX9_bits 21 = .ok (.goto (-17), 3) := by decide +kernel
theorem dX9_bits_24 : decode cX9_bits 24 = .ok (.iload_n 2, 1) := by decide +kernel
theorem dX9_bits_25 : decode cX9_bits 25 = .ok (.ireturn, 1) := by decide +kernel
theorem dX9_wrong_0 : decode cX9_wrong 0 = .ok (.aload_n 0, 1) := by decide +kernel
theorem dX9_wrong_1 : decode cX9_wrong 1 = .ok (.getfield 181, 3) := by decide +kernel
theorem dX9_wrong_4 : decode cX9_wrong 4 = .ok (.ifCond .ne 8, 3) := by decide +kernel
theorem dX9_wrong_7 : decode cX9_wrong 7 = .ok (.aload_n 0, 1) := by decide +kernel
theorem dX9_wrong_8 : decode cX9_wrong 8 = .ok (.iload_n 1, 1) := by decide +kernel
theorem dX9_wrong_9 : decode cX9_wrong 9 = .ok (.putfield 181, 3) := by decide +kernel
theorem dX9_wrong_12 : decode cX9_wrong 12 = .ok (.return_, 1) := by decide +kernel
theorem dX9_ended_0 : decode cX9_ended 0 = .ok (.aload_n 0, 1) := by decide +kernel
theorem dX9_ended_1 : decode cX9_ended 1 = .ok (.getfield 174, 3) := by decide +kernel
theorem dX9_ended_4 : decode cX9_ended 4 = .ok (.ifCond .eq 8, 3) := by decide +kernel
theorem dX9_ended_7 : decode cX9_ended 7 = .ok (.aload_n 0, 1) := by decide +kernel
theorem dX9_ended_8 : decode cX9_ended 8 = .ok (.iconst 2, 1) := by decide +kernel
theorem dX9_ended_9 : decode cX9_ended 9 = .ok (.invokevirtual 184, 3) := by decide +kernel
theorem dX9_ended_12 : decode cX9_ended 12 = .ok (.return_, 1) := by decide +kernel
theorem dX9_gives_0 : decode cX9_gives 0 = .ok (.ldc 188, 2) := by decide +kernel
theorem dX9_gives_2 : decode cX9_gives 2 = .ok (.iload_n 3, 1) := by decide +kernel
theorem dX9_gives_3 : decode cX9_gives 3 = .ok (.ishr, 1) := by decide +kernel
theorem dX9_gives_4 : decode cX9_gives 4 = .ok (.istore 4, 2) := by decide +kernel
theorem dX9_gives_6 : decode cX9_gives 6 = .ok (.iconst 0, 1) := by decide +kernel
theorem dX9_gives_7 : decode cX9_gives 7 = .ok (.istore 5, 2) := by decide +kernel
theorem dX9_gives_9 : decode cX9_gives 9 = .ok (.iload 5, 2) := by decide +kernel
theorem dX9_gives_11 : decode cX9_gives 11 = .ok (.ldc 188, 2) := by decide +kernel
theorem dX9_gives_13 : decode cX9_gives 13 = .ok (.if_icmp .ge 107, 3) := by decide +kernel
theorem dX9_gives_16 : decode cX9_gives 16 = .ok (.iconst 1, 1) := by decide +kernel
theorem dX9_gives_17 : decode cX9_gives 17 = .ok (.istore 6, 2) := by decide +kernel
theorem dX9_gives_19 : decode cX9_gives 19 = .ok (.iload 5, 2) := by decide +kernel
theorem dX9_gives_21 : decode cX9_gives 21 = .ok (.istore 7, 2) := by decide +kernel
theorem dX9_gives_23 : decode cX9_gives 23 = .ok (.iload 7, 2) := by decide +kernel
theorem dX9_gives_25 : decode cX9_gives 25 = .ok (.iload 5, 2) := by decide +kernel
theorem dX9_gives_27 : decode cX9_gives 27 = .ok (.iload 4, 2) := by decide +kernel
theorem dX9_gives_29 : decode cX9_gives 29 = .ok (.iadd, 1) := by decide +kernel
theorem dX9_gives_30 : decode cX9_gives 30 = .ok (.if_icmp .ge 36, 3) := by decide +kernel
theorem dX9_gives_33 : decode cX9_gives 33 = .ok (.iload 6, 2) := by decide +kernel
theorem dX9_gives_35 : decode cX9_gives 35 = .ok (.ifCond .eq 31, 3) := by decide +kernel
theorem dX9_gives_38 : decode cX9_gives 38 = .ok (.aload_n 0, 1) := by decide +kernel
theorem dX9_gives_39 : decode cX9_gives 39 = .ok (.getfield 67, 3) := by decide +kernel
theorem dX9_gives_42 : decode cX9_gives 42 = .ok (.ldc 188, 2) := by decide +kernel
theorem dX9_gives_44 : decode cX9_gives 44 = .ok (.iload_n 1, 1) := by decide +kernel
theorem dX9_gives_45 : decode cX9_gives 45 = .ok (.imul, 1) := by decide +kernel
theorem dX9_gives_46 : decode cX9_gives 46 = .ok (.iload 7, 2) := by decide +kernel
theorem dX9_gives_48 : decode cX9_gives 48 = .ok (.iadd, 1) := by decide +kernel
theorem dX9_gives_49 : decode cX9_gives 49 = .ok (.baload, 1) := by decide +kernel
theorem dX9_gives_50 : decode cX9_gives 50 = .ok (.ifCond .ge 7, 3) := by decide +kernel
theorem dX9_gives_53 : decode cX9_gives 53 = .ok (.iconst 1, 1) := by decide +kernel
theorem dX9_gives_54 : decode cX9_gives 54 = .ok (.goto 4, 3) := by decide +kernel
theorem dX9_gives_57 : decode cX9_gives 57 = .ok (.iconst 0, 1) := by decide +kernel
theorem dX9_gives_58 : decode cX9_gives 58 = .ok (.istore 6, 2) := by decide +kernel
theorem dX9_gives_60 : decode cX9_gives 60 = .ok (.iinc 7 1, 3) := by decide +kernel
theorem dX9_gives_63 : decode cX9_gives 63 = .ok (.goto (-40), 3) := by decide +kernel
theorem dX9_gives_66 : decode cX9_gives 66 = .ok (.iload 6, 2) := by decide +kernel
theorem dX9_gives_68 : decode cX9_gives 68 = .ok (.ifCond .ne 6, 3) := by decide +kernel
theorem dX9_gives_71 : decode cX9_gives 71 = .ok (.goto 39, 3) := by decide +kernel
theorem dX9_gives_74 : decode cX9_gives 74 = .ok (.iload 5, 2) := by decide +kernel
theorem dX9_gives_76 : decode cX9_gives 76 = .ok (.istore 7, 2) := by decide +kernel
theorem dX9_gives_78 : decode cX9_gives 78 = .ok (.iload 7, 2) := by decide +kernel
theorem dX9_gives_80 : decode cX9_gives 80 = .ok (.iload 5, 2) := by decide +kernel
theorem dX9_gives_82 : decode cX9_gives 82 = .ok (.iload 4, 2) := by decide +kernel
theorem dX9_gives_84 : decode cX9_gives 84 = .ok (.iadd, 1) := by decide +kernel
theorem dX9_gives_85 : decode cX9_gives 85 = .ok (.if_icmp .ge 23, 3) := by decide +kernel
theorem dX9_gives_88 : decode cX9_gives 88 = .ok (.aload_n 0, 1) := by decide +kernel
theorem dX9_gives_89 : decode cX9_gives 89 = .ok (.getfield 67, 3) := by decide +kernel
theorem dX9_gives_92 : decode cX9_gives 92 = .ok (.ldc 188, 2) := by decide +kernel
theorem dX9_gives_94 : decode cX9_gives 94 = .ok (.iload_n 1, 1) := by decide +kernel
theorem dX9_gives_95 : decode cX9_gives 95 = .ok (.imul, 1) := by decide +kernel
theorem dX9_gives_96 : decode cX9_gives 96 = .ok (.iload 7, 2) := by decide +kernel
theorem dX9_gives_98 : decode cX9_gives 98 = .ok (.iadd, 1) := by decide +kernel
theorem dX9_gives_99 : decode cX9_gives 99 = .ok (.iload_n 2, 1) := by decide +kernel
theorem dX9_gives_100 : decode cX9_gives 100 = .ok (.i2b, 1) := by decide +kernel
theorem dX9_gives_101 : decode cX9_gives 101 = .ok (.bastore, 1) := by decide +kernel
theorem dX9_gives_102 : decode cX9_gives 102 = .ok (.iinc 7 1, 3) := by decide +kernel
theorem dX9_gives_105 : decode cX9_gives 105 = .ok (.goto (-27), 3) := by decide +kernel
theorem dX9_gives_108 : decode cX9_gives 108 = .ok (.iconst 1, 1) := by decide +kernel
theorem dX9_gives_109 : decode cX9_gives 109 = .ok (.ireturn, 1) := by decide +kernel
theorem dX9_gives_110 : decode cX9_gives 110 = .ok (.iload 5, 2) := by decide +kernel
theorem dX9_gives_112 : decode cX9_gives 112 = .ok (.iload 4, 2) := by decide +kernel
theorem dX9_gives_114 : decode cX9_gives 114 = .ok (.iadd, 1) := by decide +kernel
theorem dX9_gives_115 : decode cX9_gives 115 = .ok (.istore 5, 2) := by decide +kernel
theorem dX9_gives_117 : decode cX9_gives 117 = .ok (.goto (-108), 3) := by decide +kernel
theorem dX9_gives_120 : decode cX9_gives 120 = .ok (.iconst 0, 1) := by decide +kernel
theorem dX9_gives_121 : decode cX9_gives 121 = .ok (.ireturn, 1) := by decide +kernel
theorem dX9_isWhole_0 : decode cX9_isWhole 0 = .ok (.iconst 1, 1) := by decide +kernel
theorem dX9_isWhole_1 : decode cX9_isWhole 1 = .ok (.istore_n 2, 1) := by decide +kernel
theorem dX9_isWhole_2 : decode cX9_isWhole 2 = .ok (.iconst 0, 1) := by decide +kernel
theorem dX9_isWhole_3 : decode cX9_isWhole 3 = .ok (.istore_n 3, 1) := by decide +kernel
theorem dX9_isWhole_4 : decode cX9_isWhole 4 = .ok (.iload_n 3, 1) := by decide +kernel
theorem dX9_isWhole_5 : decode cX9_isWhole 5 = .ok (.ldc 188, 2) := by decide +kernel
theorem dX9_isWhole_7 : decode cX9_isWhole 7 = .ok (.if_icmp .ge 21, 3) := by decide +kernel
theorem dX9_isWhole_10 : decode cX9_isWhole 10 = .ok (.aload_n 0, 1) := by decide +kernel
theorem dX9_isWhole_11 : decode cX9_isWhole 11 = .ok (.getfield 67, 3) := by decide +kernel
theorem dX9_isWhole_14 : decode cX9_isWhole 14 = .ok (.ldc 188, 2) := by decide +kernel
theorem dX9_isWhole_16 : decode cX9_isWhole 16 = .ok (.iload_n 1, 1) := by decide +kernel
theorem dX9_isWhole_17 : decode cX9_isWhole 17 = .ok (.imul, 1) := by decide +kernel
theorem dX9_isWhole_18 : decode cX9_isWhole 18 = .ok (.iload_n 3, 1) := by decide +kernel
theorem dX9_isWhole_19 : decode cX9_isWhole 19 = .ok (.iadd, 1) := by decide +kernel
theorem dX9_isWhole_20 : decode cX9_isWhole 20 = .ok (.iconst (-1), 1) := by decide +kernel
theorem dX9_isWhole_21 : decode cX9_isWhole 21 = .ok (.bastore, 1) := by decide +kernel
theorem dX9_isWhole_22 : decode cX9_isWhole 22 = .ok (.iinc 3 1, 3) := by decide +kernel
theorem dX9_isWhole_25 : decode cX9_isWhole 25 = .ok (.goto (-21), 3) := by decide +kernel
theorem dX9_isWhole_28 : decode cX9_isWhole 28 = .ok (.aload_n 0, 1) := by decide +kernel
theorem dX9_isWhole_29 : decode cX9_isWhole 29 = .ok (.getfield 44, 3) := by decide +kernel
theorem dX9_isWhole_32 : decode cX9_isWhole 32 = .ok (.iload_n 1, 1) := by decide +kernel
theorem dX9_isWhole_33 : decode cX9_isWhole 33 = .ok (.iconst 0, 1) := by decide +kernel
theorem dX9_isWhole_34 : decode cX9_isWhole 34 = .ok (.iastore, 1) := by decide +kernel
theorem dX9_isWhole_35 : decode cX9_isWhole 35 = .ok (.iconst 0, 1) := by decide +kernel
theorem dX9_isWhole_36 : decode cX9_isWhole 36 = .ok (.istore_n 3, 1) := by decide +kernel
theorem dX9_isWhole_37 : decode cX9_isWhole 37 = .ok (.iconst 0, 1) := by decide +kernel
theorem dX9_isWhole_38 : decode cX9_isWhole 38 = .ok (.istore 4, 2) := by decide +kernel
theorem dX9_isWhole_40 : decode cX9_isWhole 40 = .ok (.iload 4, 2) := by decide +kernel
theorem dX9_isWhole_42 : decode cX9_isWhole 42 = .ok (.aload_n 0, 1) := by decide +kernel
theorem dX9_isWhole_43 : decode cX9_isWhole 43 = .ok (.getfield 41, 3) := by decide +kernel
theorem dX9_isWhole_46 : decode cX9_isWhole 46 = .ok (.iload_n 1, 1) := by decide +kernel
theorem dX9_isWhole_47 : decode cX9_isWhole 47 = .ok (.iaload, 1) := by decide +kernel
theorem dX9_isWhole_48 : decode cX9_isWhole 48 = .ok (.if_icmp .ge 58, 3) := by decide +kernel
theorem dX9_isWhole_51 : decode cX9_isWhole 51 = .ok (.iload_n 2, 1) := by decide +kernel
theorem dX9_isWhole_52 : decode cX9_isWhole 52 = .ok (.ifCond .eq 54, 3) := by decide +kernel
theorem dX9_isWhole_55 : decode cX9_isWhole 55 = .ok (.aload_n 0, 1) := by decide +kernel
theorem dX9_isWhole_56 : decode cX9_isWhole 56 = .ok (.getfield 70, 3) := by decide +kernel
theorem dX9_isWhole_59 : decode cX9_isWhole 59 = .ok (.bipush 64, 2) := by decide +kernel
theorem dX9_isWhole_61 : decode cX9_isWhole 61 = .ok (.iload_n 1, 1) := by decide +kernel
theorem dX9_isWhole_62 : decode cX9_isWhole 62 = .ok (.imul, 1) := by decide +kernel
theorem dX9_isWhole_63 : decode cX9_isWhole 63 = .ok (.iload 4, 2) := by decide +kernel
theorem dX9_isWhole_65 : decode cX9_isWhole 65 = .ok (.iadd, 1) := by decide +kernel
theorem dX9_isWhole_66 : decode cX9_isWhole 66 = .ok (.baload, 1) := by decide +kernel
theorem dX9_isWhole_67 : decode cX9_isWhole 67 = .ok (.istore 5, 2) := by decide +kernel
theorem dX9_isWhole_69 : decode cX9_isWhole 69 = .ok (.iload 5, 2) := by decide +kernel
theorem dX9_isWhole_71 : decode cX9_isWhole 71 = .ok (.ifCond .ne 6, 3) := by decide +kernel
theorem dX9_isWhole_74 : decode cX9_isWhole 74 = .ok (.goto 26, 3) := by decide +kernel
theorem dX9_isWhole_77 : decode cX9_isWhole 77 = .ok (.aload_n 0, 1) := by decide +kernel
theorem dX9_isWhole_78 : decode cX9_isWhole 78 = .ok (.getfield 44, 3) := by decide +kernel
theorem dX9_isWhole_81 : decode cX9_isWhole 81 = .ok (.iload_n 1, 1) := by decide +kernel
theorem dX9_isWhole_82 : decode cX9_isWhole 82 = .ok (.dup2, 1) := by decide +kernel
theorem dX9_isWhole_83 : decode cX9_isWhole 83 = .ok (.iaload, 1) := by decide +kernel
theorem dX9_isWhole_84 : decode cX9_isWhole 84 = .ok (.iconst 1, 1) := by decide +kernel
theorem dX9_isWhole_85 : decode cX9_isWhole 85 = .ok (.iadd, 1) := by decide +kernel
theorem dX9_isWhole_86 : decode cX9_isWhole 86 = .ok (.iastore, 1) := by decide +kernel
theorem dX9_isWhole_87 : decode cX9_isWhole 87 = .ok (.iload 5, 2) := by decide +kernel
theorem dX9_isWhole_89 : decode cX9_isWhole 89 = .ok (.istore_n 3, 1) := by decide +kernel
theorem dX9_isWhole_90 : decode cX9_isWhole 90 = .ok (.aload_n 0, 1) := by decide +kernel
theorem dX9_isWhole_91 : decode cX9_isWhole 91 = .ok (.iload_n 1, 1) := by decide +kernel
theorem dX9_isWhole_92 : decode cX9_isWhole 92 = .ok (.iload 4, 2) := by decide +kernel
theorem dX9_isWhole_94 : decode cX9_isWhole 94 = .ok (.iload 5, 2) := by decide +kernel
theorem dX9_isWhole_96 : decode cX9_isWhole 96 = .ok (.invokevirtual 189, 3) := by decide +kernel
theorem dX9_isWhole_99 : decode cX9_isWhole 99 = .ok (.istore_n 2, 1) := by decide +kernel
theorem dX9_isWhole_100 : decode cX9_isWhole 100 = .ok (.iinc 4 1, 3) := by decide +kernel
theorem dX9_isWhole_103 : decode cX9_isWhole 103 = .ok (.goto (-63), 3) := by decide +kernel
theorem dX9_isWhole_106 : decode cX9_isWhole 106 = .ok (.aload_n 0, 1) := by decide +kernel
theorem dX9_isWhole_107 : decode cX9_isWhole 107 = .ok (.getfield 44, 3) := by decide +kernel
theorem dX9_isWhole_110 : decode cX9_isWhole 110 = .ok (.iload_n 1, 1) := by decide +kernel
theorem dX9_isWhole_111 : decode cX9_isWhole 111 = .ok (.iaload, 1) := by decide +kernel
theorem dX9_isWhole_112 : decode cX9_isWhole 112 = .ok (.iconst 1, 1) := by decide +kernel
theorem dX9_isWhole_113 : decode cX9_isWhole 113 = .ok (.if_icmp .ne 14, 3) := by decide +kernel
theorem dX9_isWhole_116 : decode cX9_isWhole 116 = .ok (.iload_n 3, 1) := by decide +kernel
theorem dX9_isWhole_117 : decode cX9_isWhole 117 = .ok (.iconst 1, 1) := by decide +kernel
theorem dX9_isWhole_118 : decode cX9_isWhole 118 = .ok (.if_icmp .ne 7, 3) := by decide +kernel
theorem dX9_isWhole_121 : decode cX9_isWhole 121 = .ok (.iconst 1, 1) := by decide +kernel
theorem dX9_isWhole_122 : decode cX9_isWhole 122 = .ok (.goto 4, 3) := by decide +kernel
theorem dX9_isWhole_125 : decode cX9_isWhole 125 = .ok (.iconst 0, 1) := by decide +kernel
theorem dX9_isWhole_126 : decode cX9_isWhole 126 = .ok (.ireturn, 1) := by decide +kernel
theorem dX9_isWhole_127 : decode cX9_isWhole 127 = .ok (.iconst 0, 1) := by decide +kernel
theorem dX9_isWhole_128 : decode cX9_isWhole 128 = .ok (.istore 4, 2) := by decide +kernel
theorem dX9_isWhole_130 : decode cX9_isWhole 130 = .ok (.iload 4, 2) := by decide +kernel
theorem dX9_isWhole_132 : decode cX9_isWhole 132 = .ok (.ldc 188, 2) := by decide +kernel
theorem dX9_isWhole_134 : decode cX9_isWhole 134 = .ok (.if_icmp .ge 34, 3) := by decide +kernel
theorem dX9_isWhole_137 : decode cX9_isWhole 137 = .ok (.iload_n 2, 1) := by decide +kernel
theorem dX9_isWhole_138 : decode cX9_isWhole 138 = .ok (.ifCond .eq 30, 3) := by decide +kernel
theorem dX9_isWhole_141 : decode cX9_isWhole 141 = .ok (.aload_n 0, 1) := by decide +kernel
theorem dX9_isWhole_142 : decode cX9_isWhole 142 = .ok (.getfield 67, 3) := by decide +kernel
theorem dX9_isWhole_145 : decode cX9_isWhole 145 = .ok (.ldc 188, 2) := by decide +kernel
theorem dX9_isWhole_147 : decode cX9_isWhole 147 = .ok (.iload_n 1, 1) := by decide +kernel
theorem dX9_isWhole_148 : decode cX9_isWhole 148 = .ok (.imul, 1) := by decide +kernel
theorem dX9_isWhole_149 : decode cX9_isWhole 149 = .ok (.iload 4, 2) := by decide +kernel
theorem dX9_isWhole_151 : decode cX9_isWhole 151 = .ok (.iadd, 1) := by decide +kernel
theorem dX9_isWhole_152 : decode cX9_isWhole 152 = .ok (.baload, 1) := by decide +kernel
theorem dX9_isWhole_153 : decode cX9_isWhole 153 = .ok (.ifCond .lt 7, 3) := by decide +kernel
theorem dX9_isWhole_156 : decode cX9_isWhole 156 = .ok (.iconst 1, 1) := by decide +kernel
theorem dX9_isWhole_157 : decode cX9_isWhole 157 = .ok (.goto 4, 3) := by decide +kernel
theorem dX9_isWhole_160 : decode cX9_isWhole 160 = .ok (.iconst 0, 1) := by decide +kernel
theorem dX9_isWhole_161 : decode cX9_isWhole 161 = .ok (.istore_n 2, 1) := by decide +kernel
theorem dX9_isWhole_162 : decode cX9_isWhole 162 = .ok (.iinc 4 1, 3) := by decide +kernel
theorem dX9_isWhole_165 : decode cX9_isWhole 165 = .ok (.goto (-35), 3) := by decide +kernel
theorem dX9_isWhole_168 : decode cX9_isWhole 168 = .ok (.iload_n 2, 1) := by decide +kernel
theorem dX9_isWhole_169 : decode cX9_isWhole 169 = .ok (.ireturn, 1) := by decide +kernel
theorem dX9_power_0 : decode cX9_power 0 = .ok (.iconst 1, 1) := by decide +kernel
theorem dX9_power_1 : decode cX9_power 1 = .ok (.istore_n 3, 1) := by decide +kernel
theorem dX9_power_2 : decode cX9_power 2 = .ok (.iconst 0, 1) := by decide +kernel
theorem dX9_power_3 : decode cX9_power 3 = .ok (.istore 4, 2) := by decide +kernel
theorem dX9_power_5 : decode cX9_power 5 = .ok (.iload 4, 2) := by decide +kernel
theorem dX9_power_7 : decode cX9_power 7 = .ok (.iload_n 2, 1) := by decide +kernel
theorem dX9_power_8 : decode cX9_power 8 = .ok (.if_icmp .ge 13, 3) := by decide +kernel
theorem dX9_power_11 : decode cX9_power 11 = .ok (.iload_n 3, 1) := by decide +kernel
theorem dX9_power_12 : decode cX9_power 12 = .ok (.iload_n 1, 1) := by decide +kernel
theorem dX9_power_13 : decode cX9_power 13 = .ok (.imul, 1) := by decide +kernel
theorem dX9_power_14 : decode cX9_power 14 = .ok (.istore_n 3, 1) := by decide +kernel
theorem dX9_power_15 : decode cX9_power 15 = .ok (.iinc 4 1, 3) := by decide +kernel
theorem dX9_power_18 : decode cX9_power 18 = .ok (.goto (-13), 3) := by decide +kernel
theorem dX9_power_21 : decode cX9_power 21 = .ok (.iload_n 3, 1) := by decide +kernel
theorem dX9_power_22 : decode cX9_power 22 = .ok (.ireturn, 1) := by decide +kernel
theorem dX9_book_0 : decode cX9_book 0 = .ok (.aload_n 0, 1) := by decide +kernel
theorem dX9_book_1 : decode cX9_book 1 = .ok (.getfield 38, 3) := by decide +kernel
theorem dX9_book_4 : decode cX9_book 4 = .ok (.iload_n 1, 1) := by decide +kernel
theorem dX9_book_5 : decode cX9_book 5 = .ok (.iconst 1, 1) := by decide +kernel
theorem dX9_book_6 : decode cX9_book 6 = .ok (.aload_n 0, 1) := by decide +kernel
theorem dX9_book_7 : decode cX9_book 7 = .ok (.iconst 2, 1) := by decide +kernel
theorem dX9_book_8 : decode cX9_book 8 = .ok (.invokevirtual 193, 3) := by decide +kernel
theorem dX9_book_11 : decode cX9_book 11 = .ok (.iadd, 1) := by decide +kernel
theorem dX9_book_12 : decode cX9_book 12 = .ok (.iastore, 1) := by decide +kernel
theorem dX9_book_13 : decode cX9_book 13 = .ok (.aload_n 0, 1) := by decide +kernel
theorem dX9_book_14 : decode cX9_book 14 = .ok (.getfield 41, 3) := by decide +kernel
theorem dX9_book_17 : decode cX9_book 17 = .ok (.iload_n 1, 1) := by decide +kernel
theorem dX9_book_18 : decode cX9_book 18 = .ok (.iconst 1, 1) := by decide +kernel
theorem dX9_book_19 : decode cX9_book 19 = .ok (.aload_n 0, 1) := by decide +kernel
theorem dX9_book_20 : decode cX9_book 20 = .ok (.bipush 6, 2) := by decide +kernel
theorem dX9_book_22 : decode cX9_book 22 = .ok (.invokevirtual 193, 3) := by decide +kernel
theorem dX9_book_25 : decode cX9_book 25 = .ok (.iadd, 1) := by decide +kernel
theorem dX9_book_26 : decode cX9_book 26 = .ok (.iastore, 1) := by decide +kernel
theorem dX9_book_27 : decode cX9_book 27 = .ok (.iconst 0, 1) := by decide +kernel
theorem dX9_book_28 : decode cX9_book 28 = .ok (.istore_n 2, 1) := by decide +kernel
theorem dX9_book_29 : decode cX9_book 29 = .ok (.iload_n 2, 1) := by decide +kernel
theorem dX9_book_30 : decode cX9_book 30 = .ok (.aload_n 0, 1) := by decide +kernel
theorem dX9_book_31 : decode cX9_book 31 = .ok (.getfield 41, 3) := by decide +kernel
theorem dX9_book_34 : decode cX9_book 34 = .ok (.iload_n 1, 1) := by decide +kernel
theorem dX9_book_35 : decode cX9_book 35 = .ok (.iaload, 1) := by decide +kernel
theorem dX9_book_36 : decode cX9_book 36 = .ok (.if_icmp .ge 26, 3) := by decide +kernel
theorem dX9_book_39 : decode cX9_book 39 = .ok (.aload_n 0, 1) := by decide +kernel
theorem dX9_book_40 : decode cX9_book 40 = .ok (.getfield 70, 3) := by decide +kernel
theorem dX9_book_43 : decode cX9_book 43 = .ok (.bipush 64, 2) := by decide +kernel
theorem dX9_book_45 : decode cX9_book 45 = .ok (.iload_n 1, 1) := by decide +kernel
theorem dX9_book_46 : decode cX9_book 46 = .ok (.imul, 1) := by decide +kernel
theorem dX9_book_47 : decode cX9_book 47 = .ok (.iload_n 2, 1) := by decide +kernel
theorem dX9_book_48 : decode cX9_book 48 = .ok (.iadd, 1) := by decide +kernel
theorem dX9_book_49 : decode cX9_book 49 = .ok (.aload_n 0, 1) := by decide +kernel
theorem dX9_book_50 : decode cX9_book 50 = .ok (.iconst 4, 1) := by decide +kernel
theorem dX9_book_51 : decode cX9_book 51 = .ok (.invokevirtual 193, 3) := by decide +kernel
theorem dX9_book_54 : decode cX9_book 54 = .ok (.i2b, 1) := by decide +kernel
theorem dX9_book_55 : decode cX9_book 55 = .ok (.bastore, 1) := by decide +kernel
theorem dX9_book_56 : decode cX9_book 56 = .ok (.iinc 2 1, 3) := by decide +kernel
theorem dX9_book_59 : decode cX9_book 59 = .ok (.goto (-30), 3) := by decide +kernel
theorem dX9_book_62 : decode cX9_book 62 = .ok (.aload_n 0, 1) := by decide +kernel
theorem dX9_book_63 : decode cX9_book 63 = .ok (.invokevirtual 197, 3) := by decide +kernel
theorem dX9_book_66 : decode cX9_book 66 = .ok (.aload_n 0, 1) := by decide +kernel
theorem dX9_book_67 : decode cX9_book 67 = .ok (.getfield 181, 3) := by decide +kernel
theorem dX9_book_70 : decode cX9_book 70 = .ok (.ifCond .le 4, 3) := by decide +kernel
theorem dX9_book_73 : decode cX9_book 73 = .ok (.return_, 1) := by decide +kernel
theorem dX9_book_74 : decode cX9_book 74 = .ok (.aload_n 0, 1) := by decide +kernel
theorem dX9_book_75 : decode cX9_book 75 = .ok (.iload_n 1, 1) := by decide +kernel
theorem dX9_book_76 : decode cX9_book 76 = .ok (.invokevirtual 200, 3) := by decide +kernel
theorem dX9_book_79 : decode cX9_book 79 = .ok (.ifCond .ne 9, 3) := by decide +kernel
theorem dX9_book_82 : decode cX9_book 82 = .ok (.aload_n 0, 1) := by decide +kernel
theorem dX9_book_83 : decode cX9_book 83 = .ok (.iconst 4, 1) := by decide +kernel
theorem dX9_book_84 : decode cX9_book 84 = .ok (.invokevirtual 184, 3) := by decide +kernel
theorem dX9_book_87 : decode cX9_book 87 = .ok (.return_, 1) := by decide +kernel
theorem dX9_book_88 : decode cX9_book 88 = .ok (.aload_n 0, 1) := by decide +kernel
theorem dX9_book_89 : decode cX9_book 89 = .ok (.getfield 47, 3) := by decide +kernel
theorem dX9_book_92 : decode cX9_book 92 = .ok (.iload_n 1, 1) := by decide +kernel
theorem dX9_book_93 : decode cX9_book 93 = .ok (.aload_n 0, 1) := by decide +kernel
theorem dX9_book_94 : decode cX9_book 94 = .ok (.invokevirtual 177, 3) := by decide +kernel
theorem dX9_book_97 : decode cX9_book 97 = .ok (.iconst 1, 1) := by decide +kernel
theorem dX9_book_98 : decode cX9_book 98 = .ok (.if_icmp .ne 7, 3) := by decide +kernel
theorem dX9_book_101 : decode cX9_book 101 = .ok (.iconst 1, 1) := by decide +kernel
theorem dX9_book_102 : decode cX9_book 102 = .ok (.goto 4, 3) := by decide +kernel
theorem dX9_book_105 : decode cX9_book 105 = .ok (.iconst 0, 1) := by decide +kernel
theorem dX9_book_106 : decode cX9_book 106 = .ok (.bastore, 1) := by decide +kernel
theorem dX9_book_107 : decode cX9_book 107 = .ok (.aload_n 0, 1) := by decide +kernel
theorem dX9_book_108 : decode cX9_book 108 = .ok (.getfield 60, 3) := by decide +kernel
theorem dX9_book_111 : decode cX9_book 111 = .ok (.iload_n 1, 1) := by decide +kernel
theorem dX9_book_112 : decode cX9_book 112 = .ok (.iconst 1, 1) := by decide +kernel
theorem dX9_book_113 : decode cX9_book 113 = .ok (.iastore, 1) := by decide +kernel
theorem dX9_book_114 : decode cX9_book 114 = .ok (.aload_n 0, 1) := by decide +kernel
theorem dX9_book_115 : decode cX9_book 115 = .ok (.aload_n 0, 1) := by decide +kernel
theorem dX9_book_116 : decode cX9_book 116 = .ok (.getfield 60, 3) := by decide +kernel
theorem dX9_book_119 : decode cX9_book 119 = .ok (.iload_n 1, 1) := by decide +kernel
theorem dX9_book_120 : decode cX9_book 120 = .ok (.iaload, 1) := by decide +kernel
theorem dX9_book_121 : decode cX9_book 121 = .ok (.iconst 1, 1) := by decide +kernel
theorem dX9_book_122 : decode cX9_book 122 = .ok (.iadd, 1) := by decide +kernel
theorem dX9_book_123 : decode cX9_book 123 = .ok (.aload_n 0, 1) := by decide +kernel
theorem dX9_book_124 : decode cX9_book 124 = .ok (.getfield 38, 3) := by decide +kernel
theorem dX9_book_127 : decode cX9_book 127 = .ok (.iload_n 1, 1) := by decide +kernel
theorem dX9_book_128 : decode cX9_book 128 = .ok (.iaload, 1) := by decide +kernel
theorem dX9_book_129 : decode cX9_book 129 = .ok (.invokevirtual 204, 3) := by decide +kernel
theorem dX9_book_132 : decode cX9_book 132 = .ok (.aload_n 0, 1) := by decide +kernel
theorem dX9_book_133 : decode cX9_book 133 = .ok (.getfield 41, 3) := by decide +kernel
theorem dX9_book_136 : decode cX9_book 136 = .ok (.iload_n 1, 1) := by decide +kernel
theorem dX9_book_137 : decode cX9_book 137 = .ok (.iaload, 1) := by decide +kernel
theorem dX9_book_138 : decode cX9_book 138 = .ok (.if_icmp .gt 16, 3) := by decide +kernel
theorem dX9_book_141 : decode cX9_book 141 = .ok (.aload_n 0, 1) := by decide +kernel
theorem dX9_book_142 : decode cX9_book 142 = .ok (.getfield 60, 3) := by decide +kernel
theorem dX9_book_145 : decode cX9_book 145 = .ok (.iload_n 1, 1) := by decide +kernel
theorem dX9_book_146 : decode cX9_book 146 = .ok (.dup2, 1) := by decide +kernel
theorem dX9_book_147 : decode cX9_book 147 = .ok (.iaload, 1) := by decide +kernel
theorem dX9_book_148 : decode cX9_book 148 = .ok (.iconst 1, 1) := by decide +kernel
theorem dX9_book_149 : decode cX9_book 149 = .ok (.iadd, 1) := by decide +kernel
theorem dX9_book_150 : decode cX9_book 150 = .ok (.iastore, 1) := by decide +kernel
theorem dX9_book_151 : decode cX9_book 151 = .ok (.goto (-37), 3) := by decide +kernel
theorem dX9_book_154 : decode cX9_book 154 = .ok (.aload_n 0, 1) := by decide +kernel
theorem dX9_book_155 : decode cX9_book 155 = .ok (.getfield 47, 3) := by decide +kernel
theorem dX9_book_158 : decode cX9_book 158 = .ok (.iload_n 1, 1) := by decide +kernel
theorem dX9_book_159 : decode cX9_book 159 = .ok (.baload, 1) := by decide +kernel
theorem dX9_book_160 : decode cX9_book 160 = .ok (.ifCond .eq 107, 3) := by decide +kernel
theorem dX9_book_163 : decode cX9_book 163 = .ok (.aload_n 0, 1) := by decide +kernel
theorem dX9_book_164 : decode cX9_book 164 = .ok (.bipush 8, 2) := by decide +kernel
theorem dX9_book_166 : decode cX9_book 166 = .ok (.invokevirtual 193, 3) := by decide +kernel
theorem dX9_book_169 : decode cX9_book 169 = .ok (.istore_n 2, 1) := by decide +kernel
theorem dX9_book_170 : decode cX9_book 170 = .ok (.aload_n 0, 1) := by decide +kernel
theorem dX9_book_171 : decode cX9_book 171 = .ok (.getfield 51, 3) := by decide +kernel
theorem dX9_book_174 : decode cX9_book 174 = .ok (.iload_n 1, 1) := by decide +kernel
theorem dX9_book_175 : decode cX9_book 175 = .ok (.iload_n 2, 1) := by decide +kernel
theorem dX9_book_176 : decode cX9_book 176 = .ok (.bipush 127, 2) := by decide +kernel
theorem dX9_book_178 : decode cX9_book 178 = .ok (.if_icmp .le 11, 3) := by decide +kernel
theorem dX9_book_181 : decode cX9_book 181 = .ok (.iload_n 2, 1) := by decide +kernel
theorem dX9_book_182 : decode cX9_book 182 = .ok (.sipush 256, 3) := by decide +kernel
theorem dX9_book_185 : decode cX9_book 185 = .ok (.isub, 1) := by decide +kernel
theorem dX9_book_186 : decode cX9_book 186 = .ok (.goto 4, 3) := by decide +kernel
theorem dX9_book_189 : decode cX9_book 189 = .ok (.iload_n 2, 1) := by decide +kernel
theorem dX9_book_190 : decode cX9_book 190 = .ok (.iastore, 1) := by decide +kernel
theorem dX9_book_191 : decode cX9_book 191 = .ok (.aload_n 0, 1) := by decide +kernel
theorem dX9_book_192 : decode cX9_book 192 = .ok (.getfield 54, 3) := by decide +kernel
theorem dX9_book_195 : decode cX9_book 195 = .ok (.iload_n 1, 1) := by decide +kernel
theorem dX9_book_196 : decode cX9_book 196 = .ok (.aload_n 0, 1) := by decide +kernel
theorem dX9_book_197 : decode cX9_book 197 = .ok (.bipush 8, 2) := by decide +kernel
theorem dX9_book_199 : decode cX9_book 199 = .ok (.invokevirtual 193, 3) := by decide +kernel
theorem dX9_book_202 : decode cX9_book 202 = .ok (.iastore, 1) := by decide +kernel
theorem dX9_book_203 : decode cX9_book 203 = .ok (.aload_n 0, 1) := by decide +kernel
theorem dX9_book_204 : decode cX9_book 204 = .ok (.getfield 57, 3) := by decide +kernel
theorem dX9_book_207 : decode cX9_book 207 = .ok (.iload_n 1, 1) := by decide +kernel
theorem dX9_book_208 : decode cX9_book 208 = .ok (.aload_n 0, 1) := by decide +kernel
theorem dX9_book_209 : decode cX9_book 209 = .ok (.invokevirtual 177, 3) := by decide +kernel
theorem dX9_book_212 : decode cX9_book 212 = .ok (.iconst 1, 1) := by decide +kernel
theorem dX9_book_213 : decode cX9_book 213 = .ok (.if_icmp .ne 7, 3) := by decide +kernel
theorem dX9_book_216 : decode cX9_book 216 = .ok (.iconst 1, 1) := by decide +kernel
theorem dX9_book_217 : decode cX9_book 217 = .ok (.goto 4, 3) := by decide +kernel
theorem dX9_book_220 : decode cX9_book 220 = .ok (.iconst 0, 1) := by decide +kernel
theorem dX9_book_221 : decode cX9_book 221 = .ok (.bastore, 1) := by decide +kernel
theorem dX9_book_222 : decode cX9_book 222 = .ok (.iconst 1, 1) := by decide +kernel
theorem dX9_book_223 : decode cX9_book 223 = .ok (.aload_n 0, 1) := by decide +kernel
theorem dX9_book_224 : decode cX9_book 224 = .ok (.iconst 3, 1) := by decide +kernel
theorem dX9_book_225 : decode cX9_book 225 = .ok (.invokevirtual 193, 3) := by decide +kernel
theorem dX9_book_228 : decode cX9_book 228 = .ok (.iadd, 1) := by decide +kernel
theorem dX9_book_229 : decode cX9_book 229 = .ok (.istore_n 3, 1) := by decide +kernel
theorem dX9_book_230 : decode cX9_book 230 = .ok (.iconst 0, 1) := by decide +kernel
theorem dX9_book_231 : decode cX9_book 231 = .ok (.istore 4, 2) := by decide +kernel
theorem dX9_book_233 : decode cX9_book 233 = .ok (.iload 4, 2) := by decide +kernel
theorem dX9_book_235 : decode cX9_book 235 = .ok (.aload_n 0, 1) := by decide +kernel
theorem dX9_book_236 : decode cX9_book 236 = .ok (.getfield 60, 3) := by decide +kernel
theorem dX9_book_239 : decode cX9_book 239 = .ok (.iload_n 1, 1) := by decide +kernel
theorem dX9_book_240 : decode cX9_book 240 = .ok (.iaload, 1) := by decide +kernel
theorem dX9_book_241 : decode cX9_book 241 = .ok (.if_icmp .ge 26, 3) := by decide +kernel
theorem dX9_book_244 : decode cX9_book 244 = .ok (.aload_n 0, 1) := by decide +kernel
theorem dX9_book_245 : decode cX9_book 245 = .ok (.getfield 63, 3) := by decide +kernel
theorem dX9_book_248 : decode cX9_book 248 = .ok (.bipush 64, 2) := by decide +kernel
theorem dX9_book_250 : decode cX9_book 250 = .ok (.iload_n 1, 1) := by decide +kernel
theorem dX9_book_251 : decode cX9_book 251 = .ok (.imul, 1) := by decide +kernel
theorem dX9_book_252 : decode cX9_book 252 = .ok (.iload 4, 2) := by decide +kernel
theorem dX9_book_254 : decode cX9_book 254 = .ok (.iadd, 1) := by decide +kernel
theorem dX9_book_255 : decode cX9_book 255 = .ok (.aload_n 0, 1) := by decide +kernel
theorem dX9_book_256 : decode cX9_book 256 = .ok (.iload_n 3, 1) := by decide +kernel
theorem dX9_book_257 : decode cX9_book 257 = .ok (.invokevirtual 193, 3) := by decide +kernel
theorem dX9_book_260 : decode cX9_book 260 = .ok (.iastore, 1) := by decide +kernel
theorem dX9_book_261 : decode cX9_book 261 = .ok (.iinc 4 1, 3) := by decide +kernel
theorem dX9_book_264 : decode cX9_book 264 = .ok (.goto (-31), 3) := by decide +kernel
theorem dX9_book_267 : decode cX9_book 267 = .ok (.aload_n 0, 1) := by decide +kernel
theorem dX9_book_268 : decode cX9_book 268 = .ok (.invokevirtual 197, 3) := by decide +kernel
theorem dX9_book_271 : decode cX9_book 271 = .ok (.return_, 1) := by decide +kernel
theorem dX9_entry_0 : decode cX9_entry 0 = .ok (.iconst 0, 1) := by decide +kernel
theorem dX9_entry_1 : decode cX9_entry 1 = .ok (.istore_n 2, 1) := by decide +kernel
theorem dX9_entry_2 : decode cX9_entry 2 = .ok (.bipush 14, 2) := by decide +kernel
theorem dX9_entry_4 : decode cX9_entry 4 = .ok (.istore_n 3, 1) := by decide +kernel
theorem dX9_entry_5 : decode cX9_entry 5 = .ok (.iload_n 3, 1) := by decide +kernel
theorem dX9_entry_6 : decode cX9_entry 6 = .ok (.ifCond .lt 84, 3) := by decide +kernel
theorem dX9_entry_9 : decode cX9_entry 9 = .ok (.iload_n 2, 1) := by decide +kernel
theorem dX9_entry_10 : decode cX9_entry 10 = .ok (.aload_n 0, 1) := by decide +kernel
theorem dX9_entry_11 : decode cX9_entry 11 = .ok (.invokevirtual 177, 3) := by decide +kernel
theorem dX9_entry_14 : decode cX9_entry 14 = .ok (.iload_n 3, 1) := by decide +kernel
theorem dX9_entry_15 : decode cX9_entry 15 = .ok (.ishl, 1) := by decide +kernel
theorem dX9_entry_16 : decode cX9_entry 16 = .ok (.ior, 1) := by decide +kernel
theorem dX9_entry_17 : decode cX9_entry 17 = .ok (.istore_n 2, 1) := by decide +kernel
theorem dX9_entry_18 : decode cX9_entry 18 = .ok (.aload_n 0, 1) := by decide +kernel
theorem dX9_entry_19 : decode cX9_entry 19 = .ok (.getfield 174, 3) := by decide +kernel
theorem dX9_entry_22 : decode cX9_entry 22 = .ok (.ifCond .eq 5, 3) := by decide +kernel
theorem dX9_entry_25 : decode cX9_entry 25 = .ok (.iconst (-1), 1) := by decide +kernel
theorem dX9_entry_26 : decode cX9_entry 26 = .ok (.ireturn, 1) := by decide +kernel
theorem dX9_entry_27 : decode cX9_entry 27 = .ok (.aload_n 0, 1) := by decide +kernel
theorem dX9_entry_28 : decode cX9_entry 28 = .ok (.getfield 67, 3) := by decide +kernel
theorem dX9_entry_31 : decode cX9_entry 31 = .ok (.ldc 188, 2) := by decide +kernel
theorem dX9_entry_33 : decode cX9_entry 33 = .ok (.iload_n 1, 1) := by decide +kernel
theorem dX9_entry_34 : decode cX9_entry 34 = .ok (.imul, 1) := by decide +kernel
theorem dX9_entry_35 : decode cX9_entry 35 = .ok (.iload_n 2, 1) := by decide +kernel
theorem dX9_entry_36 : decode cX9_entry 36 = .ok (.iadd, 1) := by decide +kernel
theorem dX9_entry_37 : decode cX9_entry 37 = .ok (.baload, 1) := by decide +kernel
theorem dX9_entry_38 : decode cX9_entry 38 = .ok (.istore 4, 2) := by decide +kernel
theorem dX9_entry_40 : decode cX9_entry 40 = .ok (.iload 4, 2) := by decide +kernel
theorem dX9_entry_42 : decode cX9_entry 42 = .ok (.ifCond .lt 25, 3) := by decide +kernel
theorem dX9_entry_45 : decode cX9_entry 45 = .ok (.aload_n 0, 1) := by decide +kernel
theorem dX9_entry_46 : decode cX9_entry 46 = .ok (.getfield 70, 3) := by decide +kernel
theorem dX9_entry_49 : decode cX9_entry 49 = .ok (.bipush 64, 2) := by decide +kernel
theorem dX9_entry_51 : decode cX9_entry 51 = .ok (.iload_n 1, 1) := by decide +kernel
theorem dX9_entry_52 : decode cX9_entry 52 = .ok (.imul, 1) := by decide +kernel
theorem dX9_entry_53 : decode cX9_entry 53 = .ok (.iload 4, 2) := by decide +kernel
theorem dX9_entry_55 : decode cX9_entry 55 = .ok (.iadd, 1) := by decide +kernel
theorem dX9_entry_56 : decode cX9_entry 56 = .ok (.baload, 1) := by decide +kernel
theorem dX9_entry_57 : decode cX9_entry 57 = .ok (.bipush 15, 2) := by decide +kernel
theorem dX9_entry_59 : decode cX9_entry 59 = .ok (.iload_n 3, 1) := by decide +kernel
theorem dX9_entry_60 : decode cX9_entry 60 = .ok (.isub, 1) := by decide +kernel
theorem dX9_entry_61 : decode cX9_entry 61 = .ok (.if_icmp .ne 6, 3) := by decide +kernel
theorem dX9_entry_64 : decode cX9_entry 64 = .ok (.iload 4, 2) := by decide +kernel
theorem dX9_entry_66 : decode cX9_entry 66 = .ok (.ireturn, 1) := by decide +kernel
theorem dX9_entry_67 : decode cX9_entry 67 = .ok (.aload_n 0, 1) := by decide +kernel
theorem dX9_entry_68 : decode cX9_entry 68 = .ok (.getfield 44, 3) := by decide +kernel
theorem dX9_entry_71 : decode cX9_entry 71 = .ok (.iload_n 1, 1) := by decide +kernel
theorem dX9_entry_72 : decode cX9_entry 72 = .ok (.iaload, 1) := by decide +kernel
theorem dX9_entry_73 : decode cX9_entry 73 = .ok (.iconst 1, 1) := by decide +kernel
theorem dX9_entry_74 : decode cX9_entry 74 = .ok (.if_icmp .ne 10, 3) := by decide +kernel
theorem dX9_entry_77 : decode cX9_entry 77 = .ok (.aload_n 0, 1) := by decide +kernel
theorem dX9_entry_78 : decode cX9_entry 78 = .ok (.iconst 1, 1) := by decide +kernel
theorem dX9_entry_79 : decode cX9_entry 79 = .ok (.putfield 174, 3) := by decide +kernel
theorem dX9_entry_82 : decode cX9_entry 82 = .ok (.iconst (-1), 1) := by decide +kernel
theorem dX9_entry_83 : decode cX9_entry 83 = .ok (.ireturn, 1) := by decide +kernel
theorem dX9_entry_84 : decode cX9_entry 84 = .ok (.iinc 3 (-1), 3) := by decide +kernel
theorem dX9_entry_87 : decode cX9_entry 87 = .ok (.goto (-82), 3) := by decide +kernel
theorem dX9_entry_90 : decode cX9_entry 90 = .ok (.aload_n 0, 1) := by decide +kernel
theorem dX9_entry_91 : decode cX9_entry 91 = .ok (.iconst 1, 1) := by decide +kernel
theorem dX9_entry_92 : decode cX9_entry 92 = .ok (.putfield 174, 3) := by decide +kernel
theorem dX9_entry_95 : decode cX9_entry 95 = .ok (.iconst (-1), 1) := by decide +kernel
theorem dX9_entry_96 : decode cX9_entry 96 = .ok (.ireturn, 1) := by decide +kernel
theorem dX9_setup_0 : decode cX9_setup 0 = .ok (.aload_n 0, 1) := by decide +kernel
theorem dX9_setup_1 : decode cX9_setup 1 = .ok (.iconst 0, 1) := by decide +kernel
theorem dX9_setup_2 : decode cX9_setup 2 = .ok (.invokevirtual 207, 3) := by decide +kernel
theorem dX9_setup_5 : decode cX9_setup 5 = .ok (.aload_n 0, 1) := by decide +kernel
theorem dX9_setup_6 : decode cX9_setup 6 = .ok (.bipush 8, 2) := by decide +kernel
theorem dX9_setup_8 : decode cX9_setup 8 = .ok (.invokevirtual 193, 3) := by decide +kernel
theorem dX9_setup_11 : decode cX9_setup 11 = .ok (.istore_n 1, 1) := by decide +kernel
theorem dX9_setup_12 : decode cX9_setup 12 = .ok (.aload_n 0, 1) := by decide +kernel
theorem dX9_setup_13 : decode cX9_setup 13 = .ok (.invokevirtual 197, 3) := by decide +kernel
theorem dX9_setup_16 : decode cX9_setup 16 = .ok (.aload_n 0, 1) := by decide +kernel
theorem dX9_setup_17 : decode cX9_setup 17 = .ok (.getfield 181, 3) := by decide +kernel
theorem dX9_setup_20 : decode cX9_setup 20 = .ok (.ifCond .ne 14, 3) := by decide +kernel
theorem dX9_setup_23 : decode cX9_setup 23 = .ok (.iload_n 1, 1) := by decide +kernel
theorem dX9_setup_24 : decode cX9_setup 24 = .ok (.bipush 86, 2) := by decide +kernel
theorem dX9_setup_26 : decode cX9_setup 26 = .ok (.if_icmp .eq 8, 3) := by decide +kernel
theorem dX9_setup_29 : decode cX9_setup 29 = .ok (.aload_n 0, 1) := by decide +kernel
theorem dX9_setup_30 : decode cX9_setup 30 = .ok (.iconst 3, 1) := by decide +kernel
theorem dX9_setup_31 : decode cX9_setup 31 = .ok (.invokevirtual 184, 3) := by decide +kernel
theorem dX9_setup_34 : decode cX9_setup 34 = .ok (.aload_n 0, 1) := by decide +kernel
theorem dX9_setup_35 : decode cX9_setup 35 = .ok (.getfield 181, 3) := by decide +kernel
theorem dX9_setup_38 : decode cX9_setup 38 = .ok (.ifCond .le 4, 3) := by decide +kernel
theorem dX9_setup_41 : decode cX9_setup 41 = .ok (.return_, 1) := by decide +kernel
theorem dX9_setup_42 : decode cX9_setup 42 = .ok (.aload_n 0, 1) := by decide +kernel
theorem dX9_setup_43 : decode cX9_setup 43 = .ok (.iconst 1, 1) := by decide +kernel
theorem dX9_setup_44 : decode cX9_setup 44 = .ok (.aload_n 0, 1) := by decide +kernel
theorem dX9_setup_45 : decode cX9_setup 45 = .ok (.invokevirtual 177, 3) := by decide +kernel
theorem dX9_setup_48 : decode cX9_setup 48 = .ok (.iadd, 1) := by decide +kernel
theorem dX9_setup_49 : decode cX9_setup 49 = .ok (.putfield 210, 3) := by decide +kernel
theorem dX9_setup_52 : decode cX9_setup 52 = .ok (.aload_n 0, 1) := by decide +kernel
theorem dX9_setup_53 : decode cX9_setup 53 = .ok (.iconst 1, 1) := by decide +kernel
theorem dX9_setup_54 : decode cX9_setup 54 = .ok (.aload_n 0, 1) := by decide +kernel
theorem dX9_setup_55 : decode cX9_setup 55 = .ok (.iconst 3, 1) := by decide +kernel
theorem dX9_setup_56 : decode cX9_setup 56 = .ok (.invokevirtual 193, 3) := by decide +kernel
theorem dX9_setup_59 : decode cX9_setup 59 = .ok (.iadd, 1) := by decide +kernel
theorem dX9_setup_60 : decode cX9_setup 60 = .ok (.putfield 213, 3) := by decide +kernel
theorem dX9_setup_63 : decode cX9_setup 63 = .ok (.aload_n 0, 1) := by decide +kernel
theorem dX9_setup_64 : decode cX9_setup 64 = .ok (.invokevirtual 197, 3) := by decide +kernel
theorem dX9_setup_67 : decode cX9_setup 67 = .ok (.iconst 0, 1) := by decide +kernel
theorem dX9_setup_68 : decode cX9_setup 68 = .ok (.istore_n 2, 1) := by decide +kernel
theorem dX9_setup_69 : decode cX9_setup 69 = .ok (.iload_n 2, 1) := by decide +kernel
theorem dX9_setup_70 : decode cX9_setup 70 = .ok (.aload_n 0, 1) := by decide +kernel
theorem dX9_setup_71 : decode cX9_setup 71 = .ok (.getfield 213, 3) := by decide +kernel
theorem dX9_setup_74 : decode cX9_setup 74 = .ok (.if_icmp .ge 21, 3) := by decide +kernel
theorem dX9_setup_77 : decode cX9_setup 77 = .ok (.aload_n 0, 1) := by decide +kernel
theorem dX9_setup_78 : decode cX9_setup 78 = .ok (.getfield 181, 3) := by decide +kernel
theorem dX9_setup_81 : decode cX9_setup 81 = .ok (.ifCond .ne 14, 3) := by decide +kernel
theorem dX9_setup_84 : decode cX9_setup 84 = .ok (.aload_n 0, 1) := by decide +kernel
theorem dX9_setup_85 : decode cX9_setup 85 = .ok (.iload_n 2, 1) := by decide +kernel
theorem dX9_setup_86 : decode cX9_setup 86 = .ok (.invokevirtual 216, 3) := by decide +kernel
theorem dX9_setup_89 : decode cX9_setup 89 = .ok (.iinc 2 1, 3) := by decide +kernel
theorem dX9_setup_92 : decode cX9_setup 92 = .ok (.goto (-23), 3) := by decide +kernel
theorem dX9_setup_95 : decode cX9_setup 95 = .ok (.aload_n 0, 1) := by decide +kernel
theorem dX9_setup_96 : decode cX9_setup 96 = .ok (.getfield 181, 3) := by decide +kernel
theorem dX9_setup_99 : decode cX9_setup 99 = .ok (.ifCond .le 4, 3) := by decide +kernel
theorem dX9_setup_102 : decode cX9_setup 102 = .ok (.return_, 1) := by decide +kernel
theorem dX9_setup_103 : decode cX9_setup 103 = .ok (.aload_n 0, 1) := by decide +kernel
theorem dX9_setup_104 : decode cX9_setup 104 = .ok (.iconst 1, 1) := by decide +kernel
theorem dX9_setup_105 : decode cX9_setup 105 = .ok (.aload_n 0, 1) := by decide +kernel
theorem dX9_setup_106 : decode cX9_setup 106 = .ok (.iconst 2, 1) := by decide +kernel
theorem dX9_setup_107 : decode cX9_setup 107 = .ok (.invokevirtual 193, 3) := by decide +kernel
theorem dX9_setup_110 : decode cX9_setup 110 = .ok (.iadd, 1) := by decide +kernel
theorem dX9_setup_111 : decode cX9_setup 111 = .ok (.putfield 219, 3) := by decide +kernel
theorem dX9_setup_114 : decode cX9_setup 114 = .ok (.aload_n 0, 1) := by decide +kernel
theorem dX9_setup_115 : decode cX9_setup 115 = .ok (.aload_n 0, 1) := by decide +kernel
theorem dX9_setup_116 : decode cX9_setup 116 = .ok (.iconst 4, 1) := by decide +kernel
theorem dX9_setup_117 : decode cX9_setup 117 = .ok (.invokevirtual 193, 3) := by decide +kernel
theorem dX9_setup_120 : decode cX9_setup 120 = .ok (.putfield 222, 3) := by decide +kernel
theorem dX9_setup_123 : decode cX9_setup 123 = .ok (.aload_n 0, 1) := by decide +kernel
theorem dX9_setup_124 : decode cX9_setup 124 = .ok (.aload_n 0, 1) := by decide +kernel
theorem dX9_setup_125 : decode cX9_setup 125 = .ok (.iconst 3, 1) := by decide +kernel
theorem dX9_setup_126 : decode cX9_setup 126 = .ok (.invokevirtual 193, 3) := by decide +kernel
theorem dX9_setup_129 : decode cX9_setup 129 = .ok (.putfield 225, 3) := by decide +kernel
theorem dX9_setup_132 : decode cX9_setup 132 = .ok (.aload_n 0, 1) := by decide +kernel
theorem dX9_setup_133 : decode cX9_setup 133 = .ok (.invokevirtual 197, 3) := by decide +kernel
theorem dX9_setup_136 : decode cX9_setup 136 = .ok (.aload_n 0, 1) := by decide +kernel
theorem dX9_setup_137 : decode cX9_setup 137 = .ok (.getfield 181, 3) := by decide +kernel
theorem dX9_setup_140 : decode cX9_setup 140 = .ok (.ifCond .ne 19, 3) := by decide +kernel
theorem dX9_setup_143 : decode cX9_setup 143 = .ok (.aload_n 0, 1) := by decide +kernel
theorem dX9_setup_144 : decode cX9_setup 144 = .ok (.getfield 225, 3) := by decide +kernel
theorem dX9_setup_147 : decode cX9_setup 147 = .ok (.aload_n 0, 1) := by decide +kernel
theorem dX9_setup_148 : decode cX9_setup 148 = .ok (.getfield 213, 3) := by decide +kernel
theorem dX9_setup_151 : decode cX9_setup 151 = .ok (.if_icmp .lt 8, 3) := by decide +kernel
theorem dX9_setup_154 : decode cX9_setup 154 = .ok (.aload_n 0, 1) := by decide +kernel
theorem dX9_setup_155 : decode cX9_setup 155 = .ok (.iconst 5, 1) := by decide +kernel
theorem dX9_setup_156 : decode cX9_setup 156 = .ok (.invokevirtual 184, 3) := by decide +kernel
theorem dX9_setup_159 : decode cX9_setup 159 = .ok (.aload_n 0, 1) := by decide +kernel
theorem dX9_setup_160 : decode cX9_setup 160 = .ok (.getfield 73, 3) := by decide +kernel
theorem dX9_setup_163 : decode cX9_setup 163 = .ok (.iconst 0, 1) := by decide +kernel
theorem dX9_setup_164 : decode cX9_setup 164 = .ok (.iconst 0, 1) := by decide +kernel
theorem dX9_setup_165 : decode cX9_setup 165 = .ok (.iastore, 1) := by decide +kernel
theorem dX9_setup_166 : decode cX9_setup 166 = .ok (.aload_n 0, 1) := by decide +kernel
theorem dX9_setup_167 : decode cX9_setup 167 = .ok (.getfield 73, 3) := by decide +kernel
theorem dX9_setup_170 : decode cX9_setup 170 = .ok (.iconst 1, 1) := by decide +kernel
theorem dX9_setup_171 : decode cX9_setup 171 = .ok (.bipush 16, 2) := by decide +kernel
theorem dX9_setup_173 : decode cX9_setup 173 = .ok (.iastore, 1) := by decide +kernel
theorem dX9_setup_174 : decode cX9_setup 174 = .ok (.iconst 0, 1) := by decide +kernel
theorem dX9_setup_175 : decode cX9_setup 175 = .ok (.istore_n 2, 1) := by decide +kernel
theorem dX9_setup_176 : decode cX9_setup 176 = .ok (.iload_n 2, 1) := by decide +kernel
theorem dX9_setup_177 : decode cX9_setup 177 = .ok (.aload_n 0, 1) := by decide +kernel
theorem dX9_setup_178 : decode cX9_setup 178 = .ok (.getfield 222, 3) := by decide +kernel
theorem dX9_setup_181 : decode cX9_setup 181 = .ok (.if_icmp .ge 23, 3) := by decide +kernel
theorem dX9_setup_184 : decode cX9_setup 184 = .ok (.aload_n 0, 1) := by decide +kernel
theorem dX9_setup_185 : decode cX9_setup 185 = .ok (.getfield 181, 3) := by decide +kernel
theorem dX9_setup_188 : decode cX9_setup 188 = .ok (.ifCond .ne 16, 3) := by decide +kernel
theorem dX9_setup_191 : decode cX9_setup 191 = .ok (.aload_n 0, 1) := by decide +kernel
theorem dX9_setup_192 : decode cX9_setup 192 = .ok (.iload_n 2, 1) := by decide +kernel
theorem dX9_setup_193 : decode cX9_setup 193 = .ok (.iconst 2, 1) := by decide +kernel
theorem dX9_setup_194 : decode cX9_setup 194 = .ok (.iadd, 1) := by decide +kernel
theorem dX9_setup_195 : decode cX9_setup 195 = .ok (.invokevirtual 228, 3) := by decide +kernel
theorem dX9_setup_198 : decode cX9_setup 198 = .ok (.iinc 2 1, 3) := by decide +kernel
theorem dX9_setup_201 : decode cX9_setup 201 = .ok (.goto (-25), 3) := by decide +kernel
theorem dX9_setup_204 : decode cX9_setup 204 = .ok (.aload_n 0, 1) := by decide +kernel
theorem dX9_setup_205 : decode cX9_setup 205 = .ok (.getfield 181, 3) := by decide +kernel
theorem dX9_setup_208 : decode cX9_setup 208 = .ok (.ifCond .le 4, 3) := by decide +kernel
theorem dX9_setup_211 : decode cX9_setup 211 = .ok (.return_, 1) := by decide +kernel
theorem dX9_setup_212 : decode cX9_setup 212 = .ok (.aload_n 0, 1) := by decide +kernel
theorem dX9_setup_213 : decode cX9_setup 213 = .ok (.iconst 1, 1) := by decide +kernel
theorem dX9_setup_214 : decode cX9_setup 214 = .ok (.aload_n 0, 1) := by decide +kernel
theorem dX9_setup_215 : decode cX9_setup 215 = .ok (.iconst 2, 1) := by decide +kernel
theorem dX9_setup_216 : decode cX9_setup 216 = .ok (.invokevirtual 193, 3) := by decide +kernel
theorem dX9_setup_219 : decode cX9_setup 219 = .ok (.ishl, 1) := by decide +kernel
theorem dX9_setup_220 : decode cX9_setup 220 = .ok (.putfield 231, 3) := by decide +kernel
theorem dX9_setup_223 : decode cX9_setup 223 = .ok (.aload_n 0, 1) := by decide +kernel
theorem dX9_setup_224 : decode cX9_setup 224 = .ok (.iconst 1, 1) := by decide +kernel
theorem dX9_setup_225 : decode cX9_setup 225 = .ok (.aload_n 0, 1) := by decide +kernel
theorem dX9_setup_226 : decode cX9_setup 226 = .ok (.iconst 2, 1) := by decide +kernel
theorem dX9_setup_227 : decode cX9_setup 227 = .ok (.invokevirtual 193, 3) := by decide +kernel
theorem dX9_setup_230 : decode cX9_setup 230 = .ok (.iadd, 1) := by decide +kernel
theorem dX9_setup_231 : decode cX9_setup 231 = .ok (.putfield 234, 3) := by decide +kernel
theorem dX9_setup_234 : decode cX9_setup 234 = .ok (.aload_n 0, 1) := by decide +kernel
theorem dX9_setup_235 : decode cX9_setup 235 = .ok (.aload_n 0, 1) := by decide +kernel
theorem dX9_setup_236 : decode cX9_setup 236 = .ok (.iconst 3, 1) := by decide +kernel
theorem dX9_setup_237 : decode cX9_setup 237 = .ok (.invokevirtual 193, 3) := by decide +kernel
theorem dX9_setup_240 : decode cX9_setup 240 = .ok (.putfield 237, 3) := by decide +kernel
theorem dX9_setup_243 : decode cX9_setup 243 = .ok (.aload_n 0, 1) := by decide +kernel
theorem dX9_setup_244 : decode cX9_setup 244 = .ok (.invokevirtual 197, 3) := by decide +kernel
theorem dX9_setup_247 : decode cX9_setup 247 = .ok (.aload_n 0, 1) := by decide +kernel
theorem dX9_setup_248 : decode cX9_setup 248 = .ok (.getfield 181, 3) := by decide +kernel
theorem dX9_setup_251 : decode cX9_setup 251 = .ok (.ifCond .ne 19, 3) := by decide +kernel
theorem dX9_setup_254 : decode cX9_setup 254 = .ok (.aload_n 0, 1) := by decide +kernel
theorem dX9_setup_255 : decode cX9_setup 255 = .ok (.getfield 237, 3) := by decide +kernel
theorem dX9_setup_258 : decode cX9_setup 258 = .ok (.aload_n 0, 1) := by decide +kernel
theorem dX9_setup_259 : decode cX9_setup 259 = .ok (.getfield 213, 3) := by decide +kernel
theorem dX9_setup_262 : decode cX9_setup 262 = .ok (.if_icmp .lt 8, 3) := by decide +kernel
theorem dX9_setup_265 : decode cX9_setup 265 = .ok (.aload_n 0, 1) := by decide +kernel
theorem dX9_setup_266 : decode cX9_setup 266 = .ok (.iconst 5, 1) := by decide +kernel
theorem dX9_setup_267 : decode cX9_setup 267 = .ok (.invokevirtual 184, 3) := by decide +kernel
theorem dX9_setup_270 : decode cX9_setup 270 = .ok (.iconst 0, 1) := by decide +kernel
theorem dX9_setup_271 : decode cX9_setup 271 = .ok (.istore_n 2, 1) := by decide +kernel
theorem dX9_setup_272 : decode cX9_setup 272 = .ok (.iload_n 2, 1) := by decide +kernel
theorem dX9_setup_273 : decode cX9_setup 273 = .ok (.aload_n 0, 1) := by decide +kernel
theorem dX9_setup_274 : decode cX9_setup 274 = .ok (.getfield 234, 3) := by decide +kernel
theorem dX9_setup_277 : decode cX9_setup 277 = .ok (.if_icmp .ge 21, 3) := by decide +kernel
theorem dX9_setup_280 : decode cX9_setup 280 = .ok (.aload_n 0, 1) := by decide +kernel
theorem dX9_setup_281 : decode cX9_setup 281 = .ok (.getfield 181, 3) := by decide +kernel
theorem dX9_setup_284 : decode cX9_setup 284 = .ok (.ifCond .ne 14, 3) := by decide +kernel
theorem dX9_setup_287 : decode cX9_setup 287 = .ok (.aload_n 0, 1) := by decide +kernel
theorem dX9_setup_288 : decode cX9_setup 288 = .ok (.iload_n 2, 1) := by decide +kernel
theorem dX9_setup_289 : decode cX9_setup 289 = .ok (.invokevirtual 240, 3) := by decide +kernel
theorem dX9_setup_292 : decode cX9_setup 292 = .ok (.iinc 2 1, 3) := by decide +kernel
theorem dX9_setup_295 : decode cX9_setup 295 = .ok (.goto (-23), 3) := by decide +kernel
theorem dX9_setup_298 : decode cX9_setup 298 = .ok (.aload_n 0, 1) := by decide +kernel
theorem dX9_setup_299 : decode cX9_setup 299 = .ok (.aload_n 0, 1) := by decide +kernel
theorem dX9_setup_300 : decode cX9_setup 300 = .ok (.getfield 181, 3) := by decide +kernel
theorem dX9_setup_303 : decode cX9_setup 303 = .ok (.ifCond .ne 23, 3) := by decide +kernel
theorem dX9_setup_306 : decode cX9_setup 306 = .ok (.aload_n 0, 1) := by decide +kernel
theorem dX9_setup_307 : decode cX9_setup 307 = .ok (.getfield 210, 3) := by decide +kernel
theorem dX9_setup_310 : decode cX9_setup 310 = .ok (.iconst 2, 1) := by decide +kernel
theorem dX9_setup_311 : decode cX9_setup 311 = .ok (.if_icmp .ne 15, 3) := by decide +kernel
theorem dX9_setup_314 : decode cX9_setup 314 = .ok (.aload_n 0, 1) := by decide +kernel
theorem dX9_setup_315 : decode cX9_setup 315 = .ok (.invokevirtual 177, 3) := by decide +kernel
theorem dX9_setup_318 : decode cX9_setup 318 = .ok (.iconst 1, 1) := by decide +kernel
theorem dX9_setup_319 : decode cX9_setup 319 = .ok (.if_icmp .ne 7, 3) := by decide +kernel
theorem dX9_setup_322 : decode cX9_setup 322 = .ok (.iconst 1, 1) := by decide +kernel
theorem dX9_setup_323 : decode cX9_setup 323 = .ok (.goto 4, 3) := by decide +kernel
theorem dX9_setup_326 : decode cX9_setup 326 = .ok (.iconst 0, 1) := by decide +kernel
theorem dX9_setup_327 : decode cX9_setup 327 = .ok (.putfield 243, 3) := by decide +kernel
theorem dX9_setup_330 : decode cX9_setup 330 = .ok (.aload_n 0, 1) := by decide +kernel
theorem dX9_setup_331 : decode cX9_setup 331 = .ok (.invokevirtual 197, 3) := by decide +kernel
theorem dX9_setup_334 : decode cX9_setup 334 = .ok (.return_, 1) := by decide +kernel
theorem dX9_post_0 : decode cX9_post 0 = .ok (.aload_n 0, 1) := by decide +kernel
theorem dX9_post_1 : decode cX9_post 1 = .ok (.getfield 73, 3) := by decide +kernel
theorem dX9_post_4 : decode cX9_post 4 = .ok (.iload_n 1, 1) := by decide +kernel
theorem dX9_post_5 : decode cX9_post 5 = .ok (.aload_n 0, 1) := by decide +kernel
theorem dX9_post_6 : decode cX9_post 6 = .ok (.iconst 5, 1) := by decide +kernel
theorem dX9_post_7 : decode cX9_post 7 = .ok (.invokevirtual 193, 3) := by decide +kernel
theorem dX9_post_10 : decode cX9_post 10 = .ok (.iastore, 1) := by decide +kernel
theorem dX9_post_11 : decode cX9_post 11 = .ok (.aload_n 0, 1) := by decide +kernel
theorem dX9_post_12 : decode cX9_post 12 = .ok (.invokevirtual 197, 3) := by decide +kernel
theorem dX9_post_15 : decode cX9_post 15 = .ok (.aload_n 0, 1) := by decide +kernel
theorem dX9_post_16 : decode cX9_post 16 = .ok (.getfield 73, 3) := by decide +kernel
theorem dX9_post_19 : decode cX9_post 19 = .ok (.iload_n 1, 1) := by decide +kernel
theorem dX9_post_20 : decode cX9_post 20 = .ok (.iaload, 1) := by decide +kernel
theorem dX9_post_21 : decode cX9_post 21 = .ok (.ifCond .le 18, 3) := by decide +kernel
theorem dX9_post_24 : decode cX9_post 24 = .ok (.aload_n 0, 1) := by decide +kernel
theorem dX9_post_25 : decode cX9_post 25 = .ok (.getfield 73, 3) := by decide +kernel
theorem dX9_post_28 : decode cX9_post 28 = .ok (.iload_n 1, 1) := by decide +kernel
theorem dX9_post_29 : decode cX9_post 29 = .ok (.iaload, 1) := by decide +kernel
theorem dX9_post_30 : decode cX9_post 30 = .ok (.bipush 16, 2) := by decide +kernel
theorem dX9_post_32 : decode cX9_post 32 = .ok (.if_icmp .ge 7, 3) := by decide +kernel
theorem dX9_post_35 : decode cX9_post 35 = .ok (.iconst 1, 1) := by decide +kernel
theorem dX9_post_36 : decode cX9_post 36 = .ok (.goto 4, 3) := by decide +kernel
theorem dX9_post_39 : decode cX9_post 39 = .ok (.iconst 0, 1) := by decide +kernel
theorem dX9_post_40 : decode cX9_post 40 = .ok (.istore_n 2, 1) := by decide +kernel
theorem dX9_post_41 : decode cX9_post 41 = .ok (.iconst 2, 1) := by decide +kernel
theorem dX9_post_42 : decode cX9_post 42 = .ok (.istore_n 3, 1) := by decide +kernel
theorem dX9_post_43 : decode cX9_post 43 = .ok (.iload_n 3, 1) := by decide +kernel
theorem dX9_post_44 : decode cX9_post 44 = .ok (.iload_n 1, 1) := by decide +kernel
theorem dX9_post_45 : decode cX9_post 45 = .ok (.if_icmp .ge 34, 3) := by decide +kernel
theorem dX9_post_48 : decode cX9_post 48 = .ok (.iload_n 2, 1) := by decide +kernel
theorem dX9_post_49 : decode cX9_post 49 = .ok (.ifCond .eq 22, 3) := by decide +kernel
theorem dX9_post_52 : decode cX9_post 52 = .ok (.aload_n 0, 1) := by decide +kernel
theorem dX9_post_53 : decode cX9_post 53 = .ok (.getfield 73, 3) := by decide +kernel
theorem dX9_post_56 : decode cX9_post 56 = .ok (.iload_n 3, 1) := by decide +kernel
theorem dX9_post_57 : decode cX9_post 57 = .ok (.iaload, 1) := by decide +kernel
theorem dX9_post_58 : decode cX9_post 58 = .ok (.aload_n 0, 1) := by decide +kernel
theorem dX9_post_59 : decode cX9_post 59 = .ok (.getfield 73, 3) := by decide +kernel
theorem dX9_post_62 : decode cX9_post 62 = .ok (.iload_n 1, 1) := by decide +kernel
theorem dX9_post_63 : decode cX9_post 63 = .ok (.iaload, 1) := by decide +kernel
theorem dX9_post_64 : decode cX9_post 64 = .ok (.if_icmp .eq 7, 3) := by decide +kernel
theorem dX9_post_67 : decode cX9_post 67 = .ok (.iconst 1, 1) := by decide +kernel
theorem dX9_post_68 : decode cX9_post 68 = .ok (.goto 4, 3) := by decide +kernel
theorem dX9_post_71 : decode cX9_post 71 = .ok (.iconst 0, 1) := by decide +kernel
theorem dX9_post_72 : decode cX9_post 72 = .ok (.istore_n 2, 1) := by decide +kernel
theorem dX9_post_73 : decode cX9_post 73 = .ok (.iinc 3 1, 3) := by decide +kernel
theorem dX9_post_76 : decode cX9_post 76 = .ok (.goto (-33), 3) := by decide +kernel
theorem dX9_post_79 : decode cX9_post 79 = .ok (.iload_n 2, 1) := by decide +kernel
theorem dX9_post_80 : decode cX9_post 80 = .ok (.ifCond .ne 9, 3) := by decide +kernel
theorem dX9_post_83 : decode cX9_post 83 = .ok (.aload_n 0, 1) := by decide +kernel
theorem dX9_post_84 : decode cX9_post 84 = .ok (.bipush 6, 2) := by decide +kernel
theorem dX9_post_86 : decode cX9_post 86 = .ok (.invokevirtual 184, 3) := by decide +kernel
theorem dX9_post_89 : decode cX9_post 89 = .ok (.return_, 1) := by decide +kernel
theorem dX9_ofClass_0 : decode cX9_ofClass 0 = .ok (.aload_n 0, 1) := by decide +kernel
theorem dX9_ofClass_1 : decode cX9_ofClass 1 = .ok (.iconst 4, 1) := by decide +kernel
theorem dX9_ofClass_2 : decode cX9_ofClass 2 = .ok (.invokevirtual 193, 3) := by decide +kernel
theorem dX9_ofClass_5 : decode cX9_ofClass 5 = .ok (.istore_n 2, 1) := by decide +kernel
theorem dX9_ofClass_6 : decode cX9_ofClass 6 = .ok (.aload_n 0, 1) := by decide +kernel
theorem dX9_ofClass_7 : decode cX9_ofClass 7 = .ok (.invokevirtual 197, 3) := by decide +kernel
theorem dX9_ofClass_10 : decode cX9_ofClass 10 = .ok (.aload_n 0, 1) := by decide +kernel
theorem dX9_ofClass_11 : decode cX9_ofClass 11 = .ok (.getfield 76, 3) := by decide +kernel
theorem dX9_ofClass_14 : decode cX9_ofClass 14 = .ok (.iload_n 1, 1) := by decide +kernel
theorem dX9_ofClass_15 : decode cX9_ofClass 15 = .ok (.iload_n 2, 1) := by decide +kernel
theorem dX9_ofClass_16 : decode cX9_ofClass 16 = .ok (.bipush 8, 2) := by decide +kernel
theorem dX9_ofClass_18 : decode cX9_ofClass 18 = .ok (.if_icmp .ge 7, 3) := by decide +kernel
theorem dX9_ofClass_21 : decode cX9_ofClass 21 = .ok (.iload_n 2, 1) := by decide +kernel
theorem dX9_ofClass_22 : decode cX9_ofClass 22 = .ok (.goto 4, 3) := by decide +kernel
theorem dX9_ofClass_25 : decode cX9_ofClass 25 = .ok (.iconst (-1), 1) := by decide +kernel
theorem dX9_ofClass_26 : decode cX9_ofClass 26 = .ok (.iastore, 1) := by decide +kernel
theorem dX9_ofClass_27 : decode cX9_ofClass 27 = .ok (.aload_n 0, 1) := by decide +kernel
theorem dX9_ofClass_28 : decode cX9_ofClass 28 = .ok (.getfield 181, 3) := by decide +kernel
theorem dX9_ofClass_31 : decode cX9_ofClass 31 = .ok (.ifCond .gt 9, 3) := by decide +kernel
theorem dX9_ofClass_34 : decode cX9_ofClass 34 = .ok (.iload_n 2, 1) := by decide +kernel
theorem dX9_ofClass_35 : decode cX9_ofClass 35 = .ok (.bipush 8, 2) := by decide +kernel
theorem dX9_ofClass_37 : decode cX9_ofClass 37 = .ok (.if_icmp .lt 4, 3) := by decide +kernel
theorem dX9_ofClass_40 : decode cX9_ofClass 40 = .ok (.return_, 1) := by decide +kernel
theorem dX9_ofClass_41 : decode cX9_ofClass 41 = .ok (.iload_n 2, 1) := by decide +kernel
theorem dX9_ofClass_42 : decode cX9_ofClass 42 = .ok (.aload_n 0, 1) := by decide +kernel
theorem dX9_ofClass_43 : decode cX9_ofClass 43 = .ok (.getfield 213, 3) := by decide +kernel
theorem dX9_ofClass_46 : decode cX9_ofClass 46 = .ok (.if_icmp .lt 11, 3) := by decide +kernel
theorem dX9_ofClass_49 : decode cX9_ofClass 49 = .ok (.aload_n 0, 1) := by decide +kernel
theorem dX9_ofClass_50 : decode cX9_ofClass 50 = .ok (.iconst 5, 1) := by decide +kernel
theorem dX9_ofClass_51 : decode cX9_ofClass 51 = .ok (.invokevirtual 184, 3) := by decide +kernel
theorem dX9_ofClass_54 : decode cX9_ofClass 54 = .ok (.goto 32, 3) := by decide +kernel
theorem dX9_ofClass_57 : decode cX9_ofClass 57 = .ok (.aload_n 0, 1) := by decide +kernel
theorem dX9_ofClass_58 : decode cX9_ofClass 58 = .ok (.getfield 47, 3) := by decide +kernel
theorem dX9_ofClass_61 : decode cX9_ofClass 61 = .ok (.iload_n 2, 1) := by decide +kernel
theorem dX9_ofClass_62 : decode cX9_ofClass 62 = .ok (.baload, 1) := by decide +kernel
theorem dX9_ofClass_63 : decode cX9_ofClass 63 = .ok (.ifCond .eq 17, 3) := by decide +kernel
theorem dX9_ofClass_66 : decode cX9_ofClass 66 = .ok (.aload_n 0, 1) := by decide +kernel
theorem dX9_ofClass_67 : decode cX9_ofClass 67 = .ok (.getfield 231, 3) := by decide +kernel
theorem dX9_ofClass_70 : decode cX9_ofClass 70 = .ok (.aload_n 0, 1) := by decide +kernel
theorem dX9_ofClass_71 : decode cX9_ofClass 71 = .ok (.getfield 38, 3) := by decide +kernel
theorem dX9_ofClass_74 : decode cX9_ofClass 74 = .ok (.iload_n 2, 1) := by decide +kernel
theorem dX9_ofClass_75 : decode cX9_ofClass 75 = .ok (.iaload, 1) := by decide +kernel
theorem dX9_ofClass_76 : decode cX9_ofClass 76 = .ok (.irem, 1) := by decide +kernel
theorem dX9_ofClass_77 : decode cX9_ofClass 77 = .ok (.ifCond .eq 9, 3) := by decide +kernel
theorem dX9_ofClass_80 : decode cX9_ofClass 80 = .ok (.aload_n 0, 1) := by decide +kernel
theorem dX9_ofClass_81 : decode cX9_ofClass 81 = .ok (.bipush 7, 2) := by decide +kernel
theorem dX9_ofClass_83 : decode cX9_ofClass 83 = .ok (.invokevirtual 184, 3) := by decide +kernel
theorem dX9_ofClass_86 : decode cX9_ofClass 86 = .ok (.return_, 1) := by decide +kernel
theorem dX9_line_0 : decode cX9_line 0 = .ok (.aload_n 0, 1) := by decide +kernel
theorem dX9_line_1 : decode cX9_line 1 = .ok (.getfield 79, 3) := by decide +kernel
theorem dX9_line_4 : decode cX9_line 4 = .ok (.iload_n 2, 1) := by decide +kernel
theorem dX9_line_5 : decode cX9_line 5 = .ok (.iaload, 1) := by decide +kernel
theorem dX9_line_6 : decode cX9_line 6 = .ok (.aload_n 0, 1) := by decide +kernel
theorem dX9_line_7 : decode cX9_line 7 = .ok (.getfield 79, 3) := by decide +kernel
theorem dX9_line_10 : decode cX9_line 10 = .ok (.iload_n 1, 1) := by decide +kernel
theorem dX9_line_11 : decode cX9_line 11 = .ok (.iaload, 1) := by decide +kernel
theorem dX9_line_12 : decode cX9_line 12 = .ok (.isub, 1) := by decide +kernel
theorem dX9_line_13 : decode cX9_line 13 = .ok (.istore 4, 2) := by decide +kernel
theorem dX9_line_15 : decode cX9_line 15 = .ok (.iload 4, 2) := by decide +kernel
theorem dX9_line_17 : decode cX9_line 17 = .ok (.ifCond .ge 9, 3) := by decide +kernel
theorem dX9_line_20 : decode cX9_line 20 = .ok (.iload 4, 2) := by decide +kernel
theorem dX9_line_22 : decode cX9_line 22 = .ok (.ineg, 1) := by decide +kernel
theorem dX9_line_23 : decode cX9_line 23 = .ok (.goto 5, 3) := by decide +kernel
theorem dX9_line_26 : decode cX9_line 26 = .ok (.iload 4, 2) := by decide +kernel
theorem dX9_line_28 : decode cX9_line 28 = .ok (.iload_n 3, 1) := by decide +kernel
theorem dX9_line_29 : decode cX9_line 29 = .ok (.aload_n 0, 1) := by decide +kernel
theorem dX9_line_30 : decode cX9_line 30 = .ok (.getfield 73, 3) := by decide +kernel
theorem dX9_line_33 : decode cX9_line 33 = .ok (.iload_n 1, 1) := by decide +kernel
theorem dX9_line_34 : decode cX9_line 34 = .ok (.iaload, 1) := by decide +kernel
theorem dX9_line_35 : decode cX9_line 35 = .ok (.isub, 1) := by decide +kernel
theorem dX9_line_36 : decode cX9_line 36 = .ok (.imul, 1) := by decide +kernel
theorem dX9_line_37 : decode cX9_line 37 = .ok (.aload_n 0, 1) := by decide +kernel
theorem dX9_line_38 : decode cX9_line 38 = .ok (.getfield 73, 3) := by decide +kernel
theorem dX9_line_41 : decode cX9_line 41 = .ok (.iload_n 2, 1) := by decide +kernel
theorem dX9_line_42 : decode cX9_line 42 = .ok (.iaload, 1) := by decide +kernel
theorem dX9_line_43 : decode cX9_line 43 = .ok (.aload_n 0, 1) := by decide +kernel
theorem dX9_line_44 : decode cX9_line 44 = .ok (.getfield 73, 3) := by decide +kernel
theorem dX9_line_47 : decode cX9_line 47 = .ok (.iload_n 1, 1) := by decide +kernel
theorem dX9_line_48 : decode cX9_line 48 = .ok (.iaload, 1) := by decide +kernel
theorem dX9_line_49 : decode cX9_line 49 = .ok (.isub, 1) := by decide +kernel
theorem dX9_line_50 : decode cX9_line 50 = .ok (.idiv, 1) := by decide +kernel
theorem dX9_line_51 : decode cX9_line 51 = .ok (.istore 5, 2) := by decide +kernel
theorem dX9_line_53 : decode cX9_line 53 = .ok (.iload 4, 2) := by decide +kernel
theorem dX9_line_55 : decode cX9_line 55 = .ok (.ifCond .ge 15, 3) := by decide +kernel
theorem dX9_line_58 : decode cX9_line 58 = .ok (.aload_n 0, 1) := by decide +kernel
theorem dX9_line_59 : decode cX9_line 59 = .ok (.getfield 79, 3) := by decide +kernel
theorem dX9_line_62 : decode cX9_line 62 = .ok (.iload_n 1, 1) := by decide +kernel
theorem dX9_line_63 : decode cX9_line 63 = .ok (.iaload, 1) := by decide +kernel
theorem dX9_line_64 : decode cX9_line 64 = .ok (.iload 5, 2) := by decide +kernel
theorem dX9_line_66 : decode cX9_line 66 = .ok (.isub, 1) := by decide +kernel
theorem dX9_line_67 : decode cX9_line 67 = .ok (.goto 12, 3) := by decide +kernel
theorem dX9_line_70 : decode cX9_line 70 = .ok (.aload_n 0, 1) := by decide +kernel
theorem dX9_line_71 : decode cX9_line 71 = .ok (.getfield 79, 3) := by decide +kernel
theorem dX9_line_74 : decode cX9_line 74 = .ok (.iload_n 1, 1) := by decide +kernel
theorem dX9_line_75 : decode cX9_line 75 = .ok (.iaload, 1) := by decide +kernel
theorem dX9_line_76 : decode cX9_line 76 = .ok (.iload 5, 2) := by decide +kernel
theorem dX9_line_78 : decode cX9_line 78 = .ok (.iadd, 1) := by decide +kernel
theorem dX9_line_79 : decode cX9_line 79 = .ok (.ireturn, 1) := by decide +kernel
theorem dX9_range_0 : decode cX9_range 0 = .ok (.aload_n 0, 1) := by decide +kernel
theorem dX9_range_1 : decode cX9_range 1 = .ok (.getfield 219, 3) := by decide +kernel
theorem dX9_range_4 : decode cX9_range 4 = .ok (.iconst 1, 1) := by decide +kernel
theorem dX9_range_5 : decode cX9_range 5 = .ok (.if_icmp .ne 9, 3) := by decide +kernel
theorem dX9_range_8 : decode cX9_range 8 = .ok (.sipush 256, 3) := by decide +kernel
theorem dX9_range_11 : decode cX9_range 11 = .ok (.goto 32, 3) := by decide +kernel
theorem dX9_range_14 : decode cX9_range 14 = .ok (.aload_n 0, 1) := by decide +kernel
theorem dX9_range_15 : decode cX9_range 15 = .ok (.getfield 219, 3) := by decide +kernel
theorem dX9_range_18 : decode cX9_range 18 = .ok (.iconst 2, 1) := by decide +kernel
theorem dX9_range_19 : decode cX9_range 19 = .ok (.if_icmp .ne 9, 3) := by decide +kernel
theorem dX9_range_22 : decode cX9_range 22 = .ok (.sipush 128, 3) := by decide +kernel
theorem dX9_range_25 : decode cX9_range 25 = .ok (.goto 18, 3) := by decide +kernel
theorem dX9_range_28 : decode cX9_range 28 = .ok (.aload_n 0, 1) := by decide +kernel
theorem dX9_range_29 : decode cX9_range 29 = .ok (.getfield 219, 3) := by decide +kernel
theorem dX9_range_32 : decode cX9_range 32 = .ok (.iconst 3, 1) := by decide +kernel
theorem dX9_range_33 : decode cX9_range 33 = .ok (.if_icmp .ne 8, 3) := by decide +kernel
theorem dX9_range_36 : decode cX9_range 36 = .ok (.bipush 86, 2) := by decide +kernel
theorem dX9_range_38 : decode cX9_range 38 = .ok (.goto 5, 3) := by decide +kernel
theorem dX9_range_41 : decode cX9_range 41 = .ok (.bipush 64, 2) := by decide +kernel
theorem dX9_range_43 : decode cX9_range 43 = .ok (.ireturn, 1) := by decide +kernel
theorem dX9_beside_0 : decode cX9_beside 0 = .ok (.iconst (-1), 1) := by decide +kernel
theorem dX9_beside_1 : decode cX9_beside 1 = .ok (.istore_n 3, 1) := by decide +kernel
theorem dX9_beside_2 : decode cX9_beside 2 = .ok (.iconst 0, 1) := by decide +kernel
theorem dX9_beside_3 : decode cX9_beside 3 = .ok (.istore 4, 2) := by decide +kernel
theorem dX9_beside_5 : decode cX9_beside 5 = .ok (.iload 4, 2) := by decide +kernel
theorem dX9_beside_7 : decode cX9_beside 7 = .ok (.iload_n 1, 1) := by decide +kernel
theorem dX9_beside_8 : decode cX9_beside 8 = .ok (.if_icmp .ge 97, 3) := by decide +kernel
theorem dX9_beside_11 : decode cX9_beside 11 = .ok (.iload_n 2, 1) := by decide +kernel
theorem dX9_beside_12 : decode cX9_beside 12 = .ok (.ifCond .eq 22, 3) := by decide +kernel
theorem dX9_beside_15 : decode cX9_beside 15 = .ok (.aload_n 0, 1) := by decide +kernel
theorem dX9_beside_16 : decode cX9_beside 16 = .ok (.getfield 73, 3) := by decide +kernel
theorem dX9_beside_19 : decode cX9_beside 19 = .ok (.iload 4, 2) := by decide +kernel
theorem dX9_beside_21 : decode cX9_beside 21 = .ok (.iaload, 1) := by decide +kernel
theorem dX9_beside_22 : decode cX9_beside 22 = .ok (.aload_n 0, 1) := by decide +kernel
theorem dX9_beside_23 : decode cX9_beside 23 = .ok (.getfield 73, 3) := by decide +kernel
theorem dX9_beside_26 : decode cX9_beside 26 = .ok (.iload_n 1, 1) := by decide +kernel
theorem dX9_beside_27 : decode cX9_beside 27 = .ok (.iaload, 1) := by decide +kernel
theorem dX9_beside_28 : decode cX9_beside 28 = .ok (.if_icmp .ge 25, 3) := by decide +kernel
theorem dX9_beside_31 : decode cX9_beside 31 = .ok (.goto 68, 3) := by decide +kernel
theorem dX9_beside_34 : decode cX9_beside 34 = .ok (.aload_n 0, 1) := by decide +kernel
theorem dX9_beside_35 : decode cX9_beside 35 = .ok (.getfield 73, 3) := by decide +kernel
theorem dX9_beside_38 : decode cX9_beside 38 = .ok (.iload 4, 2) := by decide +kernel
theorem dX9_beside_40 : decode cX9_beside 40 = .ok (.iaload, 1) := by decide +kernel
theorem dX9_beside_41 : decode cX9_beside 41 = .ok (.aload_n 0, 1) := by decide +kernel
theorem dX9_beside_42 : decode cX9_beside 42 = .ok (.getfield 73, 3) := by decide +kernel
theorem dX9_beside_45 : decode cX9_beside 45 = .ok (.iload_n 1, 1) := by decide +kernel
theorem dX9_beside_46 : decode cX9_beside 46 = .ok (.iaload, 1) := by decide +kernel
theorem dX9_beside_47 : decode cX9_beside 47 = .ok (.if_icmp .le 6, 3) := by decide +kernel
theorem dX9_beside_50 : decode cX9_beside 50 = .ok (.goto 49, 3) := by decide +kernel
theorem dX9_beside_53 : decode cX9_beside 53 = .ok (.iload_n 3, 1) := by decide +kernel
theorem dX9_beside_54 : decode cX9_beside 54 = .ok (.ifCond .lt 42, 3) := by decide +kernel
theorem dX9_beside_57 : decode cX9_beside 57 = .ok (.iload_n 2, 1) := by decide +kernel
theorem dX9_beside_58 : decode cX9_beside 58 = .ok (.ifCond .eq 22, 3) := by decide +kernel
theorem dX9_beside_61 : decode cX9_beside 61 = .ok (.aload_n 0, 1) := by decide +kernel
theorem dX9_beside_62 : decode cX9_beside 62 = .ok (.getfield 73, 3) := by decide +kernel
theorem dX9_beside_65 : decode cX9_beside 65 = .ok (.iload 4, 2) := by decide +kernel
theorem dX9_beside_67 : decode cX9_beside 67 = .ok (.iaload, 1) := by decide +kernel
theorem dX9_beside_68 : decode cX9_beside 68 = .ok (.aload_n 0, 1) := by decide +kernel
theorem dX9_beside_69 : decode cX9_beside 69 = .ok (.getfield 73, 3) := by decide +kernel
theorem dX9_beside_72 : decode cX9_beside 72 = .ok (.iload_n 3, 1) := by decide +kernel
theorem dX9_beside_73 : decode cX9_beside 73 = .ok (.iaload, 1) := by decide +kernel
theorem dX9_beside_74 : decode cX9_beside 74 = .ok (.if_icmp .ge 25, 3) := by decide +kernel
theorem dX9_beside_77 : decode cX9_beside 77 = .ok (.goto 19, 3) := by decide +kernel
theorem dX9_beside_80 : decode cX9_beside 80 = .ok (.aload_n 0, 1) := by decide +kernel
theorem dX9_beside_81 : decode cX9_beside 81 = .ok (.getfield 73, 3) := by decide +kernel
theorem dX9_beside_84 : decode cX9_beside 84 = .ok (.iload 4, 2) := by decide +kernel
theorem dX9_beside_86 : decode cX9_beside 86 = .ok (.iaload, 1) := by decide +kernel
theorem dX9_beside_87 : decode cX9_beside 87 = .ok (.aload_n 0, 1) := by decide +kernel
theorem dX9_beside_88 : decode cX9_beside 88 = .ok (.getfield 73, 3) := by decide +kernel
theorem dX9_beside_91 : decode cX9_beside 91 = .ok (.iload_n 3, 1) := by decide +kernel
theorem dX9_beside_92 : decode cX9_beside 92 = .ok (.iaload, 1) := by decide +kernel
theorem dX9_beside_93 : decode cX9_beside 93 = .ok (.if_icmp .le 6, 3) := by decide +kernel
theorem dX9_beside_96 : decode cX9_beside 96 = .ok (.iload 4, 2) := by decide +kernel
theorem dX9_beside_98 : decode cX9_beside 98 = .ok (.istore_n 3, 1) := by decide +kernel
theorem dX9_beside_99 : decode cX9_beside 99 = .ok (.iinc 4 1, 3) := by decide +kernel
theorem dX9_beside_102 : decode cX9_beside 102 = .ok (.goto (-97), 3) := by decide +kernel
theorem dX9_beside_105 : decode cX9_beside 105 = .ok (.iload_n 3, 1) := by decide +kernel
theorem dX9_beside_106 : decode cX9_beside 106 = .ok (.ireturn, 1) := by decide +kernel
theorem dX9_told_0 : decode cX9_told 0 = .ok (.aload_n 0, 1) := by decide +kernel
theorem dX9_told_1 : decode cX9_told 1 = .ok (.invokevirtual 246, 3) := by decide +kernel
theorem dX9_told_4 : decode cX9_told 4 = .ok (.iload_n 2, 1) := by decide +kernel
theorem dX9_told_5 : decode cX9_told 5 = .ok (.isub, 1) := by decide +kernel
theorem dX9_told_6 : decode cX9_told 6 = .ok (.istore 4, 2) := by decide +kernel
theorem dX9_told_8 : decode cX9_told 8 = .ok (.iload_n 2, 1) := by decide +kernel
theorem dX9_told_9 : decode cX9_told 9 = .ok (.istore 5, 2) := by decide +kernel
theorem dX9_told_11 : decode cX9_told 11 = .ok (.iconst 2, 1) := by decide +kernel
theorem dX9_told_12 : decode cX9_told 12 = .ok (.iload 4, 2) := by decide +kernel
theorem dX9_told_14 : decode cX9_told 14 = .ok (.iload 5, 2) := by decide +kernel
theorem dX9_told_16 : decode cX9_told 16 = .ok (.if_icmp .ge 8, 3) := by decide +kernel
theorem dX9_told_19 : decode cX9_told 19 = .ok (.iload 4, 2) := by decide +kernel
theorem dX9_told_21 : decode cX9_told 21 = .ok (.goto 5, 3) := by decide +kernel
theorem dX9_told_24 : decode cX9_told 24 = .ok (.iload 5, 2) := by decide +kernel
theorem dX9_told_26 : decode cX9_told 26 = .ok (.imul, 1) := by decide +kernel
theorem dX9_told_27 : decode cX9_told 27 = .ok (.istore 6, 2) := by decide +kernel
theorem dX9_told_29 : decode cX9_told 29 = .ok (.iload_n 3, 1) := by decide +kernel
theorem dX9_told_30 : decode cX9_told 30 = .ok (.iload 6, 2) := by decide +kernel
theorem dX9_told_32 : decode cX9_told 32 = .ok (.if_icmp .lt 32, 3) := by decide +kernel
theorem dX9_told_35 : decode cX9_told 35 = .ok (.iload 4, 2) := by decide +kernel
theorem dX9_told_37 : decode cX9_told 37 = .ok (.iload 5, 2) := by decide +kernel
theorem dX9_told_39 : decode cX9_told 39 = .ok (.if_icmp .le 12, 3) := by decide +kernel
theorem dX9_told_42 : decode cX9_told 42 = .ok (.iload_n 2, 1) := by decide +kernel
theorem dX9_told_43 : decode cX9_told 43 = .ok (.iload_n 3, 1) := by decide +kernel
theorem dX9_told_44 : decode cX9_told 44 = .ok (.iadd, 1) := by decide +kernel
theorem dX9_told_45 : decode cX9_told 45 = .ok (.iload 5, 2) := by decide +kernel
theorem dX9_told_47 : decode cX9_told 47 = .ok (.isub, 1) := by decide +kernel
theorem dX9_told_48 : decode cX9_told 48 = .ok (.goto 11, 3) := by decide +kernel
theorem dX9_told_51 : decode cX9_told 51 = .ok (.iload_n 2, 1) := by decide +kernel
theorem dX9_told_52 : decode cX9_told 52 = .ok (.iload 4, 2) := by decide +kernel
theorem dX9_told_54 : decode cX9_told 54 = .ok (.iadd, 1) := by decide +kernel
theorem dX9_told_55 : decode cX9_told 55 = .ok (.iload_n 3, 1) := by decide +kernel
theorem dX9_told_56 : decode cX9_told 56 = .ok (.isub, 1) := by decide +kernel
theorem dX9_told_57 : decode cX9_told 57 = .ok (.iconst 1, 1) := by decide +kernel
theorem dX9_told_58 : decode cX9_told 58 = .ok (.isub, 1) := by decide +kernel
theorem dX9_told_59 : decode cX9_told 59 = .ok (.istore 7, 2) := by decide +kernel
theorem dX9_told_61 : decode cX9_told 61 = .ok (.goto 27, 3) := by decide +kernel
theorem dX9_told_64 : decode cX9_told 64 = .ok (.iload_n 3, 1) := by decide +kernel
theorem dX9_told_65 : decode cX9_told 65 = .ok (.iconst 2, 1) := by decide +kernel
theorem dX9_told_66 : decode cX9_told 66 = .ok (.irem, 1) := by decide +kernel
theorem dX9_told_67 : decode cX9_told 67 = .ok (.iconst 1, 1) := by decide +kernel
theorem dX9_told_68 : decode cX9_told 68 = .ok (.if_icmp .ne 13, 3) := by decide +kernel
theorem dX9_told_71 : decode cX9_told 71 = .ok (.iload_n 2, 1) := by decide +kernel
theorem dX9_told_72 : decode cX9_told 72 = .ok (.iload_n 3, 1) := by decide +kernel
theorem dX9_told_73 : decode cX9_told 73 = .ok (.iconst 1, 1) := by decide +kernel
theorem dX9_told_74 : decode cX9_told 74 = .ok (.iadd, 1) := by decide +kernel
theorem dX9_told_75 : decode cX9_told 75 = .ok (.iconst 2, 1) := by decide +kernel
theorem dX9_told_76 : decode cX9_told 76 = .ok (.idiv, 1) := by decide +kernel
theorem dX9_told_77 : decode cX9_told 77 = .ok (.isub, 1) := by decide +kernel
theorem dX9_told_78 : decode cX9_told 78 = .ok (.goto 8, 3) := by decide +kernel
theorem dX9_told_81 : decode cX9_told 81 = .ok (.iload_n 2, 1) := by decide +kernel
theorem dX9_told_82 : decode cX9_told 82 = .ok (.iload_n 3, 1) := by decide +kernel
theorem dX9_told_83 : decode cX9_told 83 = .ok (.iconst 2, 1) := by decide +kernel
theorem dX9_told_84 : decode cX9_told 84 = .ok (.idiv, 1) := by decide +kernel
theorem dX9_told_85 : decode cX9_told 85 = .ok (.iadd, 1) := by decide +kernel
theorem dX9_told_86 : decode cX9_told 86 = .ok (.istore 7, 2) := by decide +kernel
theorem dX9_told_88 : decode cX9_told 88 = .ok (.iload 7, 2) := by decide +kernel
theorem dX9_told_90 : decode cX9_told 90 = .ok (.ifCond .ge 7, 3) := by decide +kernel
theorem dX9_told_93 : decode cX9_told 93 = .ok (.iconst 0, 1) := by decide +kernel
theorem dX9_told_94 : decode cX9_told 94 = .ok (.goto 23, 3) := by decide +kernel
theorem dX9_told_97 : decode cX9_told 97 = .ok (.iload 7, 2) := by decide +kernel
theorem dX9_told_99 : decode cX9_told 99 = .ok (.aload_n 0, 1) := by decide +kernel
theorem dX9_told_100 : decode cX9_told 100 = .ok (.invokevirtual 246, 3) := by decide +kernel
theorem dX9_told_103 : decode cX9_told 103 = .ok (.if_icmp .lt 12, 3) := by decide +kernel
theorem dX9_told_106 : decode cX9_told 106 = .ok (.aload_n 0, 1) := by decide +kernel
theorem dX9_told_107 : decode cX9_told 107 = .ok (.invokevirtual 246, 3) := by decide +kernel
theorem dX9_told_110 : decode cX9_told 110 = .ok (.iconst 1, 1) := by decide +kernel
theorem dX9_told_111 : decode cX9_told 111 = .ok (.isub, 1) := by decide +kernel
theorem dX9_told_112 : decode cX9_told 112 = .ok (.goto 5, 3) := by decide +kernel
theorem dX9_told_115 : decode cX9_told 115 = .ok (.iload 7, 2) := by decide +kernel
theorem dX9_told_117 : decode cX9_told 117 = .ok (.ireturn, 1) := by decide +kernel
theorem dX9_curve_0 : decode cX9_curve 0 = .ok (.aload_n 0, 1) := by decide +kernel
theorem dX9_curve_1 : decode cX9_curve 1 = .ok (.getfield 88, 3) := by decide +kernel
theorem dX9_curve_4 : decode cX9_curve 4 = .ok (.iload_n 1, 1) := by decide +kernel
theorem dX9_curve_5 : decode cX9_curve 5 = .ok (.aload_n 0, 1) := by decide +kernel
theorem dX9_curve_6 : decode cX9_curve 6 = .ok (.invokevirtual 177, 3) := by decide +kernel
theorem dX9_curve_9 : decode cX9_curve 9 = .ok (.ifCond .ne 7, 3) := by decide +kernel
theorem dX9_curve_12 : decode cX9_curve 12 = .ok (.iconst 1, 1) := by decide +kernel
theorem dX9_curve_13 : decode cX9_curve 13 = .ok (.goto 4, 3) := by decide +kernel
theorem dX9_curve_16 : decode cX9_curve 16 = .ok (.iconst 0, 1) := by decide +kernel
theorem dX9_curve_17 : decode cX9_curve 17 = .ok (.bastore, 1) := by decide +kernel
theorem dX9_curve_18 : decode cX9_curve 18 = .ok (.aload_n 0, 1) := by decide +kernel
theorem dX9_curve_19 : decode cX9_curve 19 = .ok (.getfield 174, 3) := by decide +kernel
theorem dX9_curve_22 : decode cX9_curve 22 = .ok (.ifCond .eq 5, 3) := by decide +kernel
theorem dX9_curve_25 : decode cX9_curve 25 = .ok (.iconst 0, 1) := by decide +kernel
theorem dX9_curve_26 : decode cX9_curve 26 = .ok (.ireturn, 1) := by decide +kernel
theorem dX9_curve_27 : decode cX9_curve 27 = .ok (.aload_n 0, 1) := by decide +kernel
theorem dX9_curve_28 : decode cX9_curve 28 = .ok (.getfield 88, 3) := by decide +kernel
theorem dX9_curve_31 : decode cX9_curve 31 = .ok (.iload_n 1, 1) := by decide +kernel
theorem dX9_curve_32 : decode cX9_curve 32 = .ok (.baload, 1) := by decide +kernel
theorem dX9_curve_33 : decode cX9_curve 33 = .ok (.ifCond .eq 5, 3) := by decide +kernel
theorem dX9_curve_36 : decode cX9_curve 36 = .ok (.iconst 1, 1) := by decide +kernel
theorem dX9_curve_37 : decode cX9_curve 37 = .ok (.ireturn, 1) := by decide +kernel
theorem dX9_curve_38 : decode cX9_curve 38 = .ok (.aload_n 0, 1) := by decide +kernel
theorem dX9_curve_39 : decode cX9_curve 39 = .ok (.getfield 219, 3) := by decide +kernel
theorem dX9_curve_42 : decode cX9_curve 42 = .ok (.iconst 1, 1) := by decide +kernel
theorem dX9_curve_43 : decode cX9_curve 43 = .ok (.if_icmp .ne 8, 3) := by decide +kernel
theorem dX9_curve_46 : decode cX9_curve 46 = .ok (.bipush 8, 2) := by decide +kernel
theorem dX9_curve_48 : decode cX9_curve 48 = .ok (.goto 18, 3) := by decide +kernel
theorem dX9_curve_51 : decode cX9_curve 51 = .ok (.aload_n 0, 1) := by decide +kernel
theorem dX9_curve_52 : decode cX9_curve 52 = .ok (.getfield 219, 3) := by decide +kernel
theorem dX9_curve_55 : decode cX9_curve 55 = .ok (.iconst 4, 1) := by decide +kernel
theorem dX9_curve_56 : decode cX9_curve 56 = .ok (.if_icmp .ne 8, 3) := by decide +kernel
theorem dX9_curve_59 : decode cX9_curve 59 = .ok (.bipush 6, 2) := by decide +kernel
theorem dX9_curve_61 : decode cX9_curve 61 = .ok (.goto 5, 3) := by decide +kernel
theorem dX9_curve_64 : decode cX9_curve 64 = .ok (.bipush 7, 2) := by decide +kernel
theorem dX9_curve_66 : decode cX9_curve 66 = .ok (.istore_n 2, 1) := by decide +kernel
theorem dX9_curve_67 : decode cX9_curve 67 = .ok (.iconst 0, 1) := by decide +kernel
theorem dX9_curve_68 : decode cX9_curve 68 = .ok (.istore_n 3, 1) := by decide +kernel
theorem dX9_curve_69 : decode cX9_curve 69 = .ok (.iload_n 3, 1) := by decide +kernel
theorem dX9_curve_70 : decode cX9_curve 70 = .ok (.iconst 2, 1) := by decide +kernel
theorem dX9_curve_71 : decode cX9_curve 71 = .ok (.if_icmp .ge 49, 3) := by decide +kernel
theorem dX9_curve_74 : decode cX9_curve 74 = .ok (.aload_n 0, 1) := by decide +kernel
theorem dX9_curve_75 : decode cX9_curve 75 = .ok (.iload_n 2, 1) := by decide +kernel
theorem dX9_curve_76 : decode cX9_curve 76 = .ok (.invokevirtual 193, 3) := by decide +kernel
theorem dX9_curve_79 : decode cX9_curve 79 = .ok (.istore 4, 2) := by decide +kernel
theorem dX9_curve_81 : decode cX9_curve 81 = .ok (.aload_n 0, 1) := by decide +kernel
theorem dX9_curve_82 : decode cX9_curve 82 = .ok (.getfield 79, 3) := by decide +kernel
theorem dX9_curve_85 : decode cX9_curve 85 = .ok (.iload_n 3, 1) := by decide +kernel
theorem dX9_curve_86 : decode cX9_curve 86 = .ok (.iload 4, 2) := by decide +kernel
theorem dX9_curve_88 : decode cX9_curve 88 = .ok (.aload_n 0, 1) := by decide +kernel
theorem dX9_curve_89 : decode cX9_curve 89 = .ok (.invokevirtual 246, 3) := by decide +kernel
theorem dX9_curve_92 : decode cX9_curve 92 = .ok (.if_icmp .lt 12, 3) := by decide +kernel
theorem dX9_curve_95 : decode cX9_curve 95 = .ok (.aload_n 0, 1) := by decide +kernel
theorem dX9_curve_96 : decode cX9_curve 96 = .ok (.invokevirtual 246, 3) := by decide +kernel
theorem dX9_curve_99 : decode cX9_curve 99 = .ok (.iconst 1, 1) := by decide +kernel
theorem dX9_curve_100 : decode cX9_curve 100 = .ok (.isub, 1) := by decide +kernel
theorem dX9_curve_101 : decode cX9_curve 101 = .ok (.goto 5, 3) := by decide +kernel
theorem dX9_curve_104 : decode cX9_curve 104 = .ok (.iload 4, 2) := by decide +kernel
theorem dX9_curve_106 : decode cX9_curve 106 = .ok (.iastore, 1) := by decide +kernel
theorem dX9_curve_107 : decode cX9_curve 107 = .ok (.aload_n 0, 1) := by decide +kernel
theorem dX9_curve_108 : decode cX9_curve 108 = .ok (.getfield 82, 3) := by decide +kernel
theorem dX9_curve_111 : decode cX9_curve 111 = .ok (.iload_n 3, 1) := by decide +kernel
theorem dX9_curve_112 : decode cX9_curve 112 = .ok (.iconst 1, 1) := by decide +kernel
theorem dX9_curve_113 : decode cX9_curve 113 = .ok (.bastore, 1) := by decide +kernel
theorem dX9_curve_114 : decode cX9_curve 114 = .ok (.iinc 3 1, 3) := by decide +kernel
theorem dX9_curve_117 : decode cX9_curve 117 = .ok (.goto (-48), 3) := by decide +kernel
theorem dX9_curve_120 : decode cX9_curve 120 = .ok (.aload_n 0, 1) := by decide +kernel
theorem dX9_curve_121 : decode cX9_curve 121 = .ok (.getfield 174, 3) := by decide +kernel
theorem dX9_curve_124 : decode cX9_curve 124 = .ok (.ifCond .eq 5, 3) := by decide +kernel
theorem dX9_curve_127 : decode cX9_curve 127 = .ok (.iconst 0, 1) := by decide +kernel
theorem dX9_curve_128 : decode cX9_curve 128 = .ok (.ireturn, 1) := by decide +kernel
theorem dX9_curve_129 : decode cX9_curve 129 = .ok (.iconst 2, 1) := by decide +kernel
theorem dX9_curve_130 : decode cX9_curve 130 = .ok (.istore_n 3, 1) := by decide +kernel
theorem dX9_curve_131 : decode cX9_curve 131 = .ok (.iload_n 3, 1) := by decide +kernel
theorem dX9_curve_132 : decode cX9_curve 132 = .ok (.aload_n 0, 1) := by decide +kernel
theorem dX9_curve_133 : decode cX9_curve 133 = .ok (.getfield 222, 3) := by decide +kernel
theorem dX9_curve_136 : decode cX9_curve 136 = .ok (.iconst 2, 1) := by decide +kernel
theorem dX9_curve_137 : decode cX9_curve 137 = .ok (.iadd, 1) := by decide +kernel
theorem dX9_curve_138 : decode cX9_curve 138 = .ok (.if_icmp .ge 32, 3) := by decide +kernel
theorem dX9_curve_141 : decode cX9_curve 141 = .ok (.aload_n 0, 1) := by decide +kernel
theorem dX9_curve_142 : decode cX9_curve 142 = .ok (.getfield 91, 3) := by decide +kernel
theorem dX9_curve_145 : decode cX9_curve 145 = .ok (.iload_n 3, 1) := by decide +kernel
theorem dX9_curve_146 : decode cX9_curve 146 = .ok (.aload_n 0, 1) := by decide +kernel
theorem dX9_curve_147 : decode cX9_curve 147 = .ok (.aload_n 0, 1) := by decide +kernel
theorem dX9_curve_148 : decode cX9_curve 148 = .ok (.getfield 225, 3) := by decide +kernel
theorem dX9_curve_151 : decode cX9_curve 151 = .ok (.invokevirtual 249, 3) := by decide +kernel
theorem dX9_curve_154 : decode cX9_curve 154 = .ok (.iastore, 1) := by decide +kernel
theorem dX9_curve_155 : decode cX9_curve 155 = .ok (.aload_n 0, 1) := by decide +kernel
theorem dX9_curve_156 : decode cX9_curve 156 = .ok (.getfield 174, 3) := by decide +kernel
theorem dX9_curve_159 : decode cX9_curve 159 = .ok (.ifCond .eq 5, 3) := by decide +kernel
theorem dX9_curve_162 : decode cX9_curve 162 = .ok (.iconst 0, 1) := by decide +kernel
theorem dX9_curve_163 : decode cX9_curve 163 = .ok (.ireturn, 1) := by decide +kernel
theorem dX9_curve_164 : decode cX9_curve 164 = .ok (.iinc 3 1, 3) := by decide +kernel
theorem dX9_curve_167 : decode cX9_curve 167 = .ok (.goto (-36), 3) := by decide +kernel
theorem dX9_curve_170 : decode cX9_curve 170 = .ok (.iconst 2, 1) := by decide +kernel
theorem dX9_curve_171 : decode cX9_curve 171 = .ok (.istore_n 3, 1) := by decide +kernel
theorem dX9_curve_172 : decode cX9_curve 172 = .ok (.iload_n 3, 1) := by decide +kernel
theorem dX9_curve_173 : decode cX9_curve 173 = .ok (.aload_n 0, 1) := by decide +kernel
theorem dX9_curve_174 : decode cX9_curve 174 = .ok (.getfield 222, 3) := by decide +kernel
theorem dX9_curve_177 : decode cX9_curve 177 = .ok (.iconst 2, 1) := by decide +kernel
theorem dX9_curve_178 : decode cX9_curve 178 = .ok (.iadd, 1) := by decide +kernel
theorem dX9_curve_179 : decode cX9_curve 179 = .ok (.if_icmp .ge 119, 3) := by decide +kernel
theorem dX9_curve_182 : decode cX9_curve 182 = .ok (.aload_n 0, 1) := by decide +kernel
theorem dX9_curve_183 : decode cX9_curve 183 = .ok (.iload_n 3, 1) := by decide +kernel
theorem dX9_curve_184 : decode cX9_curve 184 = .ok (.iconst 0, 1) := by decide +kernel
theorem dX9_curve_185 : decode cX9_curve 185 = .ok (.invokevirtual 252, 3) := by decide +kernel
theorem dX9_curve_188 : decode cX9_curve 188 = .ok (.istore 4, 2) := by decide +kernel
theorem dX9_curve_190 : decode cX9_curve 190 = .ok (.aload_n 0, 1) := by decide +kernel
theorem dX9_curve_191 : decode cX9_curve 191 = .ok (.iload_n 3, 1) := by decide +kernel
theorem dX9_curve_192 : decode cX9_curve 192 = .ok (.iconst 1, 1) := by decide +kernel
theorem dX9_curve_193 : decode cX9_curve 193 = .ok (.invokevirtual 252, 3) := by decide +kernel
theorem dX9_curve_196 : decode cX9_curve 196 = .ok (.istore 5, 2) := by decide +kernel
theorem dX9_curve_198 : decode cX9_curve 198 = .ok (.aload_n 0, 1) := by decide +kernel
theorem dX9_curve_199 : decode cX9_curve 199 = .ok (.iload 4, 2) := by decide +kernel
theorem dX9_curve_201 : decode cX9_curve 201 = .ok (.iload 5, 2) := by decide +kernel
theorem dX9_curve_203 : decode cX9_curve 203 = .ok (.aload_n 0, 1) := by decide +kernel
theorem dX9_curve_204 : decode cX9_curve 204 = .ok (.getfield 73, 3) := by decide +kernel
theorem dX9_curve_207 : decode cX9_curve 207 = .ok (.iload_n 3, 1) := by decide +kernel
theorem dX9_curve_208 : decode cX9_curve 208 = .ok (.iaload, 1) := by decide +kernel
theorem dX9_curve_209 : decode cX9_curve 209 = .ok (.invokevirtual 256, 3) := by decide +kernel
theorem dX9_curve_212 : decode cX9_curve 212 = .ok (.istore 6, 2) := by decide +kernel
theorem dX9_curve_214 : decode cX9_curve 214 = .ok (.aload_n 0, 1) := by decide +kernel
theorem dX9_curve_215 : decode cX9_curve 215 = .ok (.getfield 82, 3) := by decide +kernel
theorem dX9_curve_218 : decode cX9_curve 218 = .ok (.iload_n 3, 1) := by decide +kernel
theorem dX9_curve_219 : decode cX9_curve 219 = .ok (.aload_n 0, 1) := by decide +kernel
theorem dX9_curve_220 : decode cX9_curve 220 = .ok (.getfield 91, 3) := by decide +kernel
theorem dX9_curve_223 : decode cX9_curve 223 = .ok (.iload_n 3, 1) := by decide +kernel
theorem dX9_curve_224 : decode cX9_curve 224 = .ok (.iaload, 1) := by decide +kernel
theorem dX9_curve_225 : decode cX9_curve 225 = .ok (.ifCond .le 7, 3) := by decide +kernel
theorem dX9_curve_228 : decode cX9_curve 228 = .ok (.iconst 1, 1) := by decide +kernel
theorem dX9_curve_229 : decode cX9_curve 229 = .ok (.goto 4, 3) := by decide +kernel
theorem dX9_curve_232 : decode cX9_curve 232 = .ok (.iconst 0, 1) := by decide +kernel
theorem dX9_curve_233 : decode cX9_curve 233 = .ok (.bastore, 1) := by decide +kernel
theorem dX9_curve_234 : decode cX9_curve 234 = .ok (.aload_n 0, 1) := by decide +kernel
theorem dX9_curve_235 : decode cX9_curve 235 = .ok (.getfield 79, 3) := by decide +kernel
theorem dX9_curve_238 : decode cX9_curve 238 = .ok (.iload_n 3, 1) := by decide +kernel
theorem dX9_curve_239 : decode cX9_curve 239 = .ok (.aload_n 0, 1) := by decide +kernel
theorem dX9_curve_240 : decode cX9_curve 240 = .ok (.getfield 82, 3) := by decide +kernel
theorem dX9_curve_243 : decode cX9_curve 243 = .ok (.iload_n 3, 1) := by decide +kernel
theorem dX9_curve_244 : decode cX9_curve 244 = .ok (.baload, 1) := by decide +kernel
theorem dX9_curve_245 : decode cX9_curve 245 = .ok (.ifCond .eq 19, 3) := by decide +kernel
theorem dX9_curve_248 : decode cX9_curve 248 = .ok (.aload_n 0, 1) := by decide +kernel
theorem dX9_curve_249 : decode cX9_curve 249 = .ok (.iload_n 3, 1) := by decide +kernel
theorem dX9_curve_250 : decode cX9_curve 250 = .ok (.iload 6, 2) := by decide +kernel
theorem dX9_curve_252 : decode cX9_curve 252 = .ok (.aload_n 0, 1) := by decide +kernel
theorem dX9_curve_253 : decode cX9_curve 253 = .ok (.getfield 91, 3) := by decide +kernel
theorem dX9_curve_256 : decode cX9_curve 256 = .ok (.iload_n 3, 1) := by decide +kernel
theorem dX9_curve_257 : decode cX9_curve 257 = .ok (.iaload, 1) := by decide +kernel
theorem dX9_curve_258 : decode cX9_curve 258 = .ok (.invokevirtual 260, 3) := by decide +kernel
theorem dX9_curve_261 : decode cX9_curve 261 = .ok (.goto 5, 3) := by decide +kernel
theorem dX9_curve_264 : decode cX9_curve 264 = .ok (.iload 6, 2) := by decide +kernel
theorem dX9_curve_266 : decode cX9_curve 266 = .ok (.iastore, 1) := by decide +kernel
theorem dX9_curve_267 : decode cX9_curve 267 = .ok (.aload_n 0, 1) := by decide +kernel
theorem dX9_curve_268 : decode cX9_curve 268 = .ok (.getfield 82, 3) := by decide +kernel
theorem dX9_curve_271 : decode cX9_curve 271 = .ok (.iload_n 3, 1) := by decide +kernel
theorem dX9_curve_272 : decode cX9_curve 272 = .ok (.baload, 1) := by decide +kernel
theorem dX9_curve_273 : decode cX9_curve 273 = .ok (.ifCond .eq 19, 3) := by decide +kernel
theorem dX9_curve_276 : decode cX9_curve 276 = .ok (.aload_n 0, 1) := by decide +kernel
theorem dX9_curve_277 : decode cX9_curve 277 = .ok (.getfield 82, 3) := by decide +kernel
theorem dX9_curve_280 : decode cX9_curve 280 = .ok (.iload 4, 2) := by decide +kernel
theorem dX9_curve_282 : decode cX9_curve 282 = .ok (.iconst 1, 1) := by decide +kernel
theorem dX9_curve_283 : decode cX9_curve 283 = .ok (.bastore, 1) := by decide +kernel
theorem dX9_curve_284 : decode cX9_curve 284 = .ok (.aload_n 0, 1) := by decide +kernel
theorem dX9_curve_285 : decode cX9_curve 285 = .ok (.getfield 82, 3) := by decide +kernel
theorem dX9_curve_288 : decode cX9_curve 288 = .ok (.iload 5, 2) := by decide +kernel
theorem dX9_curve_290 : decode cX9_curve 290 = .ok (.iconst 1, 1) := by decide +kernel
theorem dX9_curve_291 : decode cX9_curve 291 = .ok (.bastore, 1) := by decide +kernel
theorem dX9_curve_292 : decode cX9_curve 292 = .ok (.iinc 3 1, 3) := by decide +kernel
theorem dX9_curve_295 : decode cX9_curve 295 = .ok (.goto (-123), 3) := by decide +kernel
theorem dX9_curve_298 : decode cX9_curve 298 = .ok (.iconst 0, 1) := by decide +kernel
theorem dX9_curve_299 : decode cX9_curve 299 = .ok (.istore_n 3, 1) := by decide +kernel
theorem dX9_curve_300 : decode cX9_curve 300 = .ok (.iload_n 3, 1) := by decide +kernel
theorem dX9_curve_301 : decode cX9_curve 301 = .ok (.bipush 16, 2) := by decide +kernel
theorem dX9_curve_303 : decode cX9_curve 303 = .ok (.if_icmp .ge 25, 3) := by decide +kernel
theorem dX9_curve_306 : decode cX9_curve 306 = .ok (.aload_n 0, 1) := by decide +kernel
theorem dX9_curve_307 : decode cX9_curve 307 = .ok (.getfield 85, 3) := by decide +kernel
theorem dX9_curve_310 : decode cX9_curve 310 = .ok (.bipush 16, 2) := by decide +kernel
theorem dX9_curve_312 : decode cX9_curve 312 = .ok (.iload_n 1, 1) := by decide +kernel
theorem dX9_curve_313 : decode cX9_curve 313 = .ok (.imul, 1) := by decide +kernel
theorem dX9_curve_314 : decode cX9_curve 314 = .ok (.iload_n 3, 1) := by decide +kernel
theorem dX9_curve_315 : decode cX9_curve 315 = .ok (.iadd, 1) := by decide +kernel
theorem dX9_curve_316 : decode cX9_curve 316 = .ok (.aload_n 0, 1) := by decide +kernel
theorem dX9_curve_317 : decode cX9_curve 317 = .ok (.iload_n 3, 1) := by decide +kernel
theorem dX9_curve_318 : decode cX9_curve 318 = .ok (.invokevirtual 263, 3) := by decide +kernel
theorem dX9_curve_321 : decode cX9_curve 321 = .ok (.lastore, 1) := by decide +kernel
theorem dX9_curve_322 : decode cX9_curve 322 = .ok (.iinc 3 1, 3) := by decide +kernel
theorem dX9_curve_325 : decode cX9_curve 325 = .ok (.goto (-25), 3) := by decide +kernel
theorem dX9_curve_328 : decode cX9_curve 328 = .ok (.iconst 1, 1) := by decide +kernel
theorem dX9_curve_329 : decode cX9_curve 329 = .ok (.ireturn, 1) := by decide +kernel
theorem dX9_height_0 : decode cX9_height 0 = .ok (.iconst 0, 1) := by decide +kernel
theorem dX9_height_1 : decode cX9_height 1 = .ok (.istore_n 2, 1) := by decide +kernel
theorem dX9_height_2 : decode cX9_height 2 = .ok (.iconst 1, 1) := by decide +kernel
theorem dX9_height_3 : decode cX9_height 3 = .ok (.istore_n 3, 1) := by decide +kernel
theorem dX9_height_4 : decode cX9_height 4 = .ok (.iconst 0, 1) := by decide +kernel
theorem dX9_height_5 : decode cX9_height 5 = .ok (.istore 4, 2) := by decide +kernel
theorem dX9_height_7 : decode cX9_height 7 = .ok (.iload 4, 2) := by decide +kernel
theorem dX9_height_9 : decode cX9_height 9 = .ok (.aload_n 0, 1) := by decide +kernel
theorem dX9_height_10 : decode cX9_height 10 = .ok (.getfield 222, 3) := by decide +kernel
theorem dX9_height_13 : decode cX9_height 13 = .ok (.iconst 2, 1) := by decide +kernel
theorem dX9_height_14 : decode cX9_height 14 = .ok (.iadd, 1) := by decide +kernel
theorem dX9_height_15 : decode cX9_height 15 = .ok (.if_icmp .ge 82, 3) := by decide +kernel
theorem dX9_height_18 : decode cX9_height 18 = .ok (.aload_n 0, 1) := by decide +kernel
theorem dX9_height_19 : decode cX9_height 19 = .ok (.getfield 82, 3) := by decide +kernel
theorem dX9_height_22 : decode cX9_height 22 = .ok (.iload 4, 2) := by decide +kernel
theorem dX9_height_24 : decode cX9_height 24 = .ok (.baload, 1) := by decide +kernel
theorem dX9_height_25 : decode cX9_height 25 = .ok (.ifCond .ne 6, 3) := by decide +kernel
theorem dX9_height_28 : decode cX9_height 28 = .ok (.goto 63, 3) := by decide +kernel
theorem dX9_height_31 : decode cX9_height 31 = .ok (.aload_n 0, 1) := by decide +kernel
theorem dX9_height_32 : decode cX9_height 32 = .ok (.getfield 73, 3) := by decide +kernel
theorem dX9_height_35 : decode cX9_height 35 = .ok (.iload 4, 2) := by decide +kernel
theorem dX9_height_37 : decode cX9_height 37 = .ok (.iaload, 1) := by decide +kernel
theorem dX9_height_38 : decode cX9_height 38 = .ok (.iload_n 1, 1) := by decide +kernel
theorem dX9_height_39 : decode cX9_height 39 = .ok (.if_icmp .gt 22, 3) := by decide +kernel
theorem dX9_height_42 : decode cX9_height 42 = .ok (.aload_n 0, 1) := by decide +kernel
theorem dX9_height_43 : decode cX9_height 43 = .ok (.getfield 73, 3) := by decide +kernel
theorem dX9_height_46 : decode cX9_height 46 = .ok (.iload 4, 2) := by decide +kernel
theorem dX9_height_48 : decode cX9_height 48 = .ok (.iaload, 1) := by decide +kernel
theorem dX9_height_49 : decode cX9_height 49 = .ok (.aload_n 0, 1) := by decide +kernel
theorem dX9_height_50 : decode cX9_height 50 = .ok (.getfield 73, 3) := by decide +kernel
theorem dX9_height_53 : decode cX9_height 53 = .ok (.iload_n 2, 1) := by decide +kernel
theorem dX9_height_54 : decode cX9_height 54 = .ok (.iaload, 1) := by decide +kernel
theorem dX9_height_55 : decode cX9_height 55 = .ok (.if_icmp .le 6, 3) := by decide +kernel
theorem dX9_height_58 : decode cX9_height 58 = .ok (.iload 4, 2) := by decide +kernel
theorem dX9_height_60 : decode cX9_height 60 = .ok (.istore_n 2, 1) := by decide +kernel
theorem dX9_height_61 : decode cX9_height 61 = .ok (.aload_n 0, 1) := by decide +kernel
theorem dX9_height_62 : decode cX9_height 62 = .ok (.getfield 73, 3) := by decide +kernel
theorem dX9_height_65 : decode cX9_height 65 = .ok (.iload 4, 2) := by decide +kernel
theorem dX9_height_67 : decode cX9_height 67 = .ok (.iaload, 1) := by decide +kernel
theorem dX9_height_68 : decode cX9_height 68 = .ok (.iload_n 1, 1) := by decide +kernel
theorem dX9_height_69 : decode cX9_height 69 = .ok (.if_icmp .le 22, 3) := by decide +kernel
theorem dX9_height_72 : decode cX9_height 72 = .ok (.aload_n 0, 1) := by decide +kernel
theorem dX9_height_73 : decode cX9_height 73 = .ok (.getfield 73, 3) := by decide +kernel
theorem dX9_height_76 : decode cX9_height 76 = .ok (.iload 4, 2) := by decide +kernel
theorem dX9_height_78 : decode cX9_height 78 = .ok (.iaload, 1) := by decide +kernel
theorem dX9_height_79 : decode cX9_height 79 = .ok (.aload_n 0, 1) := by decide +kernel
theorem dX9_height_80 : decode cX9_height 80 = .ok (.getfield 73, 3) := by decide +kernel
theorem dX9_height_83 : decode cX9_height 83 = .ok (.iload_n 3, 1) := by decide +kernel
theorem dX9_height_84 : decode cX9_height 84 = .ok (.iaload, 1) := by decide +kernel
theorem dX9_height_85 : decode cX9_height 85 = .ok (.if_icmp .ge 6, 3) := by decide +kernel
theorem dX9_height_88 : decode cX9_height 88 = .ok (.iload 4, 2) := by decide +kernel
theorem dX9_height_90 : decode cX9_height 90 = .ok (.istore_n 3, 1) := by decide +kernel
theorem dX9_height_91 : decode cX9_height 91 = .ok (.iinc 4 1, 3) := by decide +kernel
theorem dX9_height_94 : decode cX9_height 94 = .ok (.goto (-87), 3) := by decide +kernel
theorem dX9_height_97 : decode cX9_height 97 = .ok (.aload_n 0, 1) := by decide +kernel
theorem dX9_height_98 : decode cX9_height 98 = .ok (.iload_n 2, 1) := by decide +kernel
theorem dX9_height_99 : decode cX9_height 99 = .ok (.iload_n 3, 1) := by decide +kernel
theorem dX9_height_100 : decode cX9_height 100 = .ok (.iload_n 1, 1) := by decide +kernel
theorem dX9_height_101 : decode cX9_height 101 = .ok (.invokevirtual 256, 3) := by decide +kernel
theorem dX9_height_104 : decode cX9_height 104 = .ok (.aload_n 0, 1) := by decide +kernel
theorem dX9_height_105 : decode cX9_height 105 = .ok (.getfield 219, 3) := by decide +kernel
theorem dX9_height_108 : decode cX9_height 108 = .ok (.imul, 1) := by decide +kernel
theorem dX9_height_109 : decode cX9_height 109 = .ok (.istore 4, 2) := by decide +kernel
theorem dX9_height_111 : decode cX9_height 111 = .ok (.aload_n 0, 1) := by decide +kernel
theorem dX9_height_112 : decode cX9_height 112 = .ok (.getfield 17, 3) := by decide +kernel
theorem dX9_height_115 : decode cX9_height 115 = .ok (.iload 4, 2) := by decide +kernel
theorem dX9_height_117 : decode cX9_height 117 = .ok (.sipush 255, 3) := by decide +kernel
theorem dX9_height_120 : decode cX9_height 120 = .ok (.if_icmp .le 9, 3) := by decide +kernel
theorem dX9_height_123 : decode cX9_height 123 = .ok (.sipush 255, 3) := by decide +kernel
theorem dX9_height_126 : decode cX9_height 126 = .ok (.goto 5, 3) := by decide +kernel
theorem dX9_height_129 : decode cX9_height 129 = .ok (.iload 4, 2) := by decide +kernel
theorem dX9_height_131 : decode cX9_height 131 = .ok (.laload, 1) := by decide +kernel
theorem dX9_height_132 : decode cX9_height 132 = .ok (.lreturn, 1) := by decide +kernel
theorem dX9_values_0 : decode cX9_values 0 = .ok (.iconst 1, 1) := by decide +kernel
theorem dX9_values_1 : decode cX9_values 1 = .ok (.istore 4, 2) := by decide +kernel
theorem dX9_values_3 : decode cX9_values 3 = .ok (.lconst 0, 1) := by decide +kernel
theorem dX9_values_4 : decode cX9_values 4 = .ok (.lstore 5, 2) := by decide +kernel
theorem dX9_values_6 : decode cX9_values 6 = .ok (.iconst 0, 1) := by decide +kernel
theorem dX9_values_7 : decode cX9_values 7 = .ok (.istore 7, 2) := by decide +kernel
theorem dX9_values_9 : decode cX9_values 9 = .ok (.iload 7, 2) := by decide +kernel
theorem dX9_values_11 : decode cX9_values 11 = .ok (.aload_n 0, 1) := by decide +kernel
theorem dX9_values_12 : decode cX9_values 12 = .ok (.getfield 38, 3) := by decide +kernel
theorem dX9_values_15 : decode cX9_values 15 = .ok (.iload_n 1, 1) := by decide +kernel
theorem dX9_values_16 : decode cX9_values 16 = .ok (.iaload, 1) := by decide +kernel
theorem dX9_values_17 : decode cX9_values 17 = .ok (.if_icmp .ge 91, 3) := by decide +kernel
theorem dX9_values_20 : decode cX9_values 20 = .ok (.aload_n 0, 1) := by decide +kernel
theorem dX9_values_21 : decode cX9_values 21 = .ok (.getfield 63, 3) := by decide +kernel
theorem dX9_values_24 : decode cX9_values 24 = .ok (.bipush 64, 2) := by decide +kernel
theorem dX9_values_26 : decode cX9_values 26 = .ok (.iload_n 1, 1) := by decide +kernel
theorem dX9_values_27 : decode cX9_values 27 = .ok (.imul, 1) := by decide +kernel
theorem dX9_values_28 : decode cX9_values 28 = .ok (.iload_n 2, 1) := by decide +kernel
theorem dX9_values_29 : decode cX9_values 29 = .ok (.iload 4, 2) := by decide +kernel
theorem dX9_values_31 : decode cX9_values 31 = .ok (.idiv, 1) := by decide +kernel
theorem dX9_values_32 : decode cX9_values 32 = .ok (.aload_n 0, 1) := by decide +kernel
theorem dX9_values_33 : decode cX9_values 33 = .ok (.getfield 60, 3) := by decide +kernel
theorem dX9_values_36 : decode cX9_values 36 = .ok (.iload_n 1, 1) := by decide +kernel
theorem dX9_values_37 : decode cX9_values 37 = .ok (.iaload, 1) := by decide +kernel
theorem dX9_values_38 : decode cX9_values 38 = .ok (.irem, 1) := by decide +kernel
theorem dX9_values_39 : decode cX9_values 39 = .ok (.iadd, 1) := by decide +kernel
theorem dX9_values_40 : decode cX9_values 40 = .ok (.iaload, 1) := by decide +kernel
theorem dX9_values_41 : decode cX9_values 41 = .ok (.i2l, 1) := by decide +kernel
theorem dX9_values_42 : decode cX9_values 42 = .ok (.aload_n 0, 1) := by decide +kernel
theorem dX9_values_43 : decode cX9_values 43 = .ok (.getfield 54, 3) := by decide +kernel
theorem dX9_values_46 : decode cX9_values 46 = .ok (.iload_n 1, 1) := by decide +kernel
theorem dX9_values_47 : decode cX9_values 47 = .ok (.iaload, 1) := by decide +kernel
theorem dX9_values_48 : decode cX9_values 48 = .ok (.i2l, 1) := by decide +kernel
theorem dX9_values_49 : decode cX9_values 49 = .ok (.lmul, 1) := by decide +kernel
theorem dX9_values_50 : decode cX9_values 50 = .ok (.aload_n 0, 1) := by decide +kernel
theorem dX9_values_51 : decode cX9_values 51 = .ok (.getfield 51, 3) := by decide +kernel
theorem dX9_values_54 : decode cX9_values 54 = .ok (.iload_n 1, 1) := by decide +kernel
theorem dX9_values_55 : decode cX9_values 55 = .ok (.iaload, 1) := by decide +kernel
theorem dX9_values_56 : decode cX9_values 56 = .ok (.i2l, 1) := by decide +kernel
theorem dX9_values_57 : decode cX9_values 57 = .ok (.ladd, 1) := by decide +kernel
theorem dX9_values_58 : decode cX9_values 58 = .ok (.aload_n 0, 1) := by decide +kernel
theorem dX9_values_59 : decode cX9_values 59 = .ok (.getfield 57, 3) := by decide +kernel
theorem dX9_values_62 : decode cX9_values 62 = .ok (.iload_n 1, 1) := by decide +kernel
theorem dX9_values_63 : decode cX9_values 63 = .ok (.baload, 1) := by decide +kernel
theorem dX9_values_64 : decode cX9_values 64 = .ok (.ifCond .eq 8, 3) := by decide +kernel
theorem dX9_values_67 : decode cX9_values 67 = .ok (.lload 5, 2) := by decide +kernel
theorem dX9_values_69 : decode cX9_values 69 = .ok (.goto 4, 3) := by decide +kernel
theorem dX9_values_72 : decode cX9_values 72 = .ok (.lconst 0, 1) := by decide +kernel
theorem dX9_values_73 : decode cX9_values 73 = .ok (.ladd, 1) := by decide +kernel
theorem dX9_values_74 : decode cX9_values 74 = .ok (.lstore 8, 2) := by decide +kernel
theorem dX9_values_76 : decode cX9_values 76 = .ok (.aload_n 0, 1) := by decide +kernel
theorem dX9_values_77 : decode cX9_values 77 = .ok (.getfield 94, 3) := by decide +kernel
theorem dX9_values_80 : decode cX9_values 80 = .ok (.iload_n 3, 1) := by decide +kernel
theorem dX9_values_81 : decode cX9_values 81 = .ok (.iload 7, 2) := by decide +kernel
theorem dX9_values_83 : decode cX9_values 83 = .ok (.iadd, 1) := by decide +kernel
theorem dX9_values_84 : decode cX9_values 84 = .ok (.lload 8, 2) := by decide +kernel
theorem dX9_values_86 : decode cX9_values 86 = .ok (.lastore, 1) := by decide +kernel
theorem dX9_values_87 : decode cX9_values 87 = .ok (.lload 8, 2) := by decide +kernel
theorem dX9_values_89 : decode cX9_values 89 = .ok (.lstore 5, 2) := by decide +kernel
theorem dX9_values_91 : decode cX9_values 91 = .ok (.iload 4, 2) := by decide +kernel
theorem dX9_values_93 : decode cX9_values 93 = .ok (.aload_n 0, 1) := by decide +kernel
theorem dX9_values_94 : decode cX9_values 94 = .ok (.getfield 60, 3) := by decide +kernel
theorem dX9_values_97 : decode cX9_values 97 = .ok (.iload_n 1, 1) := by decide +kernel
theorem dX9_values_98 : decode cX9_values 98 = .ok (.iaload, 1) := by decide +kernel
theorem dX9_values_99 : decode cX9_values 99 = .ok (.imul, 1) := by decide +kernel
theorem dX9_values_100 : decode cX9_values 100 = .ok (.istore 4, 2) := by decide +kernel
theorem dX9_values_102 : decode cX9_values 102 = .ok (.iinc 7 1, 3) := by decide +kernel
theorem dX9_values_105 : decode cX9_values 105 = .ok (.goto (-96), 3) := by decide +kernel
theorem dX9_values_108 : decode cX9_values 108 = .ok (.return_, 1) := by decide +kernel
theorem dX9_rests_0 : decode cX9_rests 0 = .ok (.iconst 0, 1) := by decide +kernel
theorem dX9_rests_1 : decode cX9_rests 1 = .ok (.istore_n 2, 1) := by decide +kernel
theorem dX9_rests_2 : decode cX9_rests 2 = .ok (.iload_n 2, 1) := by decide +kernel
theorem dX9_rests_3 : decode cX9_rests 3 = .ok (.bipush 16, 2) := by decide +kernel
theorem dX9_rests_5 : decode cX9_rests 5 = .ok (.if_icmp .ge 108, 3) := by decide +kernel
theorem dX9_rests_8 : decode cX9_rests 8 = .ok (.aload_n 0, 1) := by decide +kernel
theorem dX9_rests_9 : decode cX9_rests 9 = .ok (.aload_n 0, 1) := by decide +kernel
theorem dX9_rests_10 : decode cX9_rests 10 = .ok (.getfield 237, 3) := by decide +kernel
theorem dX9_rests_13 : decode cX9_rests 13 = .ok (.invokevirtual 249, 3) := by decide +kernel
theorem dX9_rests_16 : decode cX9_rests 16 = .ok (.istore_n 3, 1) := by decide +kernel
theorem dX9_rests_17 : decode cX9_rests 17 = .ok (.aload_n 0, 1) := by decide +kernel
theorem dX9_rests_18 : decode cX9_rests 18 = .ok (.getfield 174, 3) := by decide +kernel
theorem dX9_rests_21 : decode cX9_rests 21 = .ok (.ifCond .eq 4, 3) := by decide +kernel
theorem dX9_rests_24 : decode cX9_rests 24 = .ok (.return_, 1) := by decide +kernel
theorem dX9_rests_25 : decode cX9_rests 25 = .ok (.aload_n 0, 1) := by decide +kernel
theorem dX9_rests_26 : decode cX9_rests 26 = .ok (.getfield 76, 3) := by decide +kernel
theorem dX9_rests_29 : decode cX9_rests 29 = .ok (.iload_n 3, 1) := by decide +kernel
theorem dX9_rests_30 : decode cX9_rests 30 = .ok (.aload_n 0, 1) := by decide +kernel
theorem dX9_rests_31 : decode cX9_rests 31 = .ok (.getfield 234, 3) := by decide +kernel
theorem dX9_rests_34 : decode cX9_rests 34 = .ok (.irem, 1) := by decide +kernel
theorem dX9_rests_35 : decode cX9_rests 35 = .ok (.iaload, 1) := by decide +kernel
theorem dX9_rests_36 : decode cX9_rests 36 = .ok (.istore 4, 2) := by decide +kernel
theorem dX9_rests_38 : decode cX9_rests 38 = .ok (.iconst 0, 1) := by decide +kernel
theorem dX9_rests_39 : decode cX9_rests 39 = .ok (.istore 5, 2) := by decide +kernel
theorem dX9_rests_41 : decode cX9_rests 41 = .ok (.iload 4, 2) := by decide +kernel
theorem dX9_rests_43 : decode cX9_rests 43 = .ok (.ifCond .lt 60, 3) := by decide +kernel
theorem dX9_rests_46 : decode cX9_rests 46 = .ok (.iload 5, 2) := by decide +kernel
theorem dX9_rests_48 : decode cX9_rests 48 = .ok (.aload_n 0, 1) := by decide +kernel
theorem dX9_rests_49 : decode cX9_rests 49 = .ok (.getfield 231, 3) := by decide +kernel
theorem dX9_rests_52 : decode cX9_rests 52 = .ok (.if_icmp .ge 51, 3) := by decide +kernel
theorem dX9_rests_55 : decode cX9_rests 55 = .ok (.aload_n 0, 1) := by decide +kernel
theorem dX9_rests_56 : decode cX9_rests 56 = .ok (.iload 4, 2) := by decide +kernel
theorem dX9_rests_58 : decode cX9_rests 58 = .ok (.invokevirtual 249, 3) := by decide +kernel
theorem dX9_rests_61 : decode cX9_rests 61 = .ok (.istore 6, 2) := by decide +kernel
theorem dX9_rests_63 : decode cX9_rests 63 = .ok (.aload_n 0, 1) := by decide +kernel
theorem dX9_rests_64 : decode cX9_rests 64 = .ok (.getfield 174, 3) := by decide +kernel
theorem dX9_rests_67 : decode cX9_rests 67 = .ok (.ifCond .eq 4, 3) := by decide +kernel
theorem dX9_rests_70 : decode cX9_rests 70 = .ok (.return_, 1) := by decide +kernel
theorem dX9_rests_71 : decode cX9_rests 71 = .ok (.aload_n 0, 1) := by decide +kernel
theorem dX9_rests_72 : decode cX9_rests 72 = .ok (.iload 4, 2) := by decide +kernel
theorem dX9_rests_74 : decode cX9_rests 74 = .ok (.iload 6, 2) := by decide +kernel
theorem dX9_rests_76 : decode cX9_rests 76 = .ok (.bipush 16, 2) := by decide +kernel
theorem dX9_rests_78 : decode cX9_rests 78 = .ok (.iload_n 1, 1) := by decide +kernel
theorem dX9_rests_79 : decode cX9_rests 79 = .ok (.imul, 1) := by decide +kernel
theorem dX9_rests_80 : decode cX9_rests 80 = .ok (.iload_n 2, 1) := by decide +kernel
theorem dX9_rests_81 : decode cX9_rests 81 = .ok (.iadd, 1) := by decide +kernel
theorem dX9_rests_82 : decode cX9_rests 82 = .ok (.iload 5, 2) := by decide +kernel
theorem dX9_rests_84 : decode cX9_rests 84 = .ok (.iadd, 1) := by decide +kernel
theorem dX9_rests_85 : decode cX9_rests 85 = .ok (.invokevirtual 267, 3) := by decide +kernel
theorem dX9_rests_88 : decode cX9_rests 88 = .ok (.iload 5, 2) := by decide +kernel
theorem dX9_rests_90 : decode cX9_rests 90 = .ok (.aload_n 0, 1) := by decide +kernel
theorem dX9_rests_91 : decode cX9_rests 91 = .ok (.getfield 38, 3) := by decide +kernel
theorem dX9_rests_94 : decode cX9_rests 94 = .ok (.iload 4, 2) := by decide +kernel
theorem dX9_rests_96 : decode cX9_rests 96 = .ok (.iaload, 1) := by decide +kernel
theorem dX9_rests_97 : decode cX9_rests 97 = .ok (.iadd, 1) := by decide +kernel
theorem dX9_rests_98 : decode cX9_rests 98 = .ok (.istore 5, 2) := by decide +kernel
theorem dX9_rests_100 : decode cX9_rests 100 = .ok (.goto (-59), 3) := by decide +kernel
theorem dX9_rests_103 : decode cX9_rests 103 = .ok (.iload_n 2, 1) := by decide +kernel
theorem dX9_rests_104 : decode cX9_rests 104 = .ok (.aload_n 0, 1) := by decide +kernel
theorem dX9_rests_105 : decode cX9_rests 105 = .ok (.getfield 231, 3) := by decide +kernel
theorem dX9_rests_108 : decode cX9_rests 108 = .ok (.iadd, 1) := by decide +kernel
theorem dX9_rests_109 : decode cX9_rests 109 = .ok (.istore_n 2, 1) := by decide +kernel
theorem dX9_rests_110 : decode cX9_rests 110 = .ok (.goto (-108), 3) := by decide +kernel
theorem dX9_rests_113 : decode cX9_rests 113 = .ok (.return_, 1) := by decide +kernel
theorem dX9_leans_0 : decode cX9_leans 0 = .ok (.iconst 0, 1) := by decide +kernel
theorem dX9_leans_1 : decode cX9_leans 1 = .ok (.istore_n 1, 1) := by decide +kernel
theorem dX9_leans_2 : decode cX9_leans 2 = .ok (.iload_n 1, 1) := by decide +kernel
theorem dX9_leans_3 : decode cX9_leans 3 = .ok (.bipush 16, 2) := by decide +kernel
theorem dX9_leans_5 : decode cX9_leans 5 = .ok (.if_icmp .ge 117, 3) := by decide +kernel
theorem dX9_leans_8 : decode cX9_leans 8 = .ok (.aload_n 0, 1) := by decide +kernel
theorem dX9_leans_9 : decode cX9_leans 9 = .ok (.getfield 94, 3) := by decide +kernel
theorem dX9_leans_12 : decode cX9_leans 12 = .ok (.iload_n 1, 1) := by decide +kernel
theorem dX9_leans_13 : decode cX9_leans 13 = .ok (.laload, 1) := by decide +kernel
theorem dX9_leans_14 : decode cX9_leans 14 = .ok (.lstore_n 2, 1) := by decide +kernel
theorem dX9_leans_15 : decode cX9_leans 15 = .ok (.aload_n 0, 1) := by decide +kernel
theorem dX9_leans_16 : decode cX9_leans 16 = .ok (.getfield 94, 3) := by decide +kernel
theorem dX9_leans_19 : decode cX9_leans 19 = .ok (.bipush 16, 2) := by decide +kernel
theorem dX9_leans_21 : decode cX9_leans 21 = .ok (.iload_n 1, 1) := by decide +kernel
theorem dX9_leans_22 : decode cX9_leans 22 = .ok (.iadd, 1) := by decide +kernel
theorem dX9_leans_23 : decode cX9_leans 23 = .ok (.laload, 1) := by decide +kernel
theorem dX9_leans_24 : decode cX9_leans 24 = .ok (.lstore 4, 2) := by decide +kernel
theorem dX9_leans_26 : decode cX9_leans 26 = .ok (.lload 4, 2) := by decide +kernel
theorem dX9_leans_28 : decode cX9_leans 28 = .ok (.lconst 0, 1) := by decide +kernel
theorem dX9_leans_29 : decode cX9_leans 29 = .ok (.lcmp, 1) := by decide +kernel
theorem dX9_leans_30 : decode cX9_leans 30 = .ok (.ifCond .gt 7, 3) := by decide +kernel
theorem dX9_leans_33 : decode cX9_leans 33 = .ok (.iconst 1, 1) := by decide +kernel
theorem dX9_leans_34 : decode cX9_leans 34 = .ok (.goto 4, 3) := by decide +kernel
theorem dX9_leans_37 : decode cX9_leans 37 = .ok (.iconst 0, 1) := by decide +kernel
theorem dX9_leans_38 : decode cX9_leans 38 = .ok (.istore 6, 2) := by decide +kernel
theorem dX9_leans_40 : decode cX9_leans 40 = .ok (.lload_n 2, 1) := by decide +kernel
theorem dX9_leans_41 : decode cX9_leans 41 = .ok (.lconst 0, 1) := by decide +kernel
theorem dX9_leans_42 : decode cX9_leans 42 = .ok (.lcmp, 1) := by decide +kernel
theorem dX9_leans_43 : decode cX9_leans 43 = .ok (.ifCond .le 7, 3) := by decide +kernel
theorem dX9_leans_46 : decode cX9_leans 46 = .ok (.iconst 1, 1) := by decide +kernel
theorem dX9_leans_47 : decode cX9_leans 47 = .ok (.goto 4, 3) := by decide +kernel
theorem dX9_leans_50 : decode cX9_leans 50 = .ok (.iconst 0, 1) := by decide +kernel
theorem dX9_leans_51 : decode cX9_leans 51 = .ok (.lload 4, 2) := by decide +kernel
theorem dX9_leans_53 : decode cX9_leans 53 = .ok (.lconst 0, 1) := by decide +kernel
theorem dX9_leans_54 : decode cX9_leans 54 = .ok (.lcmp, 1) := by decide +kernel
theorem dX9_leans_55 : decode cX9_leans 55 = .ok (.ifCond .le 7, 3) := by decide +kernel
theorem dX9_leans_58 : decode cX9_leans 58 = .ok (.iconst 1, 1) := by decide +kernel
theorem dX9_leans_59 : decode cX9_leans 59 = .ok (.goto 4, 3) := by decide +kernel
theorem dX9_leans_62 : decode cX9_leans 62 = .ok (.iconst 0, 1) := by decide +kernel
theorem dX9_leans_63 : decode cX9_leans 63 = .ok (.if_icmp .ne 10, 3) := by decide +kernel
theorem dX9_leans_66 : decode cX9_leans 66 = .ok (.lload_n 2, 1) := by decide +kernel
theorem dX9_leans_67 : decode cX9_leans 67 = .ok (.lload 4, 2) := by decide +kernel
theorem dX9_leans_69 : decode cX9_leans 69 = .ok (.lsub, 1) := by decide +kernel
theorem dX9_leans_70 : decode cX9_leans 70 = .ok (.goto 7, 3) := by decide +kernel
theorem dX9_leans_73 : decode cX9_leans 73 = .ok (.lload_n 2, 1) := by decide +kernel
theorem dX9_leans_74 : decode cX9_leans 74 = .ok (.lload 4, 2) := by decide +kernel
theorem dX9_leans_76 : decode cX9_leans 76 = .ok (.ladd, 1) := by decide +kernel
theorem dX9_leans_77 : decode cX9_leans 77 = .ok (.lstore 7, 2) := by decide +kernel
theorem dX9_leans_79 : decode cX9_leans 79 = .ok (.aload_n 0, 1) := by decide +kernel
theorem dX9_leans_80 : decode cX9_leans 80 = .ok (.getfield 94, 3) := by decide +kernel
theorem dX9_leans_83 : decode cX9_leans 83 = .ok (.iload_n 1, 1) := by decide +kernel
theorem dX9_leans_84 : decode cX9_leans 84 = .ok (.iload 6, 2) := by decide +kernel
theorem dX9_leans_86 : decode cX9_leans 86 = .ok (.ifCond .eq 8, 3) := by decide +kernel
theorem dX9_leans_89 : decode cX9_leans 89 = .ok (.lload 7, 2) := by decide +kernel
theorem dX9_leans_91 : decode cX9_leans 91 = .ok (.goto 4, 3) := by decide +kernel
theorem dX9_leans_94 : decode cX9_leans 94 = .ok (.lload_n 2, 1) := by decide +kernel
theorem dX9_leans_95 : decode cX9_leans 95 = .ok (.lastore, 1) := by decide +kernel
theorem dX9_leans_96 : decode cX9_leans 96 = .ok (.aload_n 0, 1) := by decide +kernel
theorem dX9_leans_97 : decode cX9_leans 97 = .ok (.getfield 94, 3) := by decide +kernel
theorem dX9_leans_100 : decode cX9_leans 100 = .ok (.bipush 16, 2) := by decide +kernel
theorem dX9_leans_102 : decode cX9_leans 102 = .ok (.iload_n 1, 1) := by decide +kernel
theorem dX9_leans_103 : decode cX9_leans 103 = .ok (.iadd, 1) := by decide +kernel
theorem dX9_leans_104 : decode cX9_leans 104 = .ok (.iload 6, 2) := by decide +kernel
theorem dX9_leans_106 : decode cX9_leans 106 = .ok (.ifCond .eq 7, 3) := by decide +kernel
theorem dX9_leans_109 : decode cX9_leans 109 = .ok (.lload_n 2, 1) := by decide +kernel
theorem dX9_leans_110 : decode cX9_leans 110 = .ok (.goto 5, 3) := by decide +kernel
theorem dX9_leans_113 : decode cX9_leans 113 = .ok (.lload 7, 2) := by decide +kernel
theorem dX9_leans_115 : decode cX9_leans 115 = .ok (.lastore, 1) := by decide +kernel
theorem dX9_leans_116 : decode cX9_leans 116 = .ok (.iinc 1 1, 3) := by decide +kernel
theorem dX9_leans_119 : decode cX9_leans 119 = .ok (.goto (-117), 3) := by decide +kernel
theorem dX9_leans_122 : decode cX9_leans 122 = .ok (.return_, 1) := by decide +kernel
theorem dX9_cosine_0 : decode cX9_cosine 0 = .ok (.iload_n 0, 1) := by decide +kernel
theorem dX9_cosine_1 : decode cX9_cosine 1 = .ok (.sipush 128, 3) := by decide +kernel
theorem dX9_cosine_4 : decode cX9_cosine 4 = .ok (.irem, 1) := by decide +kernel
theorem dX9_cosine_5 : decode cX9_cosine 5 = .ok (.istore_n 1, 1) := by decide +kernel
theorem dX9_cosine_6 : decode cX9_cosine 6 = .ok (.iload_n 1, 1) := by decide +kernel
theorem dX9_cosine_7 : decode cX9_cosine 7 = .ok (.bipush 64, 2) := by decide +kernel
theorem dX9_cosine_9 : decode cX9_cosine 9 = .ok (.if_icmp .le 9, 3) := by decide +kernel
theorem dX9_cosine_12 : decode cX9_cosine 12 = .ok (.sipush 128, 3) := by decide +kernel
theorem dX9_cosine_15 : decode cX9_cosine 15 = .ok (.iload_n 1, 1) := by decide +kernel
theorem dX9_cosine_16 : decode cX9_cosine 16 = .ok (.isub, 1) := by decide +kernel
theorem dX9_cosine_17 : decode cX9_cosine 17 = .ok (.istore_n 1, 1) := by decide +kernel
theorem dX9_cosine_18 : decode cX9_cosine 18 = .ok (.iload_n 1, 1) := by decide +kernel
theorem dX9_cosine_19 : decode cX9_cosine 19 = .ok (.bipush 32, 2) := by decide +kernel
theorem dX9_cosine_21 : decode cX9_cosine 21 = .ok (.if_icmp .le 16, 3) := by decide +kernel
theorem dX9_cosine_24 : decode cX9_cosine 24 = .ok (.getstatic 271, 3) := by decide +kernel
theorem dX9_cosine_27 : decode cX9_cosine 27 = .ok (.bipush 64, 2) := by decide +kernel
theorem dX9_cosine_29 : decode cX9_cosine 29 = .ok (.iload_n 1, 1) := by decide +kernel
theorem dX9_cosine_30 : decode cX9_cosine 30 = .ok (.isub, 1) := by decide +kernel
theorem dX9_cosine_31 : decode cX9_cosine 31 = .ok (.iaload, 1) := by decide +kernel
theorem dX9_cosine_32 : decode cX9_cosine 32 = .ok (.ineg, 1) := by decide +kernel
theorem dX9_cosine_33 : decode cX9_cosine 33 = .ok (.i2l, 1) := by decide +kernel
theorem dX9_cosine_34 : decode cX9_cosine 34 = .ok (.goto 9, 3) := by decide +kernel
theorem dX9_cosine_37 : decode cX9_cosine 37 = .ok (.getstatic 271, 3) := by decide +kernel
theorem dX9_cosine_40 : decode cX9_cosine 40 = .ok (.iload_n 1, 1) := by decide +kernel
theorem dX9_cosine_41 : decode cX9_cosine 41 = .ok (.iaload, 1) := by decide +kernel
theorem dX9_cosine_42 : decode cX9_cosine 42 = .ok (.i2l, 1) := by decide +kernel
theorem dX9_cosine_43 : decode cX9_cosine 43 = .ok (.lreturn, 1) := by decide +kernel
theorem dX9_window_0 : decode cX9_window 0 = .ok (.iload_n 0, 1) := by decide +kernel
theorem dX9_window_1 : decode cX9_window 1 = .ok (.bipush 16, 2) := by decide +kernel
theorem dX9_window_3 : decode cX9_window 3 = .ok (.if_icmp .ge 12, 3) := by decide +kernel
theorem dX9_window_6 : decode cX9_window 6 = .ok (.getstatic 274, 3) := by decide +kernel
theorem dX9_window_9 : decode cX9_window 9 = .ok (.iload_n 0, 1) := by decide +kernel
theorem dX9_window_10 : decode cX9_window 10 = .ok (.iaload, 1) := by decide +kernel
theorem dX9_window_11 : decode cX9_window 11 = .ok (.i2l, 1) := by decide +kernel
theorem dX9_window_12 : decode cX9_window 12 = .ok (.goto 12, 3) := by decide +kernel
theorem dX9_window_15 : decode cX9_window 15 = .ok (.getstatic 274, 3) := by decide +kernel
theorem dX9_window_18 : decode cX9_window 18 = .ok (.bipush 31, 2) := by decide +kernel
theorem dX9_window_20 : decode cX9_window 20 = .ok (.iload_n 0, 1) := by decide +kernel
theorem dX9_window_21 : decode cX9_window 21 = .ok (.isub, 1) := by decide +kernel
theorem dX9_window_22 : decode cX9_window 22 = .ok (.iaload, 1) := by decide +kernel
theorem dX9_window_23 : decode cX9_window 23 = .ok (.i2l, 1) := by decide +kernel
theorem dX9_window_24 : decode cX9_window 24 = .ok (.lreturn, 1) := by decide +kernel
theorem dX9_sums_0 : decode cX9_sums 0 = .ok (.iconst 0, 1) := by decide +kernel
theorem dX9_sums_1 : decode cX9_sums 1 = .ok (.istore_n 2, 1) := by decide +kernel
theorem dX9_sums_2 : decode cX9_sums 2 = .ok (.iload_n 2, 1) := by decide +kernel
theorem dX9_sums_3 : decode cX9_sums 3 = .ok (.bipush 32, 2) := by decide +kernel
theorem dX9_sums_5 : decode cX9_sums 5 = .ok (.if_icmp .ge 117, 3) := by decide +kernel
theorem dX9_sums_8 : decode cX9_sums 8 = .ok (.ldc2_w 277, 3) := by decide +kernel
theorem dX9_sums_11 : decode cX9_sums 11 = .ok (.lstore_n 3, 1) := by decide +kernel
theorem dX9_sums_12 : decode cX9_sums 12 = .ok (.iconst 0, 1) := by decide +kernel
theorem dX9_sums_13 : decode cX9_sums 13 = .ok (.istore 5, 2) := by decide +kernel
theorem dX9_sums_15 : decode cX9_sums 15 = .ok (.iload 5, 2) := by decide +kernel
theorem dX9_sums_17 : decode cX9_sums 17 = .ok (.bipush 16, 2) := by decide +kernel
theorem dX9_sums_19 : decode cX9_sums 19 = .ok (.if_icmp .ge 74, 3) := by decide +kernel
theorem dX9_sums_22 : decode cX9_sums 22 = .ok (.aload_n 0, 1) := by decide +kernel
theorem dX9_sums_23 : decode cX9_sums 23 = .ok (.getfield 88, 3) := by decide +kernel
theorem dX9_sums_26 : decode cX9_sums 26 = .ok (.iload_n 1, 1) := by decide +kernel
theorem dX9_sums_27 : decode cX9_sums 27 = .ok (.baload, 1) := by decide +kernel
theorem dX9_sums_28 : decode cX9_sums 28 = .ok (.ifCond .eq 7, 3) := by decide +kernel
theorem dX9_sums_31 : decode cX9_sums 31 = .ok (.lconst 0, 1) := by decide +kernel
theorem dX9_sums_32 : decode cX9_sums 32 = .ok (.goto 31, 3) := by decide +kernel
theorem dX9_sums_35 : decode cX9_sums 35 = .ok (.aload_n 0, 1) := by decide +kernel
theorem dX9_sums_36 : decode cX9_sums 36 = .ok (.getfield 94, 3) := by decide +kernel
theorem dX9_sums_39 : decode cX9_sums 39 = .ok (.bipush 16, 2) := by decide +kernel
theorem dX9_sums_41 : decode cX9_sums 41 = .ok (.iload_n 1, 1) := by decide +kernel
theorem dX9_sums_42 : decode cX9_sums 42 = .ok (.imul, 1) := by decide +kernel
theorem dX9_sums_43 : decode cX9_sums 43 = .ok (.iload 5, 2) := by decide +kernel
theorem dX9_sums_45 : decode cX9_sums 45 = .ok (.iadd, 1) := by decide +kernel
theorem dX9_sums_46 : decode cX9_sums 46 = .ok (.laload, 1) := by decide +kernel
theorem dX9_sums_47 : decode cX9_sums 47 = .ok (.aload_n 0, 1) := by decide +kernel
theorem dX9_sums_48 : decode cX9_sums 48 = .ok (.getfield 85, 3) := by decide +kernel
theorem dX9_sums_51 : decode cX9_sums 51 = .ok (.bipush 16, 2) := by decide +kernel
theorem dX9_sums_53 : decode cX9_sums 53 = .ok (.iload_n 1, 1) := by decide +kernel
theorem dX9_sums_54 : decode cX9_sums 54 = .ok (.imul, 1) := by decide +kernel
theorem dX9_sums_55 : decode cX9_sums 55 = .ok (.iload 5, 2) := by decide +kernel
theorem dX9_sums_57 : decode cX9_sums 57 = .ok (.iadd, 1) := by decide +kernel
theorem dX9_sums_58 : decode cX9_sums 58 = .ok (.laload, 1) := by decide +kernel
theorem dX9_sums_59 : decode cX9_sums 59 = .ok (.lmul, 1) := by decide +kernel
theorem dX9_sums_60 : decode cX9_sums 60 = .ok (.bipush 8, 2) := by decide +kernel
theorem dX9_sums_62 : decode cX9_sums 62 = .ok (.lshr, 1) := by decide +kernel
theorem dX9_sums_63 : decode cX9_sums 63 = .ok (.lstore 6, 2) := by decide +kernel
theorem dX9_sums_65 : decode cX9_sums 65 = .ok (.lload_n 3, 1) := by decide +kernel
theorem dX9_sums_66 : decode cX9_sums 66 = .ok (.lload 6, 2) := by decide +kernel
theorem dX9_sums_68 : decode cX9_sums 68 = .ok (.iconst 2, 1) := by decide +kernel
theorem dX9_sums_69 : decode cX9_sums 69 = .ok (.iload_n 2, 1) := by decide +kernel
theorem dX9_sums_70 : decode cX9_sums 70 = .ok (.imul, 1) := by decide +kernel
theorem dX9_sums_71 : decode cX9_sums 71 = .ok (.bipush 17, 2) := by decide +kernel
theorem dX9_sums_73 : decode cX9_sums 73 = .ok (.iadd, 1) := by decide +kernel
theorem dX9_sums_74 : decode cX9_sums 74 = .ok (.iconst 2, 1) := by decide +kernel
theorem dX9_sums_75 : decode cX9_sums 75 = .ok (.iload 5, 2) := by decide +kernel
theorem dX9_sums_77 : decode cX9_sums 77 = .ok (.imul, 1) := by decide +kernel
theorem dX9_sums_78 : decode cX9_sums 78 = .ok (.iconst 1, 1) := by decide +kernel
theorem dX9_sums_79 : decode cX9_sums 79 = .ok (.iadd, 1) := by decide +kernel
theorem dX9_sums_80 : decode cX9_sums 80 = .ok (.imul, 1) := by decide +kernel
theorem dX9_sums_81 : decode cX9_sums 81 = .ok (.invokestatic 279, 3) := by decide +kernel
theorem dX9_sums_84 : decode cX9_sums 84 = .ok (.lmul, 1) := by decide +kernel
theorem dX9_sums_85 : decode cX9_sums 85 = .ok (.ladd, 1) := by decide +kernel
theorem dX9_sums_86 : decode cX9_sums 86 = .ok (.lstore_n 3, 1) := by decide +kernel
theorem dX9_sums_87 : decode cX9_sums 87 = .ok (.iinc 5 1, 3) := by decide +kernel
theorem dX9_sums_90 : decode cX9_sums 90 = .ok (.goto (-75), 3) := by decide +kernel
theorem dX9_sums_93 : decode cX9_sums 93 = .ok (.aload_n 0, 1) := by decide +kernel
theorem dX9_sums_94 : decode cX9_sums 94 = .ok (.getfield 100, 3) := by decide +kernel
theorem dX9_sums_97 : decode cX9_sums 97 = .ok (.bipush 32, 2) := by decide +kernel
theorem dX9_sums_99 : decode cX9_sums 99 = .ok (.iload_n 1, 1) := by decide +kernel
theorem dX9_sums_100 : decode cX9_sums 100 = .ok (.imul, 1) := by decide +kernel
theorem dX9_sums_101 : decode cX9_sums 101 = .ok (.iload_n 2, 1) := by decide +kernel
theorem dX9_sums_102 : decode cX9_sums 102 = .ok (.iadd, 1) := by decide +kernel
theorem dX9_sums_103 : decode cX9_sums 103 = .ok (.lload_n 3, 1) := by decide +kernel
theorem dX9_sums_104 : decode cX9_sums 104 = .ok (.bipush 12, 2) := by decide +kernel
theorem dX9_sums_106 : decode cX9_sums 106 = .ok (.lshr, 1) := by decide +kernel
theorem dX9_sums_107 : decode cX9_sums 107 = .ok (.iload_n 2, 1) := by decide +kernel
theorem dX9_sums_108 : decode cX9_sums 108 = .ok (.invokestatic 282, 3) := by decide +kernel
theorem dX9_sums_111 : decode cX9_sums 111 = .ok (.lmul, 1) := by decide +kernel
theorem dX9_sums_112 : decode cX9_sums 112 = .ok (.bipush 12, 2) := by decide +kernel
theorem dX9_sums_114 : decode cX9_sums 114 = .ok (.lshr, 1) := by decide +kernel
theorem dX9_sums_115 : decode cX9_sums 115 = .ok (.lastore, 1) := by decide +kernel
theorem dX9_sums_116 : decode cX9_sums 116 = .ok (.iinc 2 1, 3) := by decide +kernel
theorem dX9_sums_119 : decode cX9_sums 119 = .ok (.goto (-117), 3) := by decide +kernel
theorem dX9_sums_122 : decode cX9_sums 122 = .ok (.return_, 1) := by decide +kernel
theorem dX9_sound_0 : decode cX9_sound 0 = .ok (.aload_n 0, 1) := by decide +kernel
theorem dX9_sound_1 : decode cX9_sound 1 = .ok (.iload_n 1, 1) := by decide +kernel
theorem dX9_sound_2 : decode cX9_sound 2 = .ok (.invokevirtual 207, 3) := by decide +kernel
theorem dX9_sound_5 : decode cX9_sound 5 = .ok (.iconst 0, 1) := by decide +kernel
theorem dX9_sound_6 : decode cX9_sound 6 = .ok (.istore_n 2, 1) := by decide +kernel
theorem dX9_sound_7 : decode cX9_sound 7 = .ok (.iload_n 2, 1) := by decide +kernel
theorem dX9_sound_8 : decode cX9_sound 8 = .ok (.aload_n 0, 1) := by decide +kernel
theorem dX9_sound_9 : decode cX9_sound 9 = .ok (.getfield 210, 3) := by decide +kernel
theorem dX9_sound_12 : decode cX9_sound 12 = .ok (.if_icmp .ge 19, 3) := by decide +kernel
theorem dX9_sound_15 : decode cX9_sound 15 = .ok (.aload_n 0, 1) := by decide +kernel
theorem dX9_sound_16 : decode cX9_sound 16 = .ok (.iload_n 2, 1) := by decide +kernel
theorem dX9_sound_17 : decode cX9_sound 17 = .ok (.invokevirtual 285, 3) := by decide +kernel
theorem dX9_sound_20 : decode cX9_sound 20 = .ok (.ifCond .ne 5, 3) := by decide +kernel
theorem dX9_sound_23 : decode cX9_sound 23 = .ok (.iconst 0, 1) := by decide +kernel
theorem dX9_sound_24 : decode cX9_sound 24 = .ok (.ireturn, 1) := by decide +kernel
theorem dX9_sound_25 : decode cX9_sound 25 = .ok (.iinc 2 1, 3) := by decide +kernel
theorem dX9_sound_28 : decode cX9_sound 28 = .ok (.goto (-21), 3) := by decide +kernel
theorem dX9_sound_31 : decode cX9_sound 31 = .ok (.iconst 0, 1) := by decide +kernel
theorem dX9_sound_32 : decode cX9_sound 32 = .ok (.istore_n 2, 1) := by decide +kernel
theorem dX9_sound_33 : decode cX9_sound 33 = .ok (.iconst 0, 1) := by decide +kernel
theorem dX9_sound_34 : decode cX9_sound 34 = .ok (.istore_n 3, 1) := by decide +kernel
theorem dX9_sound_35 : decode cX9_sound 35 = .ok (.iload_n 3, 1) := by decide +kernel
theorem dX9_sound_36 : decode cX9_sound 36 = .ok (.aload_n 0, 1) := by decide +kernel
theorem dX9_sound_37 : decode cX9_sound 37 = .ok (.getfield 210, 3) := by decide +kernel
theorem dX9_sound_40 : decode cX9_sound 40 = .ok (.if_icmp .ge 28, 3) := by decide +kernel
theorem dX9_sound_43 : decode cX9_sound 43 = .ok (.iload_n 2, 1) := by decide +kernel
theorem dX9_sound_44 : decode cX9_sound 44 = .ok (.ifCond .ne 12, 3) := by decide +kernel
theorem dX9_sound_47 : decode cX9_sound 47 = .ok (.aload_n 0, 1) := by decide +kernel
theorem dX9_sound_48 : decode cX9_sound 48 = .ok (.getfield 88, 3) := by decide +kernel
theorem dX9_sound_51 : decode cX9_sound 51 = .ok (.iload_n 3, 1) := by decide +kernel
theorem dX9_sound_52 : decode cX9_sound 52 = .ok (.baload, 1) := by decide +kernel
theorem dX9_sound_53 : decode cX9_sound 53 = .ok (.ifCond .ne 7, 3) := by decide +kernel
theorem dX9_sound_56 : decode cX9_sound 56 = .ok (.iconst 1, 1) := by decide +kernel
theorem dX9_sound_57 : decode cX9_sound 57 = .ok (.goto 4, 3) := by decide +kernel
theorem dX9_sound_60 : decode cX9_sound 60 = .ok (.iconst 0, 1) := by decide +kernel
theorem dX9_sound_61 : decode cX9_sound 61 = .ok (.istore_n 2, 1) := by decide +kernel
theorem dX9_sound_62 : decode cX9_sound 62 = .ok (.iinc 3 1, 3) := by decide +kernel
theorem dX9_sound_65 : decode cX9_sound 65 = .ok (.goto (-30), 3) := by decide +kernel
theorem dX9_sound_68 : decode cX9_sound 68 = .ok (.iconst 0, 1) := by decide +kernel
theorem dX9_sound_69 : decode cX9_sound 69 = .ok (.istore_n 3, 1) := by decide +kernel
theorem dX9_sound_70 : decode cX9_sound 70 = .ok (.iload_n 3, 1) := by decide +kernel
theorem dX9_sound_71 : decode cX9_sound 71 = .ok (.bipush 32, 2) := by decide +kernel
theorem dX9_sound_73 : decode cX9_sound 73 = .ok (.if_icmp .ge 16, 3) := by decide +kernel
theorem dX9_sound_76 : decode cX9_sound 76 = .ok (.aload_n 0, 1) := by decide +kernel
theorem dX9_sound_77 : decode cX9_sound 77 = .ok (.getfield 94, 3) := by decide +kernel
theorem dX9_sound_80 : decode cX9_sound 80 = .ok (.iload_n 3, 1) := by decide +kernel
theorem dX9_sound_81 : decode cX9_sound 81 = .ok (.lconst 0, 1) := by decide +kernel
theorem dX9_sound_82 : decode cX9_sound 82 = .ok (.lastore, 1) := by decide +kernel
theorem dX9_sound_83 : decode cX9_sound 83 = .ok (.iinc 3 1, 3) := by decide +kernel
theorem dX9_sound_86 : decode cX9_sound 86 = .ok (.goto (-16), 3) := by decide +kernel
theorem dX9_sound_89 : decode cX9_sound 89 = .ok (.iconst 0, 1) := by decide +kernel
theorem dX9_sound_90 : decode cX9_sound 90 = .ok (.istore_n 3, 1) := by decide +kernel
theorem dX9_sound_91 : decode cX9_sound 91 = .ok (.iload_n 3, 1) := by decide +kernel
theorem dX9_sound_92 : decode cX9_sound 92 = .ok (.aload_n 0, 1) := by decide +kernel
theorem dX9_sound_93 : decode cX9_sound 93 = .ok (.getfield 210, 3) := by decide +kernel
theorem dX9_sound_96 : decode cX9_sound 96 = .ok (.if_icmp .ge 61, 3) := by decide +kernel
theorem dX9_sound_99 : decode cX9_sound 99 = .ok (.aload_n 0, 1) := by decide +kernel
theorem dX9_sound_100 : decode cX9_sound 100 = .ok (.getfield 97, 3) := by decide +kernel
theorem dX9_sound_103 : decode cX9_sound 103 = .ok (.iload_n 3, 1) := by decide +kernel
theorem dX9_sound_104 : decode cX9_sound 104 = .ok (.aload_n 0, 1) := by decide +kernel
theorem dX9_sound_105 : decode cX9_sound 105 = .ok (.getfield 243, 3) := by decide +kernel
theorem dX9_sound_108 : decode cX9_sound 108 = .ok (.ifCond .eq 7, 3) := by decide +kernel
theorem dX9_sound_111 : decode cX9_sound 111 = .ok (.iload_n 2, 1) := by decide +kernel
theorem dX9_sound_112 : decode cX9_sound 112 = .ok (.goto 17, 3) := by decide +kernel
theorem dX9_sound_115 : decode cX9_sound 115 = .ok (.aload_n 0, 1) := by decide +kernel
theorem dX9_sound_116 : decode cX9_sound 116 = .ok (.getfield 88, 3) := by decide +kernel
theorem dX9_sound_119 : decode cX9_sound 119 = .ok (.iload_n 3, 1) := by decide +kernel
theorem dX9_sound_120 : decode cX9_sound 120 = .ok (.baload, 1) := by decide +kernel
theorem dX9_sound_121 : decode cX9_sound 121 = .ok (.ifCond .ne 7, 3) := by decide +kernel
theorem dX9_sound_124 : decode cX9_sound 124 = .ok (.iconst 1, 1) := by decide +kernel
theorem dX9_sound_125 : decode cX9_sound 125 = .ok (.goto 4, 3) := by decide +kernel
theorem dX9_sound_128 : decode cX9_sound 128 = .ok (.iconst 0, 1) := by decide +kernel
theorem dX9_sound_129 : decode cX9_sound 129 = .ok (.bastore, 1) := by decide +kernel
theorem dX9_sound_130 : decode cX9_sound 130 = .ok (.aload_n 0, 1) := by decide +kernel
theorem dX9_sound_131 : decode cX9_sound 131 = .ok (.getfield 97, 3) := by decide +kernel
theorem dX9_sound_134 : decode cX9_sound 134 = .ok (.iload_n 3, 1) := by decide +kernel
theorem dX9_sound_135 : decode cX9_sound 135 = .ok (.baload, 1) := by decide +kernel
theorem dX9_sound_136 : decode cX9_sound 136 = .ok (.ifCond .eq 15, 3) := by decide +kernel
theorem dX9_sound_139 : decode cX9_sound 139 = .ok (.aload_n 0, 1) := by decide +kernel
theorem dX9_sound_140 : decode cX9_sound 140 = .ok (.getfield 174, 3) := by decide +kernel
theorem dX9_sound_143 : decode cX9_sound 143 = .ok (.ifCond .ne 8, 3) := by decide +kernel
theorem dX9_sound_146 : decode cX9_sound 146 = .ok (.aload_n 0, 1) := by decide +kernel
theorem dX9_sound_147 : decode cX9_sound 147 = .ok (.iload_n 3, 1) := by decide +kernel
theorem dX9_sound_148 : decode cX9_sound 148 = .ok (.invokevirtual 288, 3) := by decide +kernel
theorem dX9_sound_151 : decode cX9_sound 151 = .ok (.iinc 3 1, 3) := by decide +kernel
theorem dX9_sound_154 : decode cX9_sound 154 = .ok (.goto (-63), 3) := by decide +kernel
theorem dX9_sound_157 : decode cX9_sound 157 = .ok (.aload_n 0, 1) := by decide +kernel
theorem dX9_sound_158 : decode cX9_sound 158 = .ok (.getfield 243, 3) := by decide +kernel
theorem dX9_sound_161 : decode cX9_sound 161 = .ok (.ifCond .eq 11, 3) := by decide +kernel
theorem dX9_sound_164 : decode cX9_sound 164 = .ok (.iload_n 2, 1) := by decide +kernel
theorem dX9_sound_165 : decode cX9_sound 165 = .ok (.ifCond .eq 7, 3) := by decide +kernel
theorem dX9_sound_168 : decode cX9_sound 168 = .ok (.aload_n 0, 1) := by decide +kernel
theorem dX9_sound_169 : decode cX9_sound 169 = .ok (.invokevirtual 291, 3) := by decide +kernel
theorem dX9_sound_172 : decode cX9_sound 172 = .ok (.iconst 0, 1) := by decide +kernel
theorem dX9_sound_173 : decode cX9_sound 173 = .ok (.istore_n 3, 1) := by decide +kernel
theorem dX9_sound_174 : decode cX9_sound 174 = .ok (.iload_n 3, 1) := by decide +kernel
theorem dX9_sound_175 : decode cX9_sound 175 = .ok (.aload_n 0, 1) := by decide +kernel
theorem dX9_sound_176 : decode cX9_sound 176 = .ok (.getfield 210, 3) := by decide +kernel
theorem dX9_sound_179 : decode cX9_sound 179 = .ok (.if_icmp .ge 14, 3) := by decide +kernel
theorem dX9_sound_182 : decode cX9_sound 182 = .ok (.aload_n 0, 1) := by decide +kernel
theorem dX9_sound_183 : decode cX9_sound 183 = .ok (.iload_n 3, 1) := by decide +kernel
theorem dX9_sound_184 : decode cX9_sound 184 = .ok (.invokevirtual 294, 3) := by decide +kernel
theorem dX9_sound_187 : decode cX9_sound 187 = .ok (.iinc 3 1, 3) := by decide +kernel
theorem dX9_sound_190 : decode cX9_sound 190 = .ok (.goto (-16), 3) := by decide +kernel
theorem dX9_sound_193 : decode cX9_sound 193 = .ok (.iconst 1, 1) := by decide +kernel
theorem dX9_sound_194 : decode cX9_sound 194 = .ok (.ireturn, 1) := by decide +kernel
theorem dX9_puts_0 : decode cX9_puts 0 = .ok (.aload_n 0, 1) := by decide +kernel
theorem dX9_puts_1 : decode cX9_puts 1 = .ok (.getfield 35, 3) := by decide +kernel
theorem dX9_puts_4 : decode cX9_puts 4 = .ok (.iconst 3, 1) := by decide +kernel
theorem dX9_puts_5 : decode cX9_puts 5 = .ok (.iaload, 1) := by decide +kernel
theorem dX9_puts_6 : decode cX9_puts 6 = .ok (.ifCond .le 121, 3) := by decide +kernel
theorem dX9_puts_9 : decode cX9_puts 9 = .ok (.iconst 0, 1) := by decide +kernel
theorem dX9_puts_10 : decode cX9_puts 10 = .ok (.istore_n 1, 1) := by decide +kernel
theorem dX9_puts_11 : decode cX9_puts 11 = .ok (.iload_n 1, 1) := by decide +kernel
theorem dX9_puts_12 : decode cX9_puts 12 = .ok (.aload_n 0, 1) := by decide +kernel
theorem dX9_puts_13 : decode cX9_puts 13 = .ok (.getfield 210, 3) := by decide +kernel
theorem dX9_puts_16 : decode cX9_puts 16 = .ok (.if_icmp .ge 100, 3) := by decide +kernel
theorem dX9_puts_19 : decode cX9_puts 19 = .ok (.iconst 0, 1) := by decide +kernel
theorem dX9_puts_20 : decode cX9_puts 20 = .ok (.istore_n 2, 1) := by decide +kernel
theorem dX9_puts_21 : decode cX9_puts 21 = .ok (.iload_n 2, 1) := by decide +kernel
theorem dX9_puts_22 : decode cX9_puts 22 = .ok (.bipush 16, 2) := by decide +kernel
theorem dX9_puts_24 : decode cX9_puts 24 = .ok (.if_icmp .ge 86, 3) := by decide +kernel
theorem dX9_puts_27 : decode cX9_puts 27 = .ok (.aload_n 0, 1) := by decide +kernel
theorem dX9_puts_28 : decode cX9_puts 28 = .ok (.getfield 103, 3) := by decide +kernel
theorem dX9_puts_31 : decode cX9_puts 31 = .ok (.bipush 32, 2) := by decide +kernel
theorem dX9_puts_33 : decode cX9_puts 33 = .ok (.iload_n 1, 1) := by decide +kernel
theorem dX9_puts_34 : decode cX9_puts 34 = .ok (.imul, 1) := by decide +kernel
theorem dX9_puts_35 : decode cX9_puts 35 = .ok (.bipush 16, 2) := by decide +kernel
theorem dX9_puts_37 : decode cX9_puts 37 = .ok (.iadd, 1) := by decide +kernel
theorem dX9_puts_38 : decode cX9_puts 38 = .ok (.iload_n 2, 1) := by decide +kernel
theorem dX9_puts_39 : decode cX9_puts 39 = .ok (.iadd, 1) := by decide +kernel
theorem dX9_puts_40 : decode cX9_puts 40 = .ok (.laload, 1) := by decide +kernel
theorem dX9_puts_41 : decode cX9_puts 41 = .ok (.aload_n 0, 1) := by decide +kernel
theorem dX9_puts_42 : decode cX9_puts 42 = .ok (.getfield 100, 3) := by decide +kernel
theorem dX9_puts_45 : decode cX9_puts 45 = .ok (.bipush 32, 2) := by decide +kernel
theorem dX9_puts_47 : decode cX9_puts 47 = .ok (.iload_n 1, 1) := by decide +kernel
theorem dX9_puts_48 : decode cX9_puts 48 = .ok (.imul, 1) := by decide +kernel
theorem dX9_puts_49 : decode cX9_puts 49 = .ok (.iload_n 2, 1) := by decide +kernel
theorem dX9_puts_50 : decode cX9_puts 50 = .ok (.iadd, 1) := by decide +kernel
theorem dX9_puts_51 : decode cX9_puts 51 = .ok (.laload, 1) := by decide +kernel
theorem dX9_puts_52 : decode cX9_puts 52 = .ok (.ladd, 1) := by decide +kernel
theorem dX9_puts_53 : decode cX9_puts 53 = .ok (.bipush 8, 2) := by decide +kernel
theorem dX9_puts_55 : decode cX9_puts 55 = .ok (.lshr, 1) := by decide +kernel
theorem dX9_puts_56 : decode cX9_puts 56 = .ok (.lstore_n 3, 1) := by decide +kernel
theorem dX9_puts_57 : decode cX9_puts 57 = .ok (.aload_n 0, 1) := by decide +kernel
theorem dX9_puts_58 : decode cX9_puts 58 = .ok (.getfield 106, 3) := by decide +kernel
theorem dX9_puts_61 : decode cX9_puts 61 = .ok (.sipush 960, 3) := by decide +kernel
theorem dX9_puts_64 : decode cX9_puts 64 = .ok (.iload_n 1, 1) := by decide +kernel
theorem dX9_puts_65 : decode cX9_puts 65 = .ok (.imul, 1) := by decide +kernel
theorem dX9_puts_66 : decode cX9_puts 66 = .ok (.aload_n 0, 1) := by decide +kernel
theorem dX9_puts_67 : decode cX9_puts 67 = .ok (.getfield 297, 3) := by decide +kernel
theorem dX9_puts_70 : decode cX9_puts 70 = .ok (.iadd, 1) := by decide +kernel
theorem dX9_puts_71 : decode cX9_puts 71 = .ok (.iload_n 2, 1) := by decide +kernel
theorem dX9_puts_72 : decode cX9_puts 72 = .ok (.iadd, 1) := by decide +kernel
theorem dX9_puts_73 : decode cX9_puts 73 = .ok (.lload_n 3, 1) := by decide +kernel
theorem dX9_puts_74 : decode cX9_puts 74 = .ok (.ldc2_w 300, 3) := by decide +kernel
theorem dX9_puts_77 : decode cX9_puts 77 = .ok (.lcmp, 1) := by decide +kernel
theorem dX9_puts_78 : decode cX9_puts 78 = .ok (.ifCond .ge 9, 3) := by decide +kernel
theorem dX9_puts_81 : decode cX9_puts 81 = .ok (.ldc2_w 300, 3) := by decide +kernel
theorem dX9_puts_84 : decode cX9_puts 84 = .ok (.goto 18, 3) := by decide +kernel
theorem dX9_puts_87 : decode cX9_puts 87 = .ok (.lload_n 3, 1) := by decide +kernel
theorem dX9_puts_88 : decode cX9_puts 88 = .ok (.ldc2_w 302, 3) := by decide +kernel
theorem dX9_puts_91 : decode cX9_puts 91 = .ok (.lcmp, 1) := by decide +kernel
theorem dX9_puts_92 : decode cX9_puts 92 = .ok (.ifCond .le 9, 3) := by decide +kernel
theorem dX9_puts_95 : decode cX9_puts 95 = .ok (.ldc2_w 302, 3) := by decide +kernel
theorem dX9_puts_98 : decode cX9_puts 98 = .ok (.goto 4, 3) := by decide +kernel
theorem dX9_puts_101 : decode cX9_puts 101 = .ok (.lload_n 3, 1) := by decide +kernel
theorem dX9_puts_102 : decode cX9_puts 102 = .ok (.l2i, 1) := by decide +kernel
theorem dX9_puts_103 : decode cX9_puts 103 = .ok (.iastore, 1) := by decide +kernel
theorem dX9_puts_104 : decode cX9_puts 104 = .ok (.iinc 2 1, 3) := by decide +kernel
theorem dX9_puts_107 : decode cX9_puts 107 = .ok (.goto (-86), 3) := by decide +kernel
theorem dX9_puts_110 : decode cX9_puts 110 = .ok (.iinc 1 1, 3) := by decide +kernel
theorem dX9_puts_113 : decode cX9_puts 113 = .ok (.goto (-102), 3) := by decide +kernel
theorem dX9_puts_116 : decode cX9_puts 116 = .ok (.aload_n 0, 1) := by decide +kernel
theorem dX9_puts_117 : decode cX9_puts 117 = .ok (.dup, 1) := by decide +kernel
theorem dX9_puts_118 : decode cX9_puts 118 = .ok (.getfield 297, 3) := by decide +kernel
theorem dX9_puts_121 : decode cX9_puts 121 = .ok (.bipush 16, 2) := by decide +kernel
theorem dX9_puts_123 : decode cX9_puts 123 = .ok (.iadd, 1) := by decide +kernel
theorem dX9_puts_124 : decode cX9_puts 124 = .ok (.putfield 297, 3) := by decide +kernel
theorem dX9_puts_127 : decode cX9_puts 127 = .ok (.iconst 0, 1) := by decide +kernel
theorem dX9_puts_128 : decode cX9_puts 128 = .ok (.istore_n 1, 1) := by decide +kernel
theorem dX9_puts_129 : decode cX9_puts 129 = .ok (.iload_n 1, 1) := by decide +kernel
theorem dX9_puts_130 : decode cX9_puts 130 = .ok (.bipush 64, 2) := by decide +kernel
theorem dX9_puts_132 : decode cX9_puts 132 = .ok (.if_icmp .ge 21, 3) := by decide +kernel
theorem dX9_puts_135 : decode cX9_puts 135 = .ok (.aload_n 0, 1) := by decide +kernel
theorem dX9_puts_136 : decode cX9_puts 136 = .ok (.getfield 103, 3) := by decide +kernel
theorem dX9_puts_139 : decode cX9_puts 139 = .ok (.iload_n 1, 1) := by decide +kernel
theorem dX9_puts_140 : decode cX9_puts 140 = .ok (.aload_n 0, 1) := by decide +kernel
theorem dX9_puts_141 : decode cX9_puts 141 = .ok (.getfield 100, 3) := by decide +kernel
theorem dX9_puts_144 : decode cX9_puts 144 = .ok (.iload_n 1, 1) := by decide +kernel
theorem dX9_puts_145 : decode cX9_puts 145 = .ok (.laload, 1) := by decide +kernel
theorem dX9_puts_146 : decode cX9_puts 146 = .ok (.lastore, 1) := by decide +kernel
theorem dX9_puts_147 : decode cX9_puts 147 = .ok (.iinc 1 1, 3) := by decide +kernel
theorem dX9_puts_150 : decode cX9_puts 150 = .ok (.goto (-21), 3) := by decide +kernel
theorem dX9_puts_153 : decode cX9_puts 153 = .ok (.aload_n 0, 1) := by decide +kernel
theorem dX9_puts_154 : decode cX9_puts 154 = .ok (.getfield 35, 3) := by decide +kernel
theorem dX9_puts_157 : decode cX9_puts 157 = .ok (.iconst 3, 1) := by decide +kernel
theorem dX9_puts_158 : decode cX9_puts 158 = .ok (.dup2, 1) := by decide +kernel
theorem dX9_puts_159 : decode cX9_puts 159 = .ok (.iaload, 1) := by decide +kernel
theorem dX9_puts_160 : decode cX9_puts 160 = .ok (.iconst 1, 1) := by decide +kernel
theorem dX9_puts_161 : decode cX9_puts 161 = .ok (.iadd, 1) := by decide +kernel
theorem dX9_puts_162 : decode cX9_puts 162 = .ok (.iastore, 1) := by decide +kernel
theorem dX9_puts_163 : decode cX9_puts 163 = .ok (.return_, 1) := by decide +kernel
theorem dX9_read_0 : decode cX9_read 0 = .ok (.aload_n 0, 1) := by decide +kernel
theorem dX9_read_1 : decode cX9_read 1 = .ok (.iconst 0, 1) := by decide +kernel
theorem dX9_read_2 : decode cX9_read 2 = .ok (.putfield 1, 3) := by decide +kernel
theorem dX9_read_5 : decode cX9_read 5 = .ok (.aload_n 0, 1) := by decide +kernel
theorem dX9_read_6 : decode cX9_read 6 = .ok (.getfield 116, 3) := by decide +kernel
theorem dX9_read_9 : decode cX9_read 9 = .ok (.istore_n 1, 1) := by decide +kernel
theorem dX9_read_10 : decode cX9_read 10 = .ok (.aload_n 0, 1) := by decide +kernel
theorem dX9_read_11 : decode cX9_read 11 = .ok (.iconst 0, 1) := by decide +kernel
theorem dX9_read_12 : decode cX9_read 12 = .ok (.putfield 116, 3) := by decide +kernel
theorem dX9_read_15 : decode cX9_read 15 = .ok (.iconst 0, 1) := by decide +kernel
theorem dX9_read_16 : decode cX9_read 16 = .ok (.istore_n 2, 1) := by decide +kernel
theorem dX9_read_17 : decode cX9_read 17 = .ok (.iload_n 2, 1) := by decide +kernel
theorem dX9_read_18 : decode cX9_read 18 = .ok (.bipush 8, 2) := by decide +kernel
theorem dX9_read_20 : decode cX9_read 20 = .ok (.if_icmp .ge 16, 3) := by decide +kernel
theorem dX9_read_23 : decode cX9_read 23 = .ok (.aload_n 0, 1) := by decide +kernel
theorem dX9_read_24 : decode cX9_read 24 = .ok (.getfield 35, 3) := by decide +kernel
theorem dX9_read_27 : decode cX9_read 27 = .ok (.iload_n 2, 1) := by decide +kernel
theorem dX9_read_28 : decode cX9_read 28 = .ok (.iconst 0, 1) := by decide +kernel
theorem dX9_read_29 : decode cX9_read 29 = .ok (.iastore, 1) := by decide +kernel
theorem dX9_read_30 : decode cX9_read 30 = .ok (.iinc 2 1, 3) := by decide +kernel
theorem dX9_read_33 : decode cX9_read 33 = .ok (.goto (-16), 3) := by decide +kernel
theorem dX9_read_36 : decode cX9_read 36 = .ok (.aload_n 0, 1) := by decide +kernel
theorem dX9_read_37 : decode cX9_read 37 = .ok (.iconst 0, 1) := by decide +kernel
theorem dX9_read_38 : decode cX9_read 38 = .ok (.putfield 138, 3) := by decide +kernel
theorem dX9_read_41 : decode cX9_read 41 = .ok (.aload_n 0, 1) := by decide +kernel
theorem dX9_read_42 : decode cX9_read 42 = .ok (.iconst 0, 1) := by decide +kernel
theorem dX9_read_43 : decode cX9_read 43 = .ok (.putfield 297, 3) := by decide +kernel
theorem dX9_read_46 : decode cX9_read 46 = .ok (.aload_n 0, 1) := by decide +kernel
theorem dX9_read_47 : decode cX9_read 47 = .ok (.iconst 0, 1) := by decide +kernel
theorem dX9_read_48 : decode cX9_read 48 = .ok (.putfield 181, 3) := by decide +kernel
theorem dX9_read_51 : decode cX9_read 51 = .ok (.aload_n 0, 1) := by decide +kernel
theorem dX9_read_52 : decode cX9_read 52 = .ok (.iconst 0, 1) := by decide +kernel
theorem dX9_read_53 : decode cX9_read 53 = .ok (.putfield 210, 3) := by decide +kernel
theorem dX9_read_56 : decode cX9_read 56 = .ok (.aload_n 0, 1) := by decide +kernel
theorem dX9_read_57 : decode cX9_read 57 = .ok (.iconst 0, 1) := by decide +kernel
theorem dX9_read_58 : decode cX9_read 58 = .ok (.putfield 148, 3) := by decide +kernel
theorem dX9_read_61 : decode cX9_read 61 = .ok (.aload_n 0, 1) := by decide +kernel
theorem dX9_read_62 : decode cX9_read 62 = .ok (.invokevirtual 141, 3) := by decide +kernel
theorem dX9_read_65 : decode cX9_read 65 = .ok (.aload_n 0, 1) := by decide +kernel
theorem dX9_read_66 : decode cX9_read 66 = .ok (.iload_n 1, 1) := by decide +kernel
theorem dX9_read_67 : decode cX9_read 67 = .ok (.invokevirtual 304, 3) := by decide +kernel
theorem dX9_read_70 : decode cX9_read 70 = .ok (.aload_n 0, 1) := by decide +kernel
theorem dX9_read_71 : decode cX9_read 71 = .ok (.getfield 35, 3) := by decide +kernel
theorem dX9_read_74 : decode cX9_read 74 = .ok (.iconst 2, 1) := by decide +kernel
theorem dX9_read_75 : decode cX9_read 75 = .ok (.aload_n 0, 1) := by decide +kernel
theorem dX9_read_76 : decode cX9_read 76 = .ok (.getfield 138, 3) := by decide +kernel
theorem dX9_read_79 : decode cX9_read 79 = .ok (.iastore, 1) := by decide +kernel
theorem dX9_read_80 : decode cX9_read 80 = .ok (.aload_n 0, 1) := by decide +kernel
theorem dX9_read_81 : decode cX9_read 81 = .ok (.getfield 138, 3) := by decide +kernel
theorem dX9_read_84 : decode cX9_read 84 = .ok (.ifCond .ne 11, 3) := by decide +kernel
theorem dX9_read_87 : decode cX9_read 87 = .ok (.aload_n 0, 1) := by decide +kernel
theorem dX9_read_88 : decode cX9_read 88 = .ok (.iconst 1, 1) := by decide +kernel
theorem dX9_read_89 : decode cX9_read 89 = .ok (.invokevirtual 184, 3) := by decide +kernel
theorem dX9_read_92 : decode cX9_read 92 = .ok (.goto 7, 3) := by decide +kernel
theorem dX9_read_95 : decode cX9_read 95 = .ok (.aload_n 0, 1) := by decide +kernel
theorem dX9_read_96 : decode cX9_read 96 = .ok (.invokevirtual 307, 3) := by decide +kernel
theorem dX9_read_99 : decode cX9_read 99 = .ok (.aload_n 0, 1) := by decide +kernel
theorem dX9_read_100 : decode cX9_read 100 = .ok (.getfield 181, 3) := by decide +kernel
theorem dX9_read_103 : decode cX9_read 103 = .ok (.ifCond .le 14, 3) := by decide +kernel
theorem dX9_read_106 : decode cX9_read 106 = .ok (.aload_n 0, 1) := by decide +kernel
theorem dX9_read_107 : decode cX9_read 107 = .ok (.iconst 0, 1) := by decide +kernel
theorem dX9_read_108 : decode cX9_read 108 = .ok (.putfield 210, 3) := by decide +kernel
theorem dX9_read_111 : decode cX9_read 111 = .ok (.aload_n 0, 1) := by decide +kernel
theorem dX9_read_112 : decode cX9_read 112 = .ok (.getfield 181, 3) := by decide +kernel
theorem dX9_read_115 : decode cX9_read 115 = .ok (.ineg, 1) := by decide +kernel
theorem dX9_read_116 : decode cX9_read 116 = .ok (.ireturn, 1) := by decide +kernel
theorem dX9_read_117 : decode cX9_read 117 = .ok (.aload_n 0, 1) := by decide +kernel
theorem dX9_read_118 : decode cX9_read 118 = .ok (.getfield 35, 3) := by decide +kernel
theorem dX9_read_121 : decode cX9_read 121 = .ok (.iconst 5, 1) := by decide +kernel
theorem dX9_read_122 : decode cX9_read 122 = .ok (.aload_n 0, 1) := by decide +kernel
theorem dX9_read_123 : decode cX9_read 123 = .ok (.getfield 210, 3) := by decide +kernel
theorem dX9_read_126 : decode cX9_read 126 = .ok (.iastore, 1) := by decide +kernel
theorem dX9_read_127 : decode cX9_read 127 = .ok (.iconst 1, 1) := by decide +kernel
theorem dX9_read_128 : decode cX9_read 128 = .ok (.istore_n 2, 1) := by decide +kernel
theorem dX9_read_129 : decode cX9_read 129 = .ok (.iload_n 2, 1) := by decide +kernel
theorem dX9_read_130 : decode cX9_read 130 = .ok (.aload_n 0, 1) := by decide +kernel
theorem dX9_read_131 : decode cX9_read 131 = .ok (.getfield 138, 3) := by decide +kernel
theorem dX9_read_134 : decode cX9_read 134 = .ok (.if_icmp .ge 34, 3) := by decide +kernel
theorem dX9_read_137 : decode cX9_read 137 = .ok (.aload_n 0, 1) := by decide +kernel
theorem dX9_read_138 : decode cX9_read 138 = .ok (.iload_n 2, 1) := by decide +kernel
theorem dX9_read_139 : decode cX9_read 139 = .ok (.invokevirtual 310, 3) := by decide +kernel
theorem dX9_read_142 : decode cX9_read 142 = .ok (.ifCond .eq 10, 3) := by decide +kernel
theorem dX9_read_145 : decode cX9_read 145 = .ok (.aload_n 0, 1) := by decide +kernel
theorem dX9_read_146 : decode cX9_read 146 = .ok (.invokevirtual 313, 3) := by decide +kernel
theorem dX9_read_149 : decode cX9_read 149 = .ok (.goto 13, 3) := by decide +kernel
theorem dX9_read_152 : decode cX9_read 152 = .ok (.aload_n 0, 1) := by decide +kernel
theorem dX9_read_153 : decode cX9_read 153 = .ok (.getfield 35, 3) := by decide +kernel
theorem dX9_read_156 : decode cX9_read 156 = .ok (.iconst 4, 1) := by decide +kernel
theorem dX9_read_157 : decode cX9_read 157 = .ok (.dup2, 1) := by decide +kernel
theorem dX9_read_158 : decode cX9_read 158 = .ok (.iaload, 1) := by decide +kernel
theorem dX9_read_159 : decode cX9_read 159 = .ok (.iconst 1, 1) := by decide +kernel
theorem dX9_read_160 : decode cX9_read 160 = .ok (.iadd, 1) := by decide +kernel
theorem dX9_read_161 : decode cX9_read 161 = .ok (.iastore, 1) := by decide +kernel
theorem dX9_read_162 : decode cX9_read 162 = .ok (.iinc 2 1, 3) := by decide +kernel
theorem dX9_read_165 : decode cX9_read 165 = .ok (.goto (-36), 3) := by decide +kernel
theorem dX9_read_168 : decode cX9_read 168 = .ok (.aload_n 0, 1) := by decide +kernel
theorem dX9_read_169 : decode cX9_read 169 = .ok (.getfield 148, 3) := by decide +kernel
theorem dX9_read_172 : decode cX9_read 172 = .ok (.ifCond .eq 34, 3) := by decide +kernel
theorem dX9_read_175 : decode cX9_read 175 = .ok (.aload_n 0, 1) := by decide +kernel
theorem dX9_read_176 : decode cX9_read 176 = .ok (.getfield 151, 3) := by decide +kernel
theorem dX9_read_179 : decode cX9_read 179 = .ok (.lconst 0, 1) := by decide +kernel
theorem dX9_read_180 : decode cX9_read 180 = .ok (.lcmp, 1) := by decide +kernel
theorem dX9_read_181 : decode cX9_read 181 = .ok (.ifCond .lt 25, 3) := by decide +kernel
theorem dX9_read_184 : decode cX9_read 184 = .ok (.aload_n 0, 1) := by decide +kernel
theorem dX9_read_185 : decode cX9_read 185 = .ok (.getfield 151, 3) := by decide +kernel
theorem dX9_read_188 : decode cX9_read 188 = .ok (.aload_n 0, 1) := by decide +kernel
theorem dX9_read_189 : decode cX9_read 189 = .ok (.getfield 297, 3) := by decide +kernel
theorem dX9_read_192 : decode cX9_read 192 = .ok (.i2l, 1) := by decide +kernel
theorem dX9_read_193 : decode cX9_read 193 = .ok (.lcmp, 1) := by decide +kernel
theorem dX9_read_194 : decode cX9_read 194 = .ok (.ifCond .ge 12, 3) := by decide +kernel
theorem dX9_read_197 : decode cX9_read 197 = .ok (.aload_n 0, 1) := by decide +kernel
theorem dX9_read_198 : decode cX9_read 198 = .ok (.aload_n 0, 1) := by decide +kernel
theorem dX9_read_199 : decode cX9_read 199 = .ok (.getfield 151, 3) := by decide +kernel
theorem dX9_read_202 : decode cX9_read 202 = .ok (.l2i, 1) := by decide +kernel
theorem dX9_read_203 : decode cX9_read 203 = .ok (.putfield 297, 3) := by decide +kernel
theorem dX9_read_206 : decode cX9_read 206 = .ok (.aload_n 0, 1) := by decide +kernel
theorem dX9_read_207 : decode cX9_read 207 = .ok (.getfield 297, 3) := by decide +kernel
theorem dX9_read_210 : decode cX9_read 210 = .ok (.ireturn, 1) := by decide +kernel
theorem dX9_sample_0 : decode cX9_sample 0 = .ok (.aload_n 0, 1) := by decide +kernel
theorem dX9_sample_1 : decode cX9_sample 1 = .ok (.iconst 0, 1) := by decide +kernel
theorem dX9_sample_2 : decode cX9_sample 2 = .ok (.putfield 1, 3) := by decide +kernel
theorem dX9_sample_5 : decode cX9_sample 5 = .ok (.iload_n 1, 1) := by decide +kernel
theorem dX9_sample_6 : decode cX9_sample 6 = .ok (.ifCond .lt 23, 3) := by decide +kernel
theorem dX9_sample_9 : decode cX9_sample 9 = .ok (.iload_n 1, 1) := by decide +kernel
theorem dX9_sample_10 : decode cX9_sample 10 = .ok (.aload_n 0, 1) := by decide +kernel
theorem dX9_sample_11 : decode cX9_sample 11 = .ok (.getfield 210, 3) := by decide +kernel
theorem dX9_sample_14 : decode cX9_sample 14 = .ok (.if_icmp .ge 15, 3) := by decide +kernel
theorem dX9_sample_17 : decode cX9_sample 17 = .ok (.iload_n 2, 1) := by decide +kernel
theorem dX9_sample_18 : decode cX9_sample 18 = .ok (.ifCond .lt 11, 3) := by decide +kernel
theorem dX9_sample_21 : decode cX9_sample 21 = .ok (.iload_n 2, 1) := by decide +kernel
theorem dX9_sample_22 : decode cX9_sample 22 = .ok (.aload_n 0, 1) := by decide +kernel
theorem dX9_sample_23 : decode cX9_sample 23 = .ok (.getfield 297, 3) := by decide +kernel
theorem dX9_sample_26 : decode cX9_sample 26 = .ok (.if_icmp .lt 7, 3) := by decide +kernel
theorem dX9_sample_29 : decode cX9_sample 29 = .ok (.iconst 0, 1) := by decide +kernel
theorem dX9_sample_30 : decode cX9_sample 30 = .ok (.goto 15, 3) := by decide +kernel
theorem dX9_sample_33 : decode cX9_sample 33 = .ok (.aload_n 0, 1) := by decide +kernel
theorem dX9_sample_34 : decode cX9_sample 34 = .ok (.getfield 106, 3) := by decide +kernel
theorem dX9_sample_37 : decode cX9_sample 37 = .ok (.sipush 960, 3) := by decide +kernel
theorem dX9_sample_40 : decode cX9_sample 40 = .ok (.iload_n 1, 1) := by decide +kernel
theorem dX9_sample_41 : decode cX9_sample 41 = .ok (.imul, 1) := by decide +kernel
theorem dX9_sample_42 : decode cX9_sample 42 = .ok (.iload_n 2, 1) := by decide +kernel
theorem dX9_sample_43 : decode cX9_sample 43 = .ok (.iadd, 1) := by decide +kernel
theorem dX9_sample_44 : decode cX9_sample 44 = .ok (.iaload, 1) := by decide +kernel
theorem dX9_sample_45 : decode cX9_sample 45 = .ok (.ireturn, 1) := by decide +kernel
theorem dX9_look_0 : decode cX9_look 0 = .ok (.aload_n 0, 1) := by decide +kernel
theorem dX9_look_1 : decode cX9_look 1 = .ok (.iconst 0, 1) := by decide +kernel
theorem dX9_look_2 : decode cX9_look 2 = .ok (.putfield 1, 3) := by decide +kernel
theorem dX9_look_5 : decode cX9_look 5 = .ok (.iload_n 1, 1) := by decide +kernel
theorem dX9_look_6 : decode cX9_look 6 = .ok (.ifCond .lt 9, 3) := by decide +kernel
theorem dX9_look_9 : decode cX9_look 9 = .ok (.iload_n 1, 1) := by decide +kernel
theorem dX9_look_10 : decode cX9_look 10 = .ok (.bipush 7, 2) := by decide +kernel
theorem dX9_look_12 : decode cX9_look 12 = .ok (.if_icmp .le 7, 3) := by decide +kernel
theorem dX9_look_15 : decode cX9_look 15 = .ok (.iconst (-1), 1) := by decide +kernel
theorem dX9_look_16 : decode cX9_look 16 = .ok (.goto 9, 3) := by decide +kernel
theorem dX9_look_19 : decode cX9_look 19 = .ok (.aload_n 0, 1) := by decide +kernel
theorem dX9_look_20 : decode cX9_look 20 = .ok (.getfield 35, 3) := by decide +kernel
theorem dX9_look_23 : decode cX9_look 23 = .ok (.iload_n 1, 1) := by decide +kernel
theorem dX9_look_24 : decode cX9_look 24 = .ok (.iaload, 1) := by decide +kernel
theorem dX9_look_25 : decode cX9_look 25 = .ok (.ireturn, 1) := by decide +kernel
theorem dX9_sum_0 : decode cX9_sum 0 = .ok (.aload_n 0, 1) := by decide +kernel
theorem dX9_sum_1 : decode cX9_sum 1 = .ok (.iconst 0, 1) := by decide +kernel
theorem dX9_sum_2 : decode cX9_sum 2 = .ok (.putfield 1, 3) := by decide +kernel
theorem dX9_sum_5 : decode cX9_sum 5 = .ok (.iconst 0, 1) := by decide +kernel
theorem dX9_sum_6 : decode cX9_sum 6 = .ok (.istore_n 2, 1) := by decide +kernel
theorem dX9_sum_7 : decode cX9_sum 7 = .ok (.iconst 0, 1) := by decide +kernel
theorem dX9_sum_8 : decode cX9_sum 8 = .ok (.istore_n 3, 1) := by decide +kernel
theorem dX9_sum_9 : decode cX9_sum 9 = .ok (.iload_n 3, 1) := by decide +kernel
theorem dX9_sum_10 : decode cX9_sum 10 = .ok (.aload_n 0, 1) := by decide +kernel
theorem dX9_sum_11 : decode cX9_sum 11 = .ok (.getfield 297, 3) := by decide +kernel
theorem dX9_sum_14 : decode cX9_sum 14 = .ok (.if_icmp .ge 40, 3) := by decide +kernel
theorem dX9_sum_17 : decode cX9_sum 17 = .ok (.iload_n 1, 1) := by decide +kernel
theorem dX9_sum_18 : decode cX9_sum 18 = .ok (.ifCond .lt 36, 3) := by decide +kernel
theorem dX9_sum_21 : decode cX9_sum 21 = .ok (.iload_n 1, 1) := by decide +kernel
theorem dX9_sum_22 : decode cX9_sum 22 = .ok (.aload_n 0, 1) := by decide +kernel
theorem dX9_sum_23 : decode cX9_sum 23 = .ok (.getfield 210, 3) := by decide +kernel
theorem dX9_sum_26 : decode cX9_sum 26 = .ok (.if_icmp .ge 28, 3) := by decide +kernel
theorem dX9_sum_29 : decode cX9_sum 29 = .ok (.iload_n 2, 1) := by decide +kernel
theorem dX9_sum_30 : decode cX9_sum 30 = .ok (.aload_n 0, 1) := by decide +kernel
theorem dX9_sum_31 : decode cX9_sum 31 = .ok (.getfield 106, 3) := by decide +kernel
theorem dX9_sum_34 : decode cX9_sum 34 = .ok (.sipush 960, 3) := by decide +kernel
theorem dX9_sum_37 : decode cX9_sum 37 = .ok (.iload_n 1, 1) := by decide +kernel
theorem dX9_sum_38 : decode cX9_sum 38 = .ok (.imul, 1) := by decide +kernel
theorem dX9_sum_39 : decode cX9_sum 39 = .ok (.iload_n 3, 1) := by decide +kernel
theorem dX9_sum_40 : decode cX9_sum 40 = .ok (.iadd, 1) := by decide +kernel
theorem dX9_sum_41 : decode cX9_sum 41 = .ok (.iaload, 1) := by decide +kernel
theorem dX9_sum_42 : decode cX9_sum 42 = .ok (.iconst 1, 1) := by decide +kernel
theorem dX9_sum_43 : decode cX9_sum 43 = .ok (.iload_n 3, 1) := by decide +kernel
theorem dX9_sum_44 : decode cX9_sum 44 = .ok (.iadd, 1) := by decide +kernel
theorem dX9_sum_45 : decode cX9_sum 45 = .ok (.imul, 1) := by decide +kernel
theorem dX9_sum_46 : decode cX9_sum 46 = .ok (.iadd, 1) := by decide +kernel
theorem dX9_sum_47 : decode cX9_sum 47 = .ok (.istore_n 2, 1) := by decide +kernel
theorem dX9_sum_48 : decode cX9_sum 48 = .ok (.iinc 3 1, 3) := by decide +kernel
theorem dX9_sum_51 : decode cX9_sum 51 = .ok (.goto (-42), 3) := by decide +kernel
theorem dX9_sum_54 : decode cX9_sum 54 = .ok (.iload_n 2, 1) := by decide +kernel
theorem dX9_sum_55 : decode cX9_sum 55 = .ok (.ireturn, 1) := by decide +kernel
theorem dJ9_abs_0f7a4_0 : decode cJ9_abs_0f7a4 0 = .ok (.iload_n 0, 1) := by decide +kernel
theorem dJ9_abs_0f7a4_1 : decode cJ9_abs_0f7a4 1 = .ok (.ifCond .ge 8, 3) := by decide +kernel
theorem dJ9_abs_0f7a4_4 : decode cJ9_abs_0f7a4 4 = .ok (.iload_n 0, 1) := by decide +kernel
theorem dJ9_abs_0f7a4_5 : decode cJ9_abs_0f7a4 5 = .ok (.ineg, 1) := by decide +kernel
theorem dJ9_abs_0f7a4_6 : decode cJ9_abs_0f7a4 6 = .ok (.goto 4, 3) := by decide +kernel
theorem dJ9_abs_0f7a4_9 : decode cJ9_abs_0f7a4 9 = .ok (.iload_n 0, 1) := by decide +kernel
theorem dJ9_abs_0f7a4_10 : decode cJ9_abs_0f7a4 10 = .ok (.ireturn, 1) := by decide +kernel
theorem dJ9_max_7cf53_0 : decode cJ9_max_7cf53 0 = .ok (.iload_n 0, 1) := by decide +kernel
theorem dJ9_max_7cf53_1 : decode cJ9_max_7cf53 1 = .ok (.iload_n 1, 1) := by decide +kernel
theorem dJ9_max_7cf53_2 : decode cJ9_max_7cf53 2 = .ok (.if_icmp .lt 7, 3) := by decide +kernel
theorem dJ9_max_7cf53_5 : decode cJ9_max_7cf53 5 = .ok (.iload_n 0, 1) := by decide +kernel
theorem dJ9_max_7cf53_6 : decode cJ9_max_7cf53 6 = .ok (.goto 4, 3) := by decide +kernel
theorem dJ9_max_7cf53_9 : decode cJ9_max_7cf53 9 = .ok (.iload_n 1, 1) := by decide +kernel
theorem dJ9_max_7cf53_10 : decode cJ9_max_7cf53 10 = .ok (.ireturn, 1) := by decide +kernel
theorem dJ9_max_f86c9_0 : decode cJ9_max_f86c9 0 = .ok (.lload_n 0, 1) := by decide +kernel
theorem dJ9_max_f86c9_1 : decode cJ9_max_f86c9 1 = .ok (.lload_n 2, 1) := by decide +kernel
theorem dJ9_max_f86c9_2 : decode cJ9_max_f86c9 2 = .ok (.lcmp, 1) := by decide +kernel
theorem dJ9_max_f86c9_3 : decode cJ9_max_f86c9 3 = .ok (.ifCond .lt 7, 3) := by decide +kernel
theorem dJ9_max_f86c9_6 : decode cJ9_max_f86c9 6 = .ok (.lload_n 0, 1) := by decide +kernel
theorem dJ9_max_f86c9_7 : decode cJ9_max_f86c9 7 = .ok (.goto 4, 3) := by decide +kernel
theorem dJ9_max_f86c9_10 : decode cJ9_max_f86c9 10 = .ok (.lload_n 2, 1) := by decide +kernel
theorem dJ9_max_f86c9_11 : decode cJ9_max_f86c9 11 = .ok (.lreturn, 1) := by decide +kernel
theorem dJ9_min_7cf53_0 : decode cJ9_min_7cf53 0 = .ok (.iload_n 0, 1) := by decide +kernel
theorem dJ9_min_7cf53_1 : decode cJ9_min_7cf53 1 = .ok (.iload_n 1, 1) := by decide +kernel
theorem dJ9_min_7cf53_2 : decode cJ9_min_7cf53 2 = .ok (.if_icmp .gt 7, 3) := by decide +kernel
theorem dJ9_min_7cf53_5 : decode cJ9_min_7cf53 5 = .ok (.iload_n 0, 1) := by decide +kernel
theorem dJ9_min_7cf53_6 : decode cJ9_min_7cf53 6 = .ok (.goto 4, 3) := by decide +kernel
theorem dJ9_min_7cf53_9 : decode cJ9_min_7cf53 9 = .ok (.iload_n 1, 1) := by decide +kernel
theorem dJ9_min_7cf53_10 : decode cJ9_min_7cf53 10 = .ok (.ireturn, 1) := by decide +kernel
theorem dJ9_min_f86c9_0 : decode cJ9_min_f86c9 0 = .ok (.lload_n 0, 1) := by decide +kernel
theorem dJ9_min_f86c9_1 : decode cJ9_min_f86c9 1 = .ok (.lload_n 2, 1) := by decide +kernel
theorem dJ9_min_f86c9_2 : decode cJ9_min_f86c9 2 = .ok (.lcmp, 1) := by decide +kernel
theorem dJ9_min_f86c9_3 : decode cJ9_min_f86c9 3 = .ok (.ifCond .gt 7, 3) := by decide +kernel
theorem dJ9_min_f86c9_6 : decode cJ9_min_f86c9 6 = .ok (.lload_n 0, 1) := by decide +kernel
theorem dJ9_min_f86c9_7 : decode cJ9_min_f86c9 7 = .ok (.goto 4, 3) := by decide +kernel
theorem dJ9_min_f86c9_10 : decode cJ9_min_f86c9 10 = .ok (.lload_n 2, 1) := by decide +kernel
theorem dJ9_min_f86c9_11 : decode cJ9_min_f86c9 11 = .ok (.lreturn, 1) := by decide +kernel
theorem dL_law_0 : decode cL_law 0 = .ok (.new 7, 3) := by decide +kernel
theorem dL_law_3 : decode cL_law 3 = .ok (.dup, 1) := by decide +kernel
theorem dL_law_4 : decode cL_law 4 = .ok (.invokespecial 9, 3) := by decide +kernel
theorem dL_law_7 : decode cL_law 7 = .ok (.astore_n 1, 1) := by decide +kernel
theorem dL_law_8 : decode cL_law 8 = .ok (.new 10, 3) := by decide +kernel
theorem dL_law_11 : decode cL_law 11 = .ok (.dup, 1) := by decide +kernel
theorem dL_law_12 : decode cL_law 12 = .ok (.invokespecial 12, 3) := by decide +kernel
theorem dL_law_15 : decode cL_law 15 = .ok (.astore_n 2, 1) := by decide +kernel
theorem dL_law_16 : decode cL_law 16 = .ok (.iconst 0, 1) := by decide +kernel
theorem dL_law_17 : decode cL_law 17 = .ok (.istore_n 3, 1) := by decide +kernel
theorem dL_law_18 : decode cL_law 18 = .ok (.iload_n 3, 1) := by decide +kernel
theorem dL_law_19 : decode cL_law 19 = .ok (.aload_n 0, 1) := by decide +kernel
theorem dL_law_20 : decode cL_law 20 = .ok (.arraylength, 1) := by decide +kernel
theorem dL_law_21 : decode cL_law 21 = .ok (.bipush 8, 2) := by decide +kernel
theorem dL_law_23 : decode cL_law 23 = .ok (.isub, 1) := by decide +kernel
theorem dL_law_24 : decode cL_law 24 = .ok (.if_icmp .gt 413, 3) := by decide +kernel
theorem dL_law_27 : decode cL_law 27 = .ok (.aload_n 0, 1) := by decide +kernel
theorem dL_law_28 : decode cL_law 28 = .ok (.iload_n 3, 1) := by decide +kernel
theorem dL_law_29 : decode cL_law 29 = .ok (.iaload, 1) := by decide +kernel
theorem dL_law_30 : decode cL_law 30 = .ok (.bipush 15, 2) := by decide +kernel
theorem dL_law_32 : decode cL_law 32 = .ok (.iand, 1) := by decide +kernel
theorem dL_law_33 : decode cL_law 33 = .ok (.tableswitch 398 0 8 #[51, 114, 137, 170, 293, 306, 339, 362, 385], 51) := by decide +kernel
theorem dL_law_84 : decode cL_law 84 = .ok (.aload_n 1, 1) := by decide +kernel
theorem dL_law_85 : decode cL_law 85 = .ok (.aload_n 0, 1) := by decide +kernel
theorem dL_law_86 : decode cL_law 86 = .ok (.iload_n 3, 1) := by decide +kernel
theorem dL_law_87 : decode cL_law 87 = .ok (.iconst 1, 1) := by decide +kernel
theorem dL_law_88 : decode cL_law 88 = .ok (.iadd, 1) := by decide +kernel
theorem dL_law_89 : decode cL_law 89 = .ok (.iaload, 1) := by decide +kernel
theorem dL_law_90 : decode cL_law 90 = .ok (.aload_n 0, 1) := by decide +kernel
theorem dL_law_91 : decode cL_law 91 = .ok (.iload_n 3, 1) := by decide +kernel
theorem dL_law_92 : decode cL_law 92 = .ok (.iconst 2, 1) := by decide +kernel
theorem dL_law_93 : decode cL_law 93 = .ok (.iadd, 1) := by decide +kernel
theorem dL_law_94 : decode cL_law 94 = .ok (.iaload, 1) := by decide +kernel
theorem dL_law_95 : decode cL_law 95 = .ok (.aload_n 0, 1) := by decide +kernel
theorem dL_law_96 : decode cL_law 96 = .ok (.iload_n 3, 1) := by decide +kernel
theorem dL_law_97 : decode cL_law 97 = .ok (.iconst 3, 1) := by decide +kernel
theorem dL_law_98 : decode cL_law 98 = .ok (.iadd, 1) := by decide +kernel
theorem dL_law_99 : decode cL_law 99 = .ok (.iaload, 1) := by decide +kernel
theorem dL_law_100 : decode cL_law 100 = .ok (.aload_n 0, 1) := by decide +kernel
theorem dL_law_101 : decode cL_law 101 = .ok (.iload_n 3, 1) := by decide +kernel
theorem dL_law_102 : decode cL_law 102 = .ok (.iconst 4, 1) := by decide +kernel
theorem dL_law_103 : decode cL_law 103 = .ok (.iadd, 1) := by decide +kernel
theorem dL_law_104 : decode cL_law 104 = .ok (.iaload, 1) := by decide +kernel
theorem dL_law_105 : decode cL_law 105 = .ok (.aload_n 0, 1) := by decide +kernel
theorem dL_law_106 : decode cL_law 106 = .ok (.iload_n 3, 1) := by decide +kernel
theorem dL_law_107 : decode cL_law 107 = .ok (.iconst 5, 1) := by decide +kernel
theorem dL_law_108 : decode cL_law 108 = .ok (.iadd, 1) := by decide +kernel
theorem dL_law_109 : decode cL_law 109 = .ok (.iaload, 1) := by decide +kernel
theorem dL_law_110 : decode cL_law 110 = .ok (.invokevirtual 13, 3) := by decide +kernel
theorem dL_law_113 : decode cL_law 113 = .ok (.aload_n 2, 1) := by decide +kernel
theorem dL_law_114 : decode cL_law 114 = .ok (.aload_n 0, 1) := by decide +kernel
theorem dL_law_115 : decode cL_law 115 = .ok (.iload_n 3, 1) := by decide +kernel
theorem dL_law_116 : decode cL_law 116 = .ok (.iconst 1, 1) := by decide +kernel
theorem dL_law_117 : decode cL_law 117 = .ok (.iadd, 1) := by decide +kernel
theorem dL_law_118 : decode cL_law 118 = .ok (.iaload, 1) := by decide +kernel
theorem dL_law_119 : decode cL_law 119 = .ok (.aload_n 0, 1) := by decide +kernel
theorem dL_law_120 : decode cL_law 120 = .ok (.iload_n 3, 1) := by decide +kernel
theorem dL_law_121 : decode cL_law 121 = .ok (.iconst 2, 1) := by decide +kernel
theorem dL_law_122 : decode cL_law 122 = .ok (.iadd, 1) := by decide +kernel
theorem dL_law_123 : decode cL_law 123 = .ok (.iaload, 1) := by decide +kernel
theorem dL_law_124 : decode cL_law 124 = .ok (.aload_n 0, 1) := by decide +kernel
theorem dL_law_125 : decode cL_law 125 = .ok (.iload_n 3, 1) := by decide +kernel
theorem dL_law_126 : decode cL_law 126 = .ok (.iconst 3, 1) := by decide +kernel
theorem dL_law_127 : decode cL_law 127 = .ok (.iadd, 1) := by decide +kernel
theorem dL_law_128 : decode cL_law 128 = .ok (.iaload, 1) := by decide +kernel
theorem dL_law_129 : decode cL_law 129 = .ok (.aload_n 0, 1) := by decide +kernel
theorem dL_law_130 : decode cL_law 130 = .ok (.iload_n 3, 1) := by decide +kernel
theorem dL_law_131 : decode cL_law 131 = .ok (.iconst 4, 1) := by decide +kernel
theorem dL_law_132 : decode cL_law 132 = .ok (.iadd, 1) := by decide +kernel
theorem dL_law_133 : decode cL_law 133 = .ok (.iaload, 1) := by decide +kernel
theorem dL_law_134 : decode cL_law 134 = .ok (.aload_n 0, 1) := by decide +kernel
theorem dL_law_135 : decode cL_law 135 = .ok (.iload_n 3, 1) := by decide +kernel
theorem dL_law_136 : decode cL_law 136 = .ok (.iconst 5, 1) := by decide +kernel
theorem dL_law_137 : decode cL_law 137 = .ok (.iadd, 1) := by decide +kernel
theorem dL_law_138 : decode cL_law 138 = .ok (.iaload, 1) := by decide +kernel
theorem dL_law_139 : decode cL_law 139 = .ok (.invokevirtual 17, 3) := by decide +kernel
theorem dL_law_142 : decode cL_law 142 = .ok (.if_icmp .eq 289, 3) := by decide +kernel
theorem dL_law_145 : decode cL_law 145 = .ok (.iconst 0, 1) := by decide +kernel
theorem dL_law_146 : decode cL_law 146 = .ok (.ireturn, 1) := by decide +kernel
theorem dL_law_147 : decode cL_law 147 = .ok (.aload_n 1, 1) := by decide +kernel
theorem dL_law_148 : decode cL_law 148 = .ok (.aload_n 0, 1) := by decide +kernel
theorem dL_law_149 : decode cL_law 149 = .ok (.iload_n 3, 1) := by decide +kernel
theorem dL_law_150 : decode cL_law 150 = .ok (.iconst 1, 1) := by decide +kernel
theorem dL_law_151 : decode cL_law 151 = .ok (.iadd, 1) := by decide +kernel
theorem dL_law_152 : decode cL_law 152 = .ok (.iaload, 1) := by decide +kernel
theorem dL_law_153 : decode cL_law 153 = .ok (.invokevirtual 18, 3) := by decide +kernel
theorem dL_law_156 : decode cL_law 156 = .ok (.aload_n 2, 1) := by decide +kernel
theorem dL_law_157 : decode cL_law 157 = .ok (.aload_n 0, 1) := by decide +kernel
theorem dL_law_158 : decode cL_law 158 = .ok (.iload_n 3, 1) := by decide +kernel
theorem dL_law_159 : decode cL_law 159 = .ok (.iconst 1, 1) := by decide +kernel
theorem dL_law_160 : decode cL_law 160 = .ok (.iadd, 1) := by decide +kernel
theorem dL_law_161 : decode cL_law 161 = .ok (.iaload, 1) := by decide +kernel
theorem dL_law_162 : decode cL_law 162 = .ok (.invokevirtual 22, 3) := by decide +kernel
theorem dL_law_165 : decode cL_law 165 = .ok (.if_icmp .eq 266, 3) := by decide +kernel
theorem dL_law_168 : decode cL_law 168 = .ok (.iconst 0, 1) := by decide +kernel
theorem dL_law_169 : decode cL_law 169 = .ok (.ireturn, 1) := by decide +kernel
theorem dL_law_170 : decode cL_law 170 = .ok (.aload_n 1, 1) := by decide +kernel
theorem dL_law_171 : decode cL_law 171 = .ok (.aload_n 0, 1) := by decide +kernel
theorem dL_law_172 : decode cL_law 172 = .ok (.iload_n 3, 1) := by decide +kernel
theorem dL_law_173 : decode cL_law 173 = .ok (.iconst 1, 1) := by decide +kernel
theorem dL_law_174 : decode cL_law 174 = .ok (.iadd, 1) := by decide +kernel
theorem dL_law_175 : decode cL_law 175 = .ok (.iaload, 1) := by decide +kernel
theorem dL_law_176 : decode cL_law 176 = .ok (.aload_n 0, 1) := by decide +kernel
theorem dL_law_177 : decode cL_law 177 = .ok (.iload_n 3, 1) := by decide +kernel
theorem dL_law_178 : decode cL_law 178 = .ok (.iconst 2, 1) := by decide +kernel
theorem dL_law_179 : decode cL_law 179 = .ok (.iadd, 1) := by decide +kernel
theorem dL_law_180 : decode cL_law 180 = .ok (.iaload, 1) := by decide +kernel
theorem dL_law_181 : decode cL_law 181 = .ok (.invokevirtual 23, 3) := by decide +kernel
theorem dL_law_184 : decode cL_law 184 = .ok (.aload_n 2, 1) := by decide +kernel
theorem dL_law_185 : decode cL_law 185 = .ok (.aload_n 0, 1) := by decide +kernel
theorem dL_law_186 : decode cL_law 186 = .ok (.iload_n 3, 1) := by decide +kernel
theorem dL_law_187 : decode cL_law 187 = .ok (.iconst 1, 1) := by decide +kernel
theorem dL_law_188 : decode cL_law 188 = .ok (.iadd, 1) := by decide +kernel
theorem dL_law_189 : decode cL_law 189 = .ok (.iaload, 1) := by decide +kernel
theorem dL_law_190 : decode cL_law 190 = .ok (.aload_n 0, 1) := by decide +kernel
theorem dL_law_191 : decode cL_law 191 = .ok (.iload_n 3, 1) := by decide +kernel
theorem dL_law_192 : decode cL_law 192 = .ok (.iconst 2, 1) := by decide +kernel
theorem dL_law_193 : decode cL_law 193 = .ok (.iadd, 1) := by decide +kernel
theorem dL_law_194 : decode cL_law 194 = .ok (.iaload, 1) := by decide +kernel
theorem dL_law_195 : decode cL_law 195 = .ok (.invokevirtual 27, 3) := by decide +kernel
theorem dL_law_198 : decode cL_law 198 = .ok (.if_icmp .eq 233, 3) := by decide +kernel
theorem dL_law_201 : decode cL_law 201 = .ok (.iconst 0, 1) := by decide +kernel
theorem dL_law_202 : decode cL_law 202 = .ok (.ireturn, 1) := by decide +kernel
theorem dL_law_203 : decode cL_law 203 = .ok (.aload_n 1, 1) := by decide +kernel
theorem dL_law_204 : decode cL_law 204 = .ok (.aload_n 0, 1) := by decide +kernel
theorem dL_law_205 : decode cL_law 205 = .ok (.iload_n 3, 1) := by decide +kernel
theorem dL_law_206 : decode cL_law 206 = .ok (.iconst 1, 1) := by decide +kernel
theorem dL_law_207 : decode cL_law 207 = .ok (.iadd, 1) := by decide +kernel
theorem dL_law_208 : decode cL_law 208 = .ok (.iaload, 1) := by decide +kernel
theorem dL_law_209 : decode cL_law 209 = .ok (.aload_n 0, 1) := by decide +kernel
theorem dL_law_210 : decode cL_law 210 = .ok (.iload_n 3, 1) := by decide +kernel
theorem dL_law_211 : decode cL_law 211 = .ok (.iconst 2, 1) := by decide +kernel
theorem dL_law_212 : decode cL_law 212 = .ok (.iadd, 1) := by decide +kernel
theorem dL_law_213 : decode cL_law 213 = .ok (.iaload, 1) := by decide +kernel
theorem dL_law_214 : decode cL_law 214 = .ok (.aload_n 0, 1) := by decide +kernel
theorem dL_law_215 : decode cL_law 215 = .ok (.iload_n 3, 1) := by decide +kernel
theorem dL_law_216 : decode cL_law 216 = .ok (.iconst 3, 1) := by decide +kernel
theorem dL_law_217 : decode cL_law 217 = .ok (.iadd, 1) := by decide +kernel
theorem dL_law_218 : decode cL_law 218 = .ok (.iaload, 1) := by decide +kernel
theorem dL_law_219 : decode cL_law 219 = .ok (.i2l, 1) := by decide +kernel
theorem dL_law_220 : decode cL_law 220 = .ok (.bipush 32, 2) := by decide +kernel
theorem dL_law_222 : decode cL_law 222 = .ok (.lshl, 1) := by decide +kernel
theorem dL_law_223 : decode cL_law 223 = .ok (.aload_n 0, 1) := by decide +kernel
theorem dL_law_224 : decode cL_law 224 = .ok (.iload_n 3, 1) := by decide +kernel
theorem dL_law_225 : decode cL_law 225 = .ok (.iconst 4, 1) := by decide +kernel
theorem dL_law_226 : decode cL_law 226 = .ok (.iadd, 1) := by decide +kernel
theorem dL_law_227 : decode cL_law 227 = .ok (.iaload, 1) := by decide +kernel
theorem dL_law_228 : decode cL_law 228 = .ok (.i2l, 1) := by decide +kernel
theorem dL_law_229 : decode cL_law 229 = .ok (.ldc2_w 28, 3) := by decide +kernel
theorem dL_law_232 : decode cL_law 232 = .ok (.land, 1) := by decide +kernel
theorem dL_law_233 : decode cL_law 233 = .ok (.lor, 1) := by decide +kernel
theorem dL_law_234 : decode cL_law 234 = .ok (.aload_n 0, 1) := by decide +kernel
theorem dL_law_235 : decode cL_law 235 = .ok (.iload_n 3, 1) := by decide +kernel
theorem dL_law_236 : decode cL_law 236 = .ok (.iconst 5, 1) := by decide +kernel
theorem dL_law_237 : decode cL_law 237 = .ok (.iadd, 1) := by decide +kernel
theorem dL_law_238 : decode cL_law 238 = .ok (.iaload, 1) := by decide +kernel
theorem dL_law_239 : decode cL_law 239 = .ok (.aload_n 0, 1) := by decide +kernel
theorem dL_law_240 : decode cL_law 240 = .ok (.iload_n 3, 1) := by decide +kernel
theorem dL_law_241 : decode cL_law 241 = .ok (.bipush 6, 2) := by decide +kernel
theorem dL_law_243 : decode cL_law 243 = .ok (.iadd, 1) := by decide +kernel
theorem dL_law_244 : decode cL_law 244 = .ok (.iaload, 1) := by decide +kernel
theorem dL_law_245 : decode cL_law 245 = .ok (.aload_n 0, 1) := by decide +kernel
theorem dL_law_246 : decode cL_law 246 = .ok (.iload_n 3, 1) := by decide +kernel
theorem dL_law_247 : decode cL_law 247 = .ok (.bipush 7, 2) := by decide +kernel
theorem dL_law_249 : decode cL_law 249 = .ok (.iadd, 1) := by decide +kernel
theorem dL_law_250 : decode cL_law 250 = .ok (.iaload, 1) := by decide +kernel
theorem dL_law_251 : decode cL_law 251 = .ok (.ifCond .eq 7, 3) := by decide +kernel
theorem dL_law_254 : decode cL_law 254 = .ok (.iconst 1, 1) := by decide +kernel
theorem dL_law_255 : decode cL_law 255 = .ok (.goto 4, 3) := by decide +kernel
theorem dL_law_258 : decode cL_law 258 = .ok (.iconst 0, 1) := by decide +kernel
theorem dL_law_259 : decode cL_law 259 = .ok (.invokevirtual 30, 3) := by decide +kernel
theorem dL_law_262 : decode cL_law 262 = .ok (.aload_n 2, 1) := by decide +kernel
theorem dL_law_263 : decode cL_law 263 = .ok (.aload_n 0, 1) := by decide +kernel
theorem dL_law_264 : decode cL_law 264 = .ok (.iload_n 3, 1) := by decide +kernel
theorem dL_law_265 : decode cL_law 265 = .ok (.iconst 1, 1) := by decide +kernel
theorem dL_law_266 : decode cL_law 266 = .ok (.iadd, 1) := by decide +kernel
theorem dL_law_267 : decode cL_law 267 = .ok (.iaload, 1) := by decide +kernel
theorem dL_law_268 : decode cL_law 268 = .ok (.aload_n 0, 1) := by decide +kernel
theorem dL_law_269 : decode cL_law 269 = .ok (.iload_n 3, 1) := by decide +kernel
theorem dL_law_270 : decode cL_law 270 = .ok (.iconst 2, 1) := by decide +kernel
theorem dL_law_271 : decode cL_law 271 = .ok (.iadd, 1) := by decide +kernel
theorem dL_law_272 : decode cL_law 272 = .ok (.iaload, 1) := by decide +kernel
theorem dL_law_273 : decode cL_law 273 = .ok (.aload_n 0, 1) := by decide +kernel
theorem dL_law_274 : decode cL_law 274 = .ok (.iload_n 3, 1) := by decide +kernel
theorem dL_law_275 : decode cL_law 275 = .ok (.iconst 3, 1) := by decide +kernel
theorem dL_law_276 : decode cL_law 276 = .ok (.iadd, 1) := by decide +kernel
theorem dL_law_277 : decode cL_law 277 = .ok (.iaload, 1) := by decide +kernel
theorem dL_law_278 : decode cL_law 278 = .ok (.i2l, 1) := by decide +kernel
theorem dL_law_279 : decode cL_law 279 = .ok (.bipush 32, 2) := by decide +kernel
theorem dL_law_281 : decode cL_law 281 = .ok (.lshl, 1) := by decide +kernel
theorem dL_law_282 : decode cL_law 282 = .ok (.aload_n 0, 1) := by decide +kernel
theorem dL_law_283 : decode cL_law 283 = .ok (.iload_n 3, 1) := by decide +kernel
theorem dL_law_284 : decode cL_law 284 = .ok (.iconst 4, 1) := by decide +kernel
theorem dL_law_285 : decode cL_law 285 = .ok (.iadd, 1) := by decide +kernel
theorem dL_law_286 : decode cL_law 286 = .ok (.iaload, 1) := by decide +kernel
theorem dL_law_287 : decode cL_law 287 = .ok (.i2l, 1) := by decide +kernel
theorem dL_law_288 : decode cL_law 288 = .ok (.ldc2_w 28, 3) := by decide +kernel
theorem dL_law_291 : decode cL_law 291 = .ok (.land, 1) := by decide +kernel
theorem dL_law_292 : decode cL_law 292 = .ok (.lor, 1) := by decide +kernel
theorem dL_law_293 : decode cL_law 293 = .ok (.aload_n 0, 1) := by decide +kernel
theorem dL_law_294 : decode cL_law 294 = .ok (.iload_n 3, 1) := by decide +kernel
theorem dL_law_295 : decode cL_law 295 = .ok (.iconst 5, 1) := by decide +kernel
theorem dL_law_296 : decode cL_law 296 = .ok (.iadd, 1) := by decide +kernel
theorem dL_law_297 : decode cL_law 297 = .ok (.iaload, 1) := by decide +kernel
theorem dL_law_298 : decode cL_law 298 = .ok (.aload_n 0, 1) := by decide +kernel
theorem dL_law_299 : decode cL_law 299 = .ok (.iload_n 3, 1) := by decide +kernel
theorem dL_law_300 : decode cL_law 300 = .ok (.bipush 6, 2) := by decide +kernel
theorem dL_law_302 : decode cL_law 302 = .ok (.iadd, 1) := by decide +kernel
theorem dL_law_303 : decode cL_law 303 = .ok (.iaload, 1) := by decide +kernel
theorem dL_law_304 : decode cL_law 304 = .ok (.aload_n 0, 1) := by decide +kernel
theorem dL_law_305 : decode cL_law 305 = .ok (.iload_n 3, 1) := by decide +kernel
theorem dL_law_306 : decode cL_law 306 = .ok (.bipush 7, 2) := by decide +kernel
theorem dL_law_308 : decode cL_law 308 = .ok (.iadd, 1) := by decide +kernel
theorem dL_law_309 : decode cL_law 309 = .ok (.iaload, 1) := by decide +kernel
theorem dL_law_310 : decode cL_law 310 = .ok (.ifCond .eq 7, 3) := by decide +kernel
theorem dL_law_313 : decode cL_law 313 = .ok (.iconst 1, 1) := by decide +kernel
theorem dL_law_314 : decode cL_law 314 = .ok (.goto 4, 3) := by decide +kernel
theorem dL_law_317 : decode cL_law 317 = .ok (.iconst 0, 1) := by decide +kernel
theorem dL_law_318 : decode cL_law 318 = .ok (.invokevirtual 34, 3) := by decide +kernel
theorem dL_law_321 : decode cL_law 321 = .ok (.if_icmp .eq 110, 3) := by decide +kernel
theorem dL_law_324 : decode cL_law 324 = .ok (.iconst 0, 1) := by decide +kernel
theorem dL_law_325 : decode cL_law 325 = .ok (.ireturn, 1) := by decide +kernel
theorem dL_law_326 : decode cL_law 326 = .ok (.aload_n 1, 1) := by decide +kernel
theorem dL_law_327 : decode cL_law 327 = .ok (.invokevirtual 35, 3) := by decide +kernel
theorem dL_law_330 : decode cL_law 330 = .ok (.aload_n 2, 1) := by decide +kernel
theorem dL_law_331 : decode cL_law 331 = .ok (.invokevirtual 39, 3) := by decide +kernel
theorem dL_law_334 : decode cL_law 334 = .ok (.if_icmp .eq 97, 3) := by decide +kernel
theorem dL_law_337 : decode cL_law 337 = .ok (.iconst 0, 1) := by decide +kernel
theorem dL_law_338 : decode cL_law 338 = .ok (.ireturn, 1) := by decide +kernel
theorem dL_law_339 : decode cL_law 339 = .ok (.aload_n 1, 1) := by decide +kernel
theorem dL_law_340 : decode cL_law 340 = .ok (.aload_n 0, 1) := by decide +kernel
theorem dL_law_341 : decode cL_law 341 = .ok (.iload_n 3, 1) := by decide +kernel
theorem dL_law_342 : decode cL_law 342 = .ok (.iconst 1, 1) := by decide +kernel
theorem dL_law_343 : decode cL_law 343 = .ok (.iadd, 1) := by decide +kernel
theorem dL_law_344 : decode cL_law 344 = .ok (.iaload, 1) := by decide +kernel
theorem dL_law_345 : decode cL_law 345 = .ok (.aload_n 0, 1) := by decide +kernel
theorem dL_law_346 : decode cL_law 346 = .ok (.iload_n 3, 1) := by decide +kernel
theorem dL_law_347 : decode cL_law 347 = .ok (.iconst 2, 1) := by decide +kernel
theorem dL_law_348 : decode cL_law 348 = .ok (.iadd, 1) := by decide +kernel
theorem dL_law_349 : decode cL_law 349 = .ok (.iaload, 1) := by decide +kernel
theorem dL_law_350 : decode cL_law 350 = .ok (.invokevirtual 40, 3) := by decide +kernel
theorem dL_law_353 : decode cL_law 353 = .ok (.aload_n 2, 1) := by decide +kernel
theorem dL_law_354 : decode cL_law 354 = .ok (.aload_n 0, 1) := by decide +kernel
theorem dL_law_355 : decode cL_law 355 = .ok (.iload_n 3, 1) := by decide +kernel
theorem dL_law_356 : decode cL_law 356 = .ok (.iconst 1, 1) := by decide +kernel
theorem dL_law_357 : decode cL_law 357 = .ok (.iadd, 1) := by decide +kernel
theorem dL_law_358 : decode cL_law 358 = .ok (.iaload, 1) := by decide +kernel
theorem dL_law_359 : decode cL_law 359 = .ok (.aload_n 0, 1) := by decide +kernel
theorem dL_law_360 : decode cL_law 360 = .ok (.iload_n 3, 1) := by decide +kernel
theorem dL_law_361 : decode cL_law 361 = .ok (.iconst 2, 1) := by decide +kernel
theorem dL_law_362 : decode cL_law 362 = .ok (.iadd, 1) := by decide +kernel
theorem dL_law_363 : decode cL_law 363 = .ok (.iaload, 1) := by decide +kernel
theorem dL_law_364 : decode cL_law 364 = .ok (.invokevirtual 44, 3) := by decide +kernel
theorem dL_law_367 : decode cL_law 367 = .ok (.if_icmp .eq 64, 3) := by decide +kernel
theorem dL_law_370 : decode cL_law 370 = .ok (.iconst 0, 1) := by decide +kernel
theorem dL_law_371 : decode cL_law 371 = .ok (.ireturn, 1) := by decide +kernel
theorem dL_law_372 : decode cL_law 372 = .ok (.aload_n 1, 1) := by decide +kernel
theorem dL_law_373 : decode cL_law 373 = .ok (.aload_n 0, 1) := by decide +kernel
theorem dL_law_374 : decode cL_law 374 = .ok (.iload_n 3, 1) := by decide +kernel
theorem dL_law_375 : decode cL_law 375 = .ok (.iconst 1, 1) := by decide +kernel
theorem dL_law_376 : decode cL_law 376 = .ok (.iadd, 1) := by decide +kernel
theorem dL_law_377 : decode cL_law 377 = .ok (.iaload, 1) := by decide +kernel
theorem dL_law_378 : decode cL_law 378 = .ok (.invokevirtual 45, 3) := by decide +kernel
theorem dL_law_381 : decode cL_law 381 = .ok (.aload_n 2, 1) := by decide +kernel
theorem dL_law_382 : decode cL_law 382 = .ok (.aload_n 0, 1) := by decide +kernel
theorem dL_law_383 : decode cL_law 383 = .ok (.iload_n 3, 1) := by decide +kernel
theorem dL_law_384 : decode cL_law 384 = .ok (.iconst 1, 1) := by decide +kernel
theorem dL_law_385 : decode cL_law 385 = .ok (.iadd, 1) := by decide +kernel
theorem dL_law_386 : decode cL_law 386 = .ok (.iaload, 1) := by decide +kernel
theorem dL_law_387 : decode cL_law 387 = .ok (.invokevirtual 49, 3) := by decide +kernel
theorem dL_law_390 : decode cL_law 390 = .ok (.if_icmp .eq 41, 3) := by decide +kernel
theorem dL_law_393 : decode cL_law 393 = .ok (.iconst 0, 1) := by decide +kernel
theorem dL_law_394 : decode cL_law 394 = .ok (.ireturn, 1) := by decide +kernel
theorem dL_law_395 : decode cL_law 395 = .ok (.aload_n 1, 1) := by decide +kernel
theorem dL_law_396 : decode cL_law 396 = .ok (.aload_n 0, 1) := by decide +kernel
theorem dL_law_397 : decode cL_law 397 = .ok (.iload_n 3, 1) := by decide +kernel
theorem dL_law_398 : decode cL_law 398 = .ok (.iconst 1, 1) := by decide +kernel
theorem dL_law_399 : decode cL_law 399 = .ok (.iadd, 1) := by decide +kernel
theorem dL_law_400 : decode cL_law 400 = .ok (.iaload, 1) := by decide +kernel
theorem dL_law_401 : decode cL_law 401 = .ok (.invokevirtual 50, 3) := by decide +kernel
theorem dL_law_404 : decode cL_law 404 = .ok (.aload_n 2, 1) := by decide +kernel
theorem dL_law_405 : decode cL_law 405 = .ok (.aload_n 0, 1) := by decide +kernel
theorem dL_law_406 : decode cL_law 406 = .ok (.iload_n 3, 1) := by decide +kernel
theorem dL_law_407 : decode cL_law 407 = .ok (.iconst 1, 1) := by decide +kernel
theorem dL_law_408 : decode cL_law 408 = .ok (.iadd, 1) := by decide +kernel
theorem dL_law_409 : decode cL_law 409 = .ok (.iaload, 1) := by decide +kernel
theorem dL_law_410 : decode cL_law 410 = .ok (.invokevirtual 53, 3) := by decide +kernel
theorem dL_law_413 : decode cL_law 413 = .ok (.if_icmp .eq 18, 3) := by decide +kernel
theorem dL_law_416 : decode cL_law 416 = .ok (.iconst 0, 1) := by decide +kernel
theorem dL_law_417 : decode cL_law 417 = .ok (.ireturn, 1) := by decide +kernel
theorem dL_law_418 : decode cL_law 418 = .ok (.aload_n 1, 1) := by decide +kernel
theorem dL_law_419 : decode cL_law 419 = .ok (.invokevirtual 54, 3) := by decide +kernel
theorem dL_law_422 : decode cL_law 422 = .ok (.aload_n 2, 1) := by decide +kernel
theorem dL_law_423 : decode cL_law 423 = .ok (.invokevirtual 57, 3) := by decide +kernel
theorem dL_law_426 : decode cL_law 426 = .ok (.if_icmp .eq 5, 3) := by decide +kernel
theorem dL_law_429 : decode cL_law 429 = .ok (.iconst 0, 1) := by decide +kernel
theorem dL_law_430 : decode cL_law 430 = .ok (.ireturn, 1) := by decide +kernel
theorem dL_law_431 : decode cL_law 431 = .ok (.iinc 3 8, 3) := by decide +kernel
theorem dL_law_434 : decode cL_law 434 = .ok (.goto (-416), 3) := by decide +kernel
theorem dL_law_437 : decode cL_law 437 = .ok (.iconst 1, 1) := by decide +kernel
theorem dL_law_438 : decode cL_law 438 = .ok (.ireturn, 1) := by decide +kernel
