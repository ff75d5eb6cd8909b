theorem dX11_init_0 : decode cX11_init 0 = .ok (.aload_n 0, 1) := by decide +kernel
theorem dX11_init_1 : decode cX11_init 1 = .ok (.invokespecial 1, 3) := by decide +kernel
theorem dX11_init_4 : decode cX11_init 4 = .ok (.aload_n 0, 1) := by decide +kernel
theorem dX11_init_5 : decode cX11_init 5 = .ok (.sipush 1600, 3) := by decide +kernel
theorem dX11_init_8 : decode cX11_init 8 = .ok (.newarray .int, 2) := by decide +kernel
theorem dX11_init_10 : decode cX11_init 10 = .ok (.putfield 7, 3) := by decide +kernel
theorem dX11_init_13 : decode cX11_init 13 = .ok (.aload_n 0, 1) := by decide +kernel
theorem dX11_init_14 : decode cX11_init 14 = .ok (.sipush 1600, 3) := by decide +kernel
theorem dX11_init_17 : decode cX11_init 17 = .ok (.newarray .int, 2) := by decide +kernel
theorem dX11_init_19 : decode cX11_init 19 = .ok (.putfield 13, 3) := by decide +kernel
theorem dX11_init_22 : decode cX11_init 22 = .ok (.aload_n 0, 1) := by decide +kernel
theorem dX11_init_23 : decode cX11_init 23 = .ok (.sipush 1600, 3) := by decide +kernel
theorem dX11_init_26 : decode cX11_init 26 = .ok (.newarray .int, 2) := by decide +kernel
theorem dX11_init_28 : decode cX11_init 28 = .ok (.putfield 16, 3) := by decide +kernel
theorem dX11_init_31 : decode cX11_init 31 = .ok (.aload_n 0, 1) := by decide +kernel
theorem dX11_init_32 : decode cX11_init 32 = .ok (.sipush 1600, 3) := by decide +kernel
theorem dX11_init_35 : decode cX11_init 35 = .ok (.newarray .int, 2) := by decide +kernel
theorem dX11_init_37 : decode cX11_init 37 = .ok (.putfield 19, 3) := by decide +kernel
theorem dX11_init_40 : decode cX11_init 40 = .ok (.aload_n 0, 1) := by decide +kernel
theorem dX11_init_41 : decode cX11_init 41 = .ok (.bipush 16, 2) := by decide +kernel
theorem dX11_init_43 : decode cX11_init 43 = .ok (.newarray .int, 2) := by decide +kernel
theorem dX11_init_45 : decode cX11_init 45 = .ok (.putfield 22, 3) := by decide +kernel
theorem dX11_init_48 : decode cX11_init 48 = .ok (.aload_n 0, 1) := by decide +kernel
theorem dX11_init_49 : decode cX11_init 49 = .ok (.bipush 16, 2) := by decide +kernel
theorem dX11_init_51 : decode cX11_init 51 = .ok (.newarray .int, 2) := by decide +kernel
theorem dX11_init_53 : decode cX11_init 53 = .ok (.putfield 25, 3) := by decide +kernel
theorem dX11_init_56 : decode cX11_init 56 = .ok (.aload_n 0, 1) := by decide +kernel
theorem dX11_init_57 : decode cX11_init 57 = .ok (.bipush 16, 2) := by decide +kernel
theorem dX11_init_59 : decode cX11_init 59 = .ok (.newarray .int, 2) := by decide +kernel
theorem dX11_init_61 : decode cX11_init 61 = .ok (.putfield 28, 3) := by decide +kernel
theorem dX11_init_64 : decode cX11_init 64 = .ok (.aload_n 0, 1) := by decide +kernel
theorem dX11_init_65 : decode cX11_init 65 = .ok (.bipush 16, 2) := by decide +kernel
theorem dX11_init_67 : decode cX11_init 67 = .ok (.newarray .int, 2) := by decide +kernel
theorem dX11_init_69 : decode cX11_init 69 = .ok (.putfield 31, 3) := by decide +kernel
theorem dX11_init_72 : decode cX11_init 72 = .ok (.aload_n 0, 1) := by decide +kernel
theorem dX11_init_73 : decode cX11_init 73 = .ok (.bipush 16, 2) := by decide +kernel
theorem dX11_init_75 : decode cX11_init 75 = .ok (.newarray .int, 2) := by decide +kernel
theorem dX11_init_77 : decode cX11_init 77 = .ok (.putfield 34, 3) := by decide +kernel
theorem dX11_init_80 : decode cX11_init 80 = .ok (.aload_n 0, 1) := by decide +kernel
theorem dX11_init_81 : decode cX11_init 81 = .ok (.bipush 16, 2) := by decide +kernel
theorem dX11_init_83 : decode cX11_init 83 = .ok (.newarray .boolean, 2) := by decide +kernel
theorem dX11_init_85 : decode cX11_init 85 = .ok (.putfield 37, 3) := by decide +kernel
theorem dX11_init_88 : decode cX11_init 88 = .ok (.aload_n 0, 1) := by decide +kernel
theorem dX11_init_89 : decode cX11_init 89 = .ok (.bipush 16, 2) := by decide +kernel
theorem dX11_init_91 : decode cX11_init 91 = .ok (.newarray .boolean, 2) := by decide +kernel
theorem dX11_init_93 : decode cX11_init 93 = .ok (.putfield 41, 3) := by decide +kernel
theorem dX11_init_96 : decode cX11_init 96 = .ok (.aload_n 0, 1) := by decide +kernel
theorem dX11_init_97 : decode cX11_init 97 = .ok (.sipush 256, 3) := by decide +kernel
theorem dX11_init_100 : decode cX11_init 100 = .ok (.newarray .boolean, 2) := by decide +kernel
theorem dX11_init_102 : decode cX11_init 102 = .ok (.putfield 44, 3) := by decide +kernel
theorem dX11_init_105 : decode cX11_init 105 = .ok (.aload_n 0, 1) := by decide +kernel
theorem dX11_init_106 : decode cX11_init 106 = .ok (.bipush 16, 2) := by decide +kernel
theorem dX11_init_108 : decode cX11_init 108 = .ok (.newarray .int, 2) := by decide +kernel
theorem dX11_init_110 : decode cX11_init 110 = .ok (.putfield 47, 3) := by decide +kernel
theorem dX11_init_113 : decode cX11_init 113 = .ok (.aload_n 0, 1) := by decide +kernel
theorem dX11_init_114 : decode cX11_init 114 = .ok (.sipush 256, 3) := by decide +kernel
theorem dX11_init_117 : decode cX11_init 117 = .ok (.newarray .boolean, 2) := by decide +kernel
theorem dX11_init_119 : decode cX11_init 119 = .ok (.putfield 50, 3) := by decide +kernel
theorem dX11_init_122 : decode cX11_init 122 = .ok (.aload_n 0, 1) := by decide +kernel
theorem dX11_init_123 : decode cX11_init 123 = .ok (.sipush 160, 3) := by decide +kernel
theorem dX11_init_126 : decode cX11_init 126 = .ok (.newarray .boolean, 2) := by decide +kernel
theorem dX11_init_128 : decode cX11_init 128 = .ok (.putfield 53, 3) := by decide +kernel
theorem dX11_init_131 : decode cX11_init 131 = .ok (.aload_n 0, 1) := by decide +kernel
theorem dX11_init_132 : decode cX11_init 132 = .ok (.sipush 270, 3) := by decide +kernel
theorem dX11_init_135 : decode cX11_init 135 = .ok (.newarray .int, 2) := by decide +kernel
theorem dX11_init_137 : decode cX11_init 137 = .ok (.putfield 56, 3) := by decide +kernel
theorem dX11_init_140 : decode cX11_init 140 = .ok (.aload_n 0, 1) := by decide +kernel
theorem dX11_init_141 : decode cX11_init 141 = .ok (.sipush 270, 3) := by decide +kernel
theorem dX11_init_144 : decode cX11_init 144 = .ok (.newarray .int, 2) := by decide +kernel
theorem dX11_init_146 : decode cX11_init 146 = .ok (.putfield 59, 3) := by decide +kernel
theorem dX11_init_149 : decode cX11_init 149 = .ok (.aload_n 0, 1) := by decide +kernel
theorem dX11_init_150 : decode cX11_init 150 = .ok (.sipush 270, 3) := by decide +kernel
theorem dX11_init_153 : decode cX11_init 153 = .ok (.newarray .int, 2) := by decide +kernel
theorem dX11_init_155 : decode cX11_init 155 = .ok (.putfield 62, 3) := by decide +kernel
theorem dX11_init_158 : decode cX11_init 158 = .ok (.aload_n 0, 1) := by decide +kernel
theorem dX11_init_159 : decode cX11_init 159 = .ok (.sipush 270, 3) := by decide +kernel
theorem dX11_init_162 : decode cX11_init 162 = .ok (.newarray .int, 2) := by decide +kernel
theorem dX11_init_164 : decode cX11_init 164 = .ok (.putfield 65, 3) := by decide +kernel
theorem dX11_init_167 : decode cX11_init 167 = .ok (.aload_n 0, 1) := by decide +kernel
theorem dX11_init_168 : decode cX11_init 168 = .ok (.sipush 270, 3) := by decide +kernel
theorem dX11_init_171 : decode cX11_init 171 = .ok (.newarray .int, 2) := by decide +kernel
theorem dX11_init_173 : decode cX11_init 173 = .ok (.putfield 68, 3) := by decide +kernel
theorem dX11_init_176 : decode cX11_init 176 = .ok (.aload_n 0, 1) := by decide +kernel
theorem dX11_init_177 : decode cX11_init 177 = .ok (.sipush 5400, 3) := by decide +kernel
theorem dX11_init_180 : decode cX11_init 180 = .ok (.newarray .int, 2) := by decide +kernel
theorem dX11_init_182 : decode cX11_init 182 = .ok (.putfield 71, 3) := by decide +kernel
theorem dX11_init_185 : decode cX11_init 185 = .ok (.aload_n 0, 1) := by decide +kernel
theorem dX11_init_186 : decode cX11_init 186 = .ok (.sipush 270, 3) := by decide +kernel
theorem dX11_init_189 : decode cX11_init 189 = .ok (.newarray .int, 2) := by decide +kernel
theorem dX11_init_191 : decode cX11_init 191 = .ok (.putfield 74, 3) := by decide +kernel
theorem dX11_init_194 : decode cX11_init 194 = .ok (.aload_n 0, 1) := by decide +kernel
theorem dX11_init_195 : decode cX11_init 195 = .ok (.sipush 160, 3) := by decide +kernel
theorem dX11_init_198 : decode cX11_init 198 = .ok (.newarray .int, 2) := by decide +kernel
theorem dX11_init_200 : decode cX11_init 200 = .ok (.putfield 77, 3) := by decide +kernel
theorem dX11_init_203 : decode cX11_init 203 = .ok (.aload_n 0, 1) := by decide +kernel
theorem dX11_init_204 : decode cX11_init 204 = .ok (.sipush 1600, 3) := by decide +kernel
theorem dX11_init_207 : decode cX11_init 207 = .ok (.newarray .int, 2) := by decide +kernel
theorem dX11_init_209 : decode cX11_init 209 = .ok (.putfield 80, 3) := by decide +kernel
theorem dX11_init_212 : decode cX11_init 212 = .ok (.aload_n 0, 1) := by decide +kernel
theorem dX11_init_213 : decode cX11_init 213 = .ok (.sipush 160, 3) := by decide +kernel
theorem dX11_init_216 : decode cX11_init 216 = .ok (.newarray .int, 2) := by decide +kernel
theorem dX11_init_218 : decode cX11_init 218 = .ok (.putfield 83, 3) := by decide +kernel
theorem dX11_init_221 : decode cX11_init 221 = .ok (.aload_n 0, 1) := by decide +kernel
theorem dX11_init_222 : decode cX11_init 222 = .ok (.sipush 160, 3) := by decide +kernel
theorem dX11_init_225 : decode cX11_init 225 = .ok (.newarray .int, 2) := by decide +kernel
theorem dX11_init_227 : decode cX11_init 227 = .ok (.putfield 86, 3) := by decide +kernel
theorem dX11_init_230 : decode cX11_init 230 = .ok (.aload_n 0, 1) := by decide +kernel
theorem dX11_init_231 : decode cX11_init 231 = .ok (.bipush 10, 2) := by decide +kernel
theorem dX11_init_233 : decode cX11_init 233 = .ok (.newarray .int, 2) := by decide +kernel
theorem dX11_init_235 : decode cX11_init 235 = .ok (.putfield 89, 3) := by decide +kernel
theorem dX11_init_238 : decode cX11_init 238 = .ok (.aload_n 0, 1) := by decide +kernel
theorem dX11_init_239 : decode cX11_init 239 = .ok (.sipush 270, 3) := by decide +kernel
theorem dX11_init_242 : decode cX11_init 242 = .ok (.newarray .int, 2) := by decide +kernel
theorem dX11_init_244 : decode cX11_init 244 = .ok (.putfield 92, 3) := by decide +kernel
theorem dX11_init_247 : decode cX11_init 247 = .ok (.aload_n 0, 1) := by decide +kernel
theorem dX11_init_248 : decode cX11_init 248 = .ok (.sipush 270, 3) := by decide +kernel
theorem dX11_init_251 : decode cX11_init 251 = .ok (.newarray .int, 2) := by decide +kernel
theorem dX11_init_253 : decode cX11_init 253 = .ok (.putfield 95, 3) := by decide +kernel
theorem dX11_init_256 : decode cX11_init 256 = .ok (.aload_n 0, 1) := by decide +kernel
theorem dX11_init_257 : decode cX11_init 257 = .ok (.sipush 270, 3) := by decide +kernel
theorem dX11_init_260 : decode cX11_init 260 = .ok (.newarray .boolean, 2) := by decide +kernel
theorem dX11_init_262 : decode cX11_init 262 = .ok (.putfield 98, 3) := by decide +kernel
theorem dX11_init_265 : decode cX11_init 265 = .ok (.aload_n 0, 1) := by decide +kernel
theorem dX11_init_266 : decode cX11_init 266 = .ok (.sipush 1000, 3) := by decide +kernel
theorem dX11_init_269 : decode cX11_init 269 = .ok (.putfield 101, 3) := by decide +kernel
theorem dX11_init_272 : decode cX11_init 272 = .ok (.aload_n 0, 1) := by decide +kernel
theorem dX11_init_273 : decode cX11_init 273 = .ok (.bipush 60, 2) := by decide +kernel
theorem dX11_init_275 : decode cX11_init 275 = .ok (.newarray .int, 2) := by decide +kernel
theorem dX11_init_277 : decode cX11_init 277 = .ok (.putfield 105, 3) := by decide +kernel
theorem dX11_init_280 : decode cX11_init 280 = .ok (.aload_n 0, 1) := by decide +kernel
theorem dX11_init_281 : decode cX11_init 281 = .ok (.bipush 10, 2) := by decide +kernel
theorem dX11_init_283 : decode cX11_init 283 = .ok (.newarray .int, 2) := by decide +kernel
theorem dX11_init_285 : decode cX11_init 285 = .ok (.putfield 108, 3) := by decide +kernel
theorem dX11_init_288 : decode cX11_init 288 = .ok (.aload_n 0, 1) := by decide +kernel
theorem dX11_init_289 : decode cX11_init 289 = .ok (.sipush 270, 3) := by decide +kernel
theorem dX11_init_292 : decode cX11_init 292 = .ok (.newarray .int, 2) := by decide +kernel
theorem dX11_init_294 : decode cX11_init 294 = .ok (.putfield 111, 3) := by decide +kernel
theorem dX11_init_297 : decode cX11_init 297 = .ok (.aload_n 0, 1) := by decide +kernel
theorem dX11_init_298 : decode cX11_init 298 = .ok (.sipush 270, 3) := by decide +kernel
theorem dX11_init_301 : decode cX11_init 301 = .ok (.newarray .int, 2) := by decide +kernel
theorem dX11_init_303 : decode cX11_init 303 = .ok (.putfield 114, 3) := by decide +kernel
theorem dX11_init_306 : decode cX11_init 306 = .ok (.aload_n 0, 1) := by decide +kernel
theorem dX11_init_307 : decode cX11_init 307 = .ok (.iconst 4, 1) := by decide +kernel
theorem dX11_init_308 : decode cX11_init 308 = .ok (.newarray .int, 2) := by decide +kernel
theorem dX11_init_310 : decode cX11_init 310 = .ok (.putfield 117, 3) := by decide +kernel
theorem dX11_init_313 : decode cX11_init 313 = .ok (.return_, 1) := by decide +kernel
theorem dX11_isBlock_0 : decode cX11_isBlock 0 = .ok (.iload_n 1, 1) := by decide +kernel
theorem dX11_isBlock_1 : decode cX11_isBlock 1 = .ok (.ifCond .lt 15, 3) := by decide +kernel
theorem dX11_isBlock_4 : decode cX11_isBlock 4 = .ok (.iload_n 1, 1) := by decide +kernel
theorem dX11_isBlock_5 : decode cX11_isBlock 5 = .ok (.aload_n 0, 1) := by decide +kernel
theorem dX11_isBlock_6 : decode cX11_isBlock 6 = .ok (.getfield 120, 3) := by decide +kernel
theorem dX11_isBlock_9 : decode cX11_isBlock 9 = .ok (.if_icmp .ge 7, 3) := by decide +kernel
theorem dX11_isBlock_12 : decode cX11_isBlock 12 = .ok (.iconst 1, 1) := by decide +kernel
theorem dX11_isBlock_13 : decode cX11_isBlock 13 = .ok (.goto 4, 3) := by decide +kernel
theorem dX11_isBlock_16 : decode cX11_isBlock 16 = .ok (.iconst 0, 1) := by decide +kernel
theorem dX11_isBlock_17 : decode cX11_isBlock 17 = .ok (.ireturn, 1) := by decide +kernel
theorem dX11_isVariable_0 : decode cX11_isVariable 0 = .ok (.iload_n 0, 1) := by decide +kernel
theorem dX11_isVariable_1 : decode cX11_isVariable 1 = .ok (.ifCond .lt 13, 3) := by decide +kernel
theorem dX11_isVariable_4 : decode cX11_isVariable 4 = .ok (.iload_n 0, 1) := by decide +kernel
theorem dX11_isVariable_5 : decode cX11_isVariable 5 = .ok (.bipush 10, 2) := by decide +kernel
theorem dX11_isVariable_7 : decode cX11_isVariable 7 = .ok (.if_icmp .ge 7, 3) := by decide +kernel
theorem dX11_isVariable_10 : decode cX11_isVariable 10 = .ok (.iconst 1, 1) := by decide +kernel
theorem dX11_isVariable_11 : decode cX11_isVariable 11 = .ok (.goto 4, 3) := by decide +kernel
theorem dX11_isVariable_14 : decode cX11_isVariable 14 = .ok (.iconst 0, 1) := by decide +kernel
theorem dX11_isVariable_15 : decode cX11_isVariable 15 = .ok (.ireturn, 1) := by decide +kernel
theorem dX11_block_0 : decode cX11_block 0 = .ok (.aload_n 0, 1) := by decide +kernel
theorem dX11_block_1 : decode cX11_block 1 = .ok (.getfield 120, 3) := by decide +kernel
theorem dX11_block_4 : decode cX11_block 4 = .ok (.bipush 16, 2) := by decide +kernel
theorem dX11_block_6 : decode cX11_block 6 = .ok (.if_icmp .ne 5, 3) := by decide +kernel
theorem dX11_block_9 : decode cX11_block 9 = .ok (.iconst (-1), 1) := by decide +kernel
theorem dX11_block_10 : decode cX11_block 10 = .ok (.ireturn, 1) := by decide +kernel
theorem dX11_block_11 : decode cX11_block 11 = .ok (.aload_n 0, 1) := by decide +kernel
theorem dX11_block_12 : decode cX11_block 12 = .ok (.getfield 22, 3) := by decide +kernel
theorem dX11_block_15 : decode cX11_block 15 = .ok (.aload_n 0, 1) := by decide +kernel
theorem dX11_block_16 : decode cX11_block 16 = .ok (.getfield 120, 3) := by decide +kernel
theorem dX11_block_19 : decode cX11_block 19 = .ok (.iconst 0, 1) := by decide +kernel
theorem dX11_block_20 : decode cX11_block 20 = .ok (.iastore, 1) := by decide +kernel
theorem dX11_block_21 : decode cX11_block 21 = .ok (.aload_n 0, 1) := by decide +kernel
theorem dX11_block_22 : decode cX11_block 22 = .ok (.getfield 25, 3) := by decide +kernel
theorem dX11_block_25 : decode cX11_block 25 = .ok (.aload_n 0, 1) := by decide +kernel
theorem dX11_block_26 : decode cX11_block 26 = .ok (.getfield 120, 3) := by decide +kernel
theorem dX11_block_29 : decode cX11_block 29 = .ok (.iconst 0, 1) := by decide +kernel
theorem dX11_block_30 : decode cX11_block 30 = .ok (.iastore, 1) := by decide +kernel
theorem dX11_block_31 : decode cX11_block 31 = .ok (.aload_n 0, 1) := by decide +kernel
theorem dX11_block_32 : decode cX11_block 32 = .ok (.getfield 28, 3) := by decide +kernel
theorem dX11_block_35 : decode cX11_block 35 = .ok (.aload_n 0, 1) := by decide +kernel
theorem dX11_block_36 : decode cX11_block 36 = .ok (.getfield 120, 3) := by decide +kernel
theorem dX11_block_39 : decode cX11_block 39 = .ok (.iconst 0, 1) := by decide +kernel
theorem dX11_block_40 : decode cX11_block 40 = .ok (.iastore, 1) := by decide +kernel
theorem dX11_block_41 : decode cX11_block 41 = .ok (.aload_n 0, 1) := by decide +kernel
theorem dX11_block_42 : decode cX11_block 42 = .ok (.dup, 1) := by decide +kernel
theorem dX11_block_43 : decode cX11_block 43 = .ok (.getfield 120, 3) := by decide +kernel
theorem dX11_block_46 : decode cX11_block 46 = .ok (.iconst 1, 1) := by decide +kernel
theorem dX11_block_47 : decode cX11_block 47 = .ok (.iadd, 1) := by decide +kernel
theorem dX11_block_48 : decode cX11_block 48 = .ok (.putfield 120, 3) := by decide +kernel
theorem dX11_block_51 : decode cX11_block 51 = .ok (.aload_n 0, 1) := by decide +kernel
theorem dX11_block_52 : decode cX11_block 52 = .ok (.iconst 0, 1) := by decide +kernel
theorem dX11_block_53 : decode cX11_block 53 = .ok (.putfield 123, 3) := by decide +kernel
theorem dX11_block_56 : decode cX11_block 56 = .ok (.aload_n 0, 1) := by decide +kernel
theorem dX11_block_57 : decode cX11_block 57 = .ok (.getfield 120, 3) := by decide +kernel
theorem dX11_block_60 : decode cX11_block 60 = .ok (.iconst 1, 1) := by decide +kernel
theorem dX11_block_61 : decode cX11_block 61 = .ok (.isub, 1) := by decide +kernel
theorem dX11_block_62 : decode cX11_block 62 = .ok (.ireturn, 1) := by decide +kernel
theorem dX11_put_0 : decode cX11_put 0 = .ok (.aload_n 0, 1) := by decide +kernel
theorem dX11_put_1 : decode cX11_put 1 = .ok (.iload_n 1, 1) := by decide +kernel
theorem dX11_put_2 : decode cX11_put 2 = .ok (.invokevirtual 127, 3) := by decide +kernel
theorem dX11_put_5 : decode cX11_put 5 = .ok (.ifCond .eq 29, 3) := by decide +kernel
theorem dX11_put_8 : decode cX11_put 8 = .ok (.iload_n 2, 1) := by decide +kernel
theorem dX11_put_9 : decode cX11_put 9 = .ok (.ifCond .lt 25, 3) := by decide +kernel
theorem dX11_put_12 : decode cX11_put 12 = .ok (.iload_n 2, 1) := by decide +kernel
theorem dX11_put_13 : decode cX11_put 13 = .ok (.bipush 14, 2) := by decide +kernel
theorem dX11_put_15 : decode cX11_put 15 = .ok (.if_icmp .gt 19, 3) := by decide +kernel
theorem dX11_put_18 : decode cX11_put 18 = .ok (.aload_n 0, 1) := by decide +kernel
theorem dX11_put_19 : decode cX11_put 19 = .ok (.getfield 131, 3) := by decide +kernel
theorem dX11_put_22 : decode cX11_put 22 = .ok (.bipush 100, 2) := by decide +kernel
theorem dX11_put_24 : decode cX11_put 24 = .ok (.if_icmp .eq 10, 3) := by decide +kernel
theorem dX11_put_27 : decode cX11_put 27 = .ok (.iload_n 3, 1) := by decide +kernel
theorem dX11_put_28 : decode cX11_put 28 = .ok (.invokestatic 134, 3) := by decide +kernel
theorem dX11_put_31 : decode cX11_put 31 = .ok (.ifCond .ne 5, 3) := by decide +kernel
theorem dX11_put_34 : decode cX11_put 34 = .ok (.iconst (-1), 1) := by decide +kernel
theorem dX11_put_35 : decode cX11_put 35 = .ok (.ireturn, 1) := by decide +kernel
theorem dX11_put_36 : decode cX11_put 36 = .ok (.iload_n 2, 1) := by decide +kernel
theorem dX11_put_37 : decode cX11_put 37 = .ok (.iconst 1, 1) := by decide +kernel
theorem dX11_put_38 : decode cX11_put 38 = .ok (.if_icmp .ne 14, 3) := by decide +kernel
theorem dX11_put_41 : decode cX11_put 41 = .ok (.iload 4, 2) := by decide +kernel
theorem dX11_put_43 : decode cX11_put 43 = .ok (.ifCond .lt 49, 3) := by decide +kernel
theorem dX11_put_46 : decode cX11_put 46 = .ok (.iload 4, 2) := by decide +kernel
theorem dX11_put_48 : decode cX11_put 48 = .ok (.iconst 3, 1) := by decide +kernel
theorem dX11_put_49 : decode cX11_put 49 = .ok (.if_icmp .gt 43, 3) := by decide +kernel
theorem dX11_put_52 : decode cX11_put 52 = .ok (.iload_n 2, 1) := by decide +kernel
theorem dX11_put_53 : decode cX11_put 53 = .ok (.iconst 2, 1) := by decide +kernel
theorem dX11_put_54 : decode cX11_put 54 = .ok (.if_icmp .ne 11, 3) := by decide +kernel
theorem dX11_put_57 : decode cX11_put 57 = .ok (.iload 4, 2) := by decide +kernel
theorem dX11_put_59 : decode cX11_put 59 = .ok (.invokestatic 134, 3) := by decide +kernel
theorem dX11_put_62 : decode cX11_put 62 = .ok (.ifCond .eq 30, 3) := by decide +kernel
theorem dX11_put_65 : decode cX11_put 65 = .ok (.iload_n 2, 1) := by decide +kernel
theorem dX11_put_66 : decode cX11_put 66 = .ok (.iconst 3, 1) := by decide +kernel
theorem dX11_put_67 : decode cX11_put 67 = .ok (.if_icmp .lt 27, 3) := by decide +kernel
theorem dX11_put_70 : decode cX11_put 70 = .ok (.iload_n 2, 1) := by decide +kernel
theorem dX11_put_71 : decode cX11_put 71 = .ok (.bipush 14, 2) := by decide +kernel
theorem dX11_put_73 : decode cX11_put 73 = .ok (.if_icmp .ge 21, 3) := by decide +kernel
theorem dX11_put_76 : decode cX11_put 76 = .ok (.iload 4, 2) := by decide +kernel
theorem dX11_put_78 : decode cX11_put 78 = .ok (.invokestatic 134, 3) := by decide +kernel
theorem dX11_put_81 : decode cX11_put 81 = .ok (.ifCond .eq 11, 3) := by decide +kernel
theorem dX11_put_84 : decode cX11_put 84 = .ok (.iload 5, 2) := by decide +kernel
theorem dX11_put_86 : decode cX11_put 86 = .ok (.invokestatic 134, 3) := by decide +kernel
theorem dX11_put_89 : decode cX11_put 89 = .ok (.ifCond .ne 5, 3) := by decide +kernel
theorem dX11_put_92 : decode cX11_put 92 = .ok (.iconst (-1), 1) := by decide +kernel
theorem dX11_put_93 : decode cX11_put 93 = .ok (.ireturn, 1) := by decide +kernel
theorem dX11_put_94 : decode cX11_put 94 = .ok (.bipush 100, 2) := by decide +kernel
theorem dX11_put_96 : decode cX11_put 96 = .ok (.iload_n 1, 1) := by decide +kernel
theorem dX11_put_97 : decode cX11_put 97 = .ok (.imul, 1) := by decide +kernel
theorem dX11_put_98 : decode cX11_put 98 = .ok (.aload_n 0, 1) := by decide +kernel
theorem dX11_put_99 : decode cX11_put 99 = .ok (.getfield 22, 3) := by decide +kernel
theorem dX11_put_102 : decode cX11_put 102 = .ok (.iload_n 1, 1) := by decide +kernel
theorem dX11_put_103 : decode cX11_put 103 = .ok (.iaload, 1) := by decide +kernel
theorem dX11_put_104 : decode cX11_put 104 = .ok (.iadd, 1) := by decide +kernel
theorem dX11_put_105 : decode cX11_put 105 = .ok (.istore 6, 2) := by decide +kernel
theorem dX11_put_107 : decode cX11_put 107 = .ok (.aload_n 0, 1) := by decide +kernel
theorem dX11_put_108 : decode cX11_put 108 = .ok (.getfield 7, 3) := by decide +kernel
theorem dX11_put_111 : decode cX11_put 111 = .ok (.iload 6, 2) := by decide +kernel
theorem dX11_put_113 : decode cX11_put 113 = .ok (.iload_n 2, 1) := by decide +kernel
theorem dX11_put_114 : decode cX11_put 114 = .ok (.iastore, 1) := by decide +kernel
theorem dX11_put_115 : decode cX11_put 115 = .ok (.aload_n 0, 1) := by decide +kernel
theorem dX11_put_116 : decode cX11_put 116 = .ok (.getfield 13, 3) := by decide +kernel
theorem dX11_put_119 : decode cX11_put 119 = .ok (.iload 6, 2) := by decide +kernel
theorem dX11_put_121 : decode cX11_put 121 = .ok (.iload_n 3, 1) := by decide +kernel
theorem dX11_put_122 : decode cX11_put 122 = .ok (.iastore, 1) := by decide +kernel
theorem dX11_put_123 : decode cX11_put 123 = .ok (.aload_n 0, 1) := by decide +kernel
theorem dX11_put_124 : decode cX11_put 124 = .ok (.getfield 16, 3) := by decide +kernel
theorem dX11_put_127 : decode cX11_put 127 = .ok (.iload 6, 2) := by decide +kernel
theorem dX11_put_129 : decode cX11_put 129 = .ok (.iload 4, 2) := by decide +kernel
theorem dX11_put_131 : decode cX11_put 131 = .ok (.iastore, 1) := by decide +kernel
theorem dX11_put_132 : decode cX11_put 132 = .ok (.aload_n 0, 1) := by decide +kernel
theorem dX11_put_133 : decode cX11_put 133 = .ok (.getfield 19, 3) := by decide +kernel
theorem dX11_put_136 : decode cX11_put 136 = .ok (.iload 6, 2) := by decide +kernel
theorem dX11_put_138 : decode cX11_put 138 = .ok (.iload 5, 2) := by decide +kernel
theorem dX11_put_140 : decode cX11_put 140 = .ok (.iastore, 1) := by decide +kernel
theorem dX11_put_141 : decode cX11_put 141 = .ok (.aload_n 0, 1) := by decide +kernel
theorem dX11_put_142 : decode cX11_put 142 = .ok (.getfield 22, 3) := by decide +kernel
theorem dX11_put_145 : decode cX11_put 145 = .ok (.iload_n 1, 1) := by decide +kernel
theorem dX11_put_146 : decode cX11_put 146 = .ok (.dup2, 1) := by decide +kernel
theorem dX11_put_147 : decode cX11_put 147 = .ok (.iaload, 1) := by decide +kernel
theorem dX11_put_148 : decode cX11_put 148 = .ok (.iconst 1, 1) := by decide +kernel
theorem dX11_put_149 : decode cX11_put 149 = .ok (.iadd, 1) := by decide +kernel
theorem dX11_put_150 : decode cX11_put 150 = .ok (.iastore, 1) := by decide +kernel
theorem dX11_put_151 : decode cX11_put 151 = .ok (.aload_n 0, 1) := by decide +kernel
theorem dX11_put_152 : decode cX11_put 152 = .ok (.dup, 1) := by decide +kernel
theorem dX11_put_153 : decode cX11_put 153 = .ok (.getfield 131, 3) := by decide +kernel
theorem dX11_put_156 : decode cX11_put 156 = .ok (.iconst 1, 1) := by decide +kernel
theorem dX11_put_157 : decode cX11_put 157 = .ok (.iadd, 1) := by decide +kernel
theorem dX11_put_158 : decode cX11_put 158 = .ok (.putfield 131, 3) := by decide +kernel
theorem dX11_put_161 : decode cX11_put 161 = .ok (.aload_n 0, 1) := by decide +kernel
theorem dX11_put_162 : decode cX11_put 162 = .ok (.iconst 0, 1) := by decide +kernel
theorem dX11_put_163 : decode cX11_put 163 = .ok (.putfield 123, 3) := by decide +kernel
theorem dX11_put_166 : decode cX11_put 166 = .ok (.aload_n 0, 1) := by decide +kernel
theorem dX11_put_167 : decode cX11_put 167 = .ok (.getfield 131, 3) := by decide +kernel
theorem dX11_put_170 : decode cX11_put 170 = .ok (.ireturn, 1) := by decide +kernel
theorem dX11_ends_0 : decode cX11_ends 0 = .ok (.aload_n 0, 1) := by decide +kernel
theorem dX11_ends_1 : decode cX11_ends 1 = .ok (.iload_n 1, 1) := by decide +kernel
theorem dX11_ends_2 : decode cX11_ends 2 = .ok (.invokevirtual 127, 3) := by decide +kernel
theorem dX11_ends_5 : decode cX11_ends 5 = .ok (.ifCond .eq 57, 3) := by decide +kernel
theorem dX11_ends_8 : decode cX11_ends 8 = .ok (.iload_n 2, 1) := by decide +kernel
theorem dX11_ends_9 : decode cX11_ends 9 = .ok (.ifCond .lt 53, 3) := by decide +kernel
theorem dX11_ends_12 : decode cX11_ends 12 = .ok (.iload_n 2, 1) := by decide +kernel
theorem dX11_ends_13 : decode cX11_ends 13 = .ok (.iconst 2, 1) := by decide +kernel
theorem dX11_ends_14 : decode cX11_ends 14 = .ok (.if_icmp .gt 48, 3) := by decide +kernel
theorem dX11_ends_17 : decode cX11_ends 17 = .ok (.iload_n 2, 1) := by decide +kernel
theorem dX11_ends_18 : decode cX11_ends 18 = .ok (.iconst 1, 1) := by decide +kernel
theorem dX11_ends_19 : decode cX11_ends 19 = .ok (.if_icmp .eq 10, 3) := by decide +kernel
theorem dX11_ends_22 : decode cX11_ends 22 = .ok (.iload_n 3, 1) := by decide +kernel
theorem dX11_ends_23 : decode cX11_ends 23 = .ok (.invokestatic 134, 3) := by decide +kernel
theorem dX11_ends_26 : decode cX11_ends 26 = .ok (.ifCond .eq 36, 3) := by decide +kernel
theorem dX11_ends_29 : decode cX11_ends 29 = .ok (.iload_n 2, 1) := by decide +kernel
theorem dX11_ends_30 : decode cX11_ends 30 = .ok (.ifCond .le 15, 3) := by decide +kernel
theorem dX11_ends_33 : decode cX11_ends 33 = .ok (.iload 4, 2) := by decide +kernel
theorem dX11_ends_35 : decode cX11_ends 35 = .ok (.ifCond .lt 27, 3) := by decide +kernel
theorem dX11_ends_38 : decode cX11_ends 38 = .ok (.iload 4, 2) := by decide +kernel
theorem dX11_ends_40 : decode cX11_ends 40 = .ok (.bipush 16, 2) := by decide +kernel
theorem dX11_ends_42 : decode cX11_ends 42 = .ok (.if_icmp .ge 20, 3) := by decide +kernel
theorem dX11_ends_45 : decode cX11_ends 45 = .ok (.iload_n 2, 1) := by decide +kernel
theorem dX11_ends_46 : decode cX11_ends 46 = .ok (.iconst 2, 1) := by decide +kernel
theorem dX11_ends_47 : decode cX11_ends 47 = .ok (.if_icmp .ne 17, 3) := by decide +kernel
theorem dX11_ends_50 : decode cX11_ends 50 = .ok (.iload 5, 2) := by decide +kernel
theorem dX11_ends_52 : decode cX11_ends 52 = .ok (.ifCond .lt 10, 3) := by decide +kernel
theorem dX11_ends_55 : decode cX11_ends 55 = .ok (.iload 5, 2) := by decide +kernel
theorem dX11_ends_57 : decode cX11_ends 57 = .ok (.bipush 16, 2) := by decide +kernel
theorem dX11_ends_59 : decode cX11_ends 59 = .ok (.if_icmp .lt 5, 3) := by decide +kernel
theorem dX11_ends_62 : decode cX11_ends 62 = .ok (.iconst 0, 1) := by decide +kernel
theorem dX11_ends_63 : decode cX11_ends 63 = .ok (.ireturn, 1) := by decide +kernel
theorem dX11_ends_64 : decode cX11_ends 64 = .ok (.aload_n 0, 1) := by decide +kernel
theorem dX11_ends_65 : decode cX11_ends 65 = .ok (.getfield 25, 3) := by decide +kernel
theorem dX11_ends_68 : decode cX11_ends 68 = .ok (.iload_n 1, 1) := by decide +kernel
theorem dX11_ends_69 : decode cX11_ends 69 = .ok (.iload_n 2, 1) := by decide +kernel
theorem dX11_ends_70 : decode cX11_ends 70 = .ok (.iastore, 1) := by decide +kernel
theorem dX11_ends_71 : decode cX11_ends 71 = .ok (.aload_n 0, 1) := by decide +kernel
theorem dX11_ends_72 : decode cX11_ends 72 = .ok (.getfield 28, 3) := by decide +kernel
theorem dX11_ends_75 : decode cX11_ends 75 = .ok (.iload_n 1, 1) := by decide +kernel
theorem dX11_ends_76 : decode cX11_ends 76 = .ok (.iload_n 3, 1) := by decide +kernel
theorem dX11_ends_77 : decode cX11_ends 77 = .ok (.iastore, 1) := by decide +kernel
theorem dX11_ends_78 : decode cX11_ends 78 = .ok (.aload_n 0, 1) := by decide +kernel
theorem dX11_ends_79 : decode cX11_ends 79 = .ok (.getfield 31, 3) := by decide +kernel
theorem dX11_ends_82 : decode cX11_ends 82 = .ok (.iload_n 1, 1) := by decide +kernel
theorem dX11_ends_83 : decode cX11_ends 83 = .ok (.iload 4, 2) := by decide +kernel
theorem dX11_ends_85 : decode cX11_ends 85 = .ok (.iastore, 1) := by decide +kernel
theorem dX11_ends_86 : decode cX11_ends 86 = .ok (.aload_n 0, 1) := by decide +kernel
theorem dX11_ends_87 : decode cX11_ends 87 = .ok (.getfield 34, 3) := by decide +kernel
theorem dX11_ends_90 : decode cX11_ends 90 = .ok (.iload_n 1, 1) := by decide +kernel
theorem dX11_ends_91 : decode cX11_ends 91 = .ok (.iload 5, 2) := by decide +kernel
theorem dX11_ends_93 : decode cX11_ends 93 = .ok (.iastore, 1) := by decide +kernel
theorem dX11_ends_94 : decode cX11_ends 94 = .ok (.aload_n 0, 1) := by decide +kernel
theorem dX11_ends_95 : decode cX11_ends 95 = .ok (.iconst 0, 1) := by decide +kernel
theorem dX11_ends_96 : decode cX11_ends 96 = .ok (.putfield 123, 3) := by decide +kernel
theorem dX11_ends_99 : decode cX11_ends 99 = .ok (.iconst 1, 1) := by decide +kernel
theorem dX11_ends_100 : decode cX11_ends 100 = .ok (.ireturn, 1) := by decide +kernel
theorem dX11_clear_0 : decode cX11_clear 0 = .ok (.aload_n 0, 1) := by decide +kernel
theorem dX11_clear_1 : decode cX11_clear 1 = .ok (.getfield 120, 3) := by decide +kernel
theorem dX11_clear_4 : decode cX11_clear 4 = .ok (.istore_n 1, 1) := by decide +kernel
theorem dX11_clear_5 : decode cX11_clear 5 = .ok (.aload_n 0, 1) := by decide +kernel
theorem dX11_clear_6 : decode cX11_clear 6 = .ok (.iconst 0, 1) := by decide +kernel
theorem dX11_clear_7 : decode cX11_clear 7 = .ok (.putfield 120, 3) := by decide +kernel
theorem dX11_clear_10 : decode cX11_clear 10 = .ok (.aload_n 0, 1) := by decide +kernel
theorem dX11_clear_11 : decode cX11_clear 11 = .ok (.iconst 0, 1) := by decide +kernel
theorem dX11_clear_12 : decode cX11_clear 12 = .ok (.putfield 131, 3) := by decide +kernel
theorem dX11_clear_15 : decode cX11_clear 15 = .ok (.aload_n 0, 1) := by decide +kernel
theorem dX11_clear_16 : decode cX11_clear 16 = .ok (.iconst 0, 1) := by decide +kernel
theorem dX11_clear_17 : decode cX11_clear 17 = .ok (.putfield 123, 3) := by decide +kernel
theorem dX11_clear_20 : decode cX11_clear 20 = .ok (.iload_n 1, 1) := by decide +kernel
theorem dX11_clear_21 : decode cX11_clear 21 = .ok (.ireturn, 1) := by decide +kernel
theorem dX11_howOf_0 : decode cX11_howOf 0 = .ok (.aload_n 0, 1) := by decide +kernel
theorem dX11_howOf_1 : decode cX11_howOf 1 = .ok (.getfield 25, 3) := by decide +kernel
theorem dX11_howOf_4 : decode cX11_howOf 4 = .ok (.iload_n 1, 1) := by decide +kernel
theorem dX11_howOf_5 : decode cX11_howOf 5 = .ok (.iaload, 1) := by decide +kernel
theorem dX11_howOf_6 : decode cX11_howOf 6 = .ok (.iconst 1, 1) := by decide +kernel
theorem dX11_howOf_7 : decode cX11_howOf 7 = .ok (.if_icmp .ne 16, 3) := by decide +kernel
theorem dX11_howOf_10 : decode cX11_howOf 10 = .ok (.aload_n 0, 1) := by decide +kernel
theorem dX11_howOf_11 : decode cX11_howOf 11 = .ok (.getfield 31, 3) := by decide +kernel
theorem dX11_howOf_14 : decode cX11_howOf 14 = .ok (.iload_n 1, 1) := by decide +kernel
theorem dX11_howOf_15 : decode cX11_howOf 15 = .ok (.iaload, 1) := by decide +kernel
theorem dX11_howOf_16 : decode cX11_howOf 16 = .ok (.aload_n 0, 1) := by decide +kernel
theorem dX11_howOf_17 : decode cX11_howOf 17 = .ok (.getfield 120, 3) := by decide +kernel
theorem dX11_howOf_20 : decode cX11_howOf 20 = .ok (.if_icmp .ge 39, 3) := by decide +kernel
theorem dX11_howOf_23 : decode cX11_howOf 23 = .ok (.aload_n 0, 1) := by decide +kernel
theorem dX11_howOf_24 : decode cX11_howOf 24 = .ok (.getfield 25, 3) := by decide +kernel
theorem dX11_howOf_27 : decode cX11_howOf 27 = .ok (.iload_n 1, 1) := by decide +kernel
theorem dX11_howOf_28 : decode cX11_howOf 28 = .ok (.iaload, 1) := by decide +kernel
theorem dX11_howOf_29 : decode cX11_howOf 29 = .ok (.iconst 2, 1) := by decide +kernel
theorem dX11_howOf_30 : decode cX11_howOf 30 = .ok (.if_icmp .ne 33, 3) := by decide +kernel
theorem dX11_howOf_33 : decode cX11_howOf 33 = .ok (.aload_n 0, 1) := by decide +kernel
theorem dX11_howOf_34 : decode cX11_howOf 34 = .ok (.getfield 31, 3) := by decide +kernel
theorem dX11_howOf_37 : decode cX11_howOf 37 = .ok (.iload_n 1, 1) := by decide +kernel
theorem dX11_howOf_38 : decode cX11_howOf 38 = .ok (.iaload, 1) := by decide +kernel
theorem dX11_howOf_39 : decode cX11_howOf 39 = .ok (.aload_n 0, 1) := by decide +kernel
theorem dX11_howOf_40 : decode cX11_howOf 40 = .ok (.getfield 120, 3) := by decide +kernel
theorem dX11_howOf_43 : decode cX11_howOf 43 = .ok (.if_icmp .ge 16, 3) := by decide +kernel
theorem dX11_howOf_46 : decode cX11_howOf 46 = .ok (.aload_n 0, 1) := by decide +kernel
theorem dX11_howOf_47 : decode cX11_howOf 47 = .ok (.getfield 34, 3) := by decide +kernel
theorem dX11_howOf_50 : decode cX11_howOf 50 = .ok (.iload_n 1, 1) := by decide +kernel
theorem dX11_howOf_51 : decode cX11_howOf 51 = .ok (.iaload, 1) := by decide +kernel
theorem dX11_howOf_52 : decode cX11_howOf 52 = .ok (.aload_n 0, 1) := by decide +kernel
theorem dX11_howOf_53 : decode cX11_howOf 53 = .ok (.getfield 120, 3) := by decide +kernel
theorem dX11_howOf_56 : decode cX11_howOf 56 = .ok (.if_icmp .lt 7, 3) := by decide +kernel
theorem dX11_howOf_59 : decode cX11_howOf 59 = .ok (.iconst 0, 1) := by decide +kernel
theorem dX11_howOf_60 : decode cX11_howOf 60 = .ok (.goto 9, 3) := by decide +kernel
theorem dX11_howOf_63 : decode cX11_howOf 63 = .ok (.aload_n 0, 1) := by decide +kernel
theorem dX11_howOf_64 : decode cX11_howOf 64 = .ok (.getfield 25, 3) := by decide +kernel
theorem dX11_howOf_67 : decode cX11_howOf 67 = .ok (.iload_n 1, 1) := by decide +kernel
theorem dX11_howOf_68 : decode cX11_howOf 68 = .ok (.iaload, 1) := by decide +kernel
theorem dX11_howOf_69 : decode cX11_howOf 69 = .ok (.ireturn, 1) := by decide +kernel
theorem dX11_yOf_0 : decode cX11_yOf 0 = .ok (.aload_n 0, 1) := by decide +kernel
theorem dX11_yOf_1 : decode cX11_yOf 1 = .ok (.iload_n 1, 1) := by decide +kernel
theorem dX11_yOf_2 : decode cX11_yOf 2 = .ok (.invokevirtual 137, 3) := by decide +kernel
theorem dX11_yOf_5 : decode cX11_yOf 5 = .ok (.aload_n 0, 1) := by decide +kernel
theorem dX11_yOf_6 : decode cX11_yOf 6 = .ok (.getfield 25, 3) := by decide +kernel
theorem dX11_yOf_9 : decode cX11_yOf 9 = .ok (.iload_n 1, 1) := by decide +kernel
theorem dX11_yOf_10 : decode cX11_yOf 10 = .ok (.iaload, 1) := by decide +kernel
theorem dX11_yOf_11 : decode cX11_yOf 11 = .ok (.if_icmp .ne 12, 3) := by decide +kernel
theorem dX11_yOf_14 : decode cX11_yOf 14 = .ok (.aload_n 0, 1) := by decide +kernel
theorem dX11_yOf_15 : decode cX11_yOf 15 = .ok (.getfield 28, 3) := by decide +kernel
theorem dX11_yOf_18 : decode cX11_yOf 18 = .ok (.iload_n 1, 1) := by decide +kernel
theorem dX11_yOf_19 : decode cX11_yOf 19 = .ok (.iaload, 1) := by decide +kernel
theorem dX11_yOf_20 : decode cX11_yOf 20 = .ok (.goto 4, 3) := by decide +kernel
theorem dX11_yOf_23 : decode cX11_yOf 23 = .ok (.iconst 0, 1) := by decide +kernel
theorem dX11_yOf_24 : decode cX11_yOf 24 = .ok (.ireturn, 1) := by decide +kernel
theorem dX11_leads_0 : decode cX11_leads 0 = .ok (.aload_n 0, 1) := by decide +kernel
theorem dX11_leads_1 : decode cX11_leads 1 = .ok (.iload_n 1, 1) := by decide +kernel
theorem dX11_leads_2 : decode cX11_leads 2 = .ok (.invokevirtual 137, 3) := by decide +kernel
theorem dX11_leads_5 : decode cX11_leads 5 = .ok (.istore_n 3, 1) := by decide +kernel
theorem dX11_leads_6 : decode cX11_leads 6 = .ok (.iload_n 3, 1) := by decide +kernel
theorem dX11_leads_7 : decode cX11_leads 7 = .ok (.ifCond .le 13, 3) := by decide +kernel
theorem dX11_leads_10 : decode cX11_leads 10 = .ok (.aload_n 0, 1) := by decide +kernel
theorem dX11_leads_11 : decode cX11_leads 11 = .ok (.getfield 31, 3) := by decide +kernel
theorem dX11_leads_14 : decode cX11_leads 14 = .ok (.iload_n 1, 1) := by decide +kernel
theorem dX11_leads_15 : decode cX11_leads 15 = .ok (.iaload, 1) := by decide +kernel
theorem dX11_leads_16 : decode cX11_leads 16 = .ok (.iload_n 2, 1) := by decide +kernel
theorem dX11_leads_17 : decode cX11_leads 17 = .ok (.if_icmp .eq 18, 3) := by decide +kernel
theorem dX11_leads_20 : decode cX11_leads 20 = .ok (.iload_n 3, 1) := by decide +kernel
theorem dX11_leads_21 : decode cX11_leads 21 = .ok (.iconst 2, 1) := by decide +kernel
theorem dX11_leads_22 : decode cX11_leads 22 = .ok (.if_icmp .ne 17, 3) := by decide +kernel
theorem dX11_leads_25 : decode cX11_leads 25 = .ok (.aload_n 0, 1) := by decide +kernel
theorem dX11_leads_26 : decode cX11_leads 26 = .ok (.getfield 34, 3) := by decide +kernel
theorem dX11_leads_29 : decode cX11_leads 29 = .ok (.iload_n 1, 1) := by decide +kernel
theorem dX11_leads_30 : decode cX11_leads 30 = .ok (.iaload, 1) := by decide +kernel
theorem dX11_leads_31 : decode cX11_leads 31 = .ok (.iload_n 2, 1) := by decide +kernel
theorem dX11_leads_32 : decode cX11_leads 32 = .ok (.if_icmp .ne 7, 3) := by decide +kernel
theorem dX11_leads_35 : decode cX11_leads 35 = .ok (.iconst 1, 1) := by decide +kernel
theorem dX11_leads_36 : decode cX11_leads 36 = .ok (.goto 4, 3) := by decide +kernel
theorem dX11_leads_39 : decode cX11_leads 39 = .ok (.iconst 0, 1) := by decide +kernel
theorem dX11_leads_40 : decode cX11_leads 40 = .ok (.ireturn, 1) := by decide +kernel
theorem dX11_meet_0 : decode cX11_meet 0 = .ok (.iconst 0, 1) := by decide +kernel
theorem dX11_meet_1 : decode cX11_meet 1 = .ok (.istore_n 2, 1) := by decide +kernel
theorem dX11_meet_2 : decode cX11_meet 2 = .ok (.iload_n 2, 1) := by decide +kernel
theorem dX11_meet_3 : decode cX11_meet 3 = .ok (.aload_n 0, 1) := by decide +kernel
theorem dX11_meet_4 : decode cX11_meet 4 = .ok (.getfield 120, 3) := by decide +kernel
theorem dX11_meet_7 : decode cX11_meet 7 = .ok (.if_icmp .ge 28, 3) := by decide +kernel
theorem dX11_meet_10 : decode cX11_meet 10 = .ok (.aload_n 0, 1) := by decide +kernel
theorem dX11_meet_11 : decode cX11_meet 11 = .ok (.getfield 41, 3) := by decide +kernel
theorem dX11_meet_14 : decode cX11_meet 14 = .ok (.iload_n 2, 1) := by decide +kernel
theorem dX11_meet_15 : decode cX11_meet 15 = .ok (.iload_n 2, 1) := by decide +kernel
theorem dX11_meet_16 : decode cX11_meet 16 = .ok (.ifCond .ne 11, 3) := by decide +kernel
theorem dX11_meet_19 : decode cX11_meet 19 = .ok (.iload_n 1, 1) := by decide +kernel
theorem dX11_meet_20 : decode cX11_meet 20 = .ok (.ifCond .eq 7, 3) := by decide +kernel
theorem dX11_meet_23 : decode cX11_meet 23 = .ok (.iconst 1, 1) := by decide +kernel
theorem dX11_meet_24 : decode cX11_meet 24 = .ok (.goto 4, 3) := by decide +kernel
theorem dX11_meet_27 : decode cX11_meet 27 = .ok (.iconst 0, 1) := by decide +kernel
theorem dX11_meet_28 : decode cX11_meet 28 = .ok (.bastore, 1) := by decide +kernel
theorem dX11_meet_29 : decode cX11_meet 29 = .ok (.iinc 2 1, 3) := by decide +kernel
theorem dX11_meet_32 : decode cX11_meet 32 = .ok (.goto (-30), 3) := by decide +kernel
theorem dX11_meet_35 : decode cX11_meet 35 = .ok (.iconst 1, 1) := by decide +kernel
theorem dX11_meet_36 : decode cX11_meet 36 = .ok (.istore_n 2, 1) := by decide +kernel
theorem dX11_meet_37 : decode cX11_meet 37 = .ok (.iload_n 2, 1) := by decide +kernel
theorem dX11_meet_38 : decode cX11_meet 38 = .ok (.ifCond .eq 90, 3) := by decide +kernel
theorem dX11_meet_41 : decode cX11_meet 41 = .ok (.iconst 0, 1) := by decide +kernel
theorem dX11_meet_42 : decode cX11_meet 42 = .ok (.istore_n 2, 1) := by decide +kernel
theorem dX11_meet_43 : decode cX11_meet 43 = .ok (.iconst 0, 1) := by decide +kernel
theorem dX11_meet_44 : decode cX11_meet 44 = .ok (.istore_n 3, 1) := by decide +kernel
theorem dX11_meet_45 : decode cX11_meet 45 = .ok (.iload_n 3, 1) := by decide +kernel
theorem dX11_meet_46 : decode cX11_meet 46 = .ok (.aload_n 0, 1) := by decide +kernel
theorem dX11_meet_47 : decode cX11_meet 47 = .ok (.getfield 120, 3) := by decide +kernel
theorem dX11_meet_50 : decode cX11_meet 50 = .ok (.if_icmp .ge 75, 3) := by decide +kernel
theorem dX11_meet_53 : decode cX11_meet 53 = .ok (.iconst 0, 1) := by decide +kernel
theorem dX11_meet_54 : decode cX11_meet 54 = .ok (.istore 4, 2) := by decide +kernel
theorem dX11_meet_56 : decode cX11_meet 56 = .ok (.iload 4, 2) := by decide +kernel
theorem dX11_meet_58 : decode cX11_meet 58 = .ok (.aload_n 0, 1) := by decide +kernel
theorem dX11_meet_59 : decode cX11_meet 59 = .ok (.getfield 120, 3) := by decide +kernel
theorem dX11_meet_62 : decode cX11_meet 62 = .ok (.if_icmp .ge 57, 3) := by decide +kernel
theorem dX11_meet_65 : decode cX11_meet 65 = .ok (.aload_n 0, 1) := by decide +kernel
theorem dX11_meet_66 : decode cX11_meet 66 = .ok (.getfield 41, 3) := by decide +kernel
theorem dX11_meet_69 : decode cX11_meet 69 = .ok (.iload_n 3, 1) := by decide +kernel
theorem dX11_meet_70 : decode cX11_meet 70 = .ok (.baload, 1) := by decide +kernel
theorem dX11_meet_71 : decode cX11_meet 71 = .ok (.ifCond .eq 42, 3) := by decide +kernel
theorem dX11_meet_74 : decode cX11_meet 74 = .ok (.aload_n 0, 1) := by decide +kernel
theorem dX11_meet_75 : decode cX11_meet 75 = .ok (.getfield 41, 3) := by decide +kernel
theorem dX11_meet_78 : decode cX11_meet 78 = .ok (.iload 4, 2) := by decide +kernel
theorem dX11_meet_80 : decode cX11_meet 80 = .ok (.baload, 1) := by decide +kernel
theorem dX11_meet_81 : decode cX11_meet 81 = .ok (.ifCond .ne 32, 3) := by decide +kernel
theorem dX11_meet_84 : decode cX11_meet 84 = .ok (.iload 4, 2) := by decide +kernel
theorem dX11_meet_86 : decode cX11_meet 86 = .ok (.iload_n 1, 1) := by decide +kernel
theorem dX11_meet_87 : decode cX11_meet 87 = .ok (.if_icmp .eq 26, 3) := by decide +kernel
theorem dX11_meet_90 : decode cX11_meet 90 = .ok (.aload_n 0, 1) := by decide +kernel
theorem dX11_meet_91 : decode cX11_meet 91 = .ok (.iload_n 3, 1) := by decide +kernel
theorem dX11_meet_92 : decode cX11_meet 92 = .ok (.iload 4, 2) := by decide +kernel
theorem dX11_meet_94 : decode cX11_meet 94 = .ok (.invokevirtual 141, 3) := by decide +kernel
theorem dX11_meet_97 : decode cX11_meet 97 = .ok (.ifCond .ne 6, 3) := by decide +kernel
theorem dX11_meet_100 : decode cX11_meet 100 = .ok (.goto 13, 3) := by decide +kernel
theorem dX11_meet_103 : decode cX11_meet 103 = .ok (.aload_n 0, 1) := by decide +kernel
theorem dX11_meet_104 : decode cX11_meet 104 = .ok (.getfield 41, 3) := by decide +kernel
theorem dX11_meet_107 : decode cX11_meet 107 = .ok (.iload 4, 2) := by decide +kernel
theorem dX11_meet_109 : decode cX11_meet 109 = .ok (.iconst 1, 1) := by decide +kernel
theorem dX11_meet_110 : decode cX11_meet 110 = .ok (.bastore, 1) := by decide +kernel
theorem dX11_meet_111 : decode cX11_meet 111 = .ok (.iconst 1, 1) := by decide +kernel
theorem dX11_meet_112 : decode cX11_meet 112 = .ok (.istore_n 2, 1) := by decide +kernel
theorem dX11_meet_113 : decode cX11_meet 113 = .ok (.iinc 4 1, 3) := by decide +kernel
theorem dX11_meet_116 : decode cX11_meet 116 = .ok (.goto (-60), 3) := by decide +kernel
theorem dX11_meet_119 : decode cX11_meet 119 = .ok (.iinc 3 1, 3) := by decide +kernel
theorem dX11_meet_122 : decode cX11_meet 122 = .ok (.goto (-77), 3) := by decide +kernel
theorem dX11_meet_125 : decode cX11_meet 125 = .ok (.goto (-88), 3) := by decide +kernel
theorem dX11_meet_128 : decode cX11_meet 128 = .ok (.return_, 1) := by decide +kernel
theorem dX11_dominates1_0 : decode cX11_dominates1 0 = .ok (.aload_n 0, 1) := by decide +kernel
theorem dX11_dominates1_1 : decode cX11_dominates1 1 = .ok (.getfield 44, 3) := by decide +kernel
theorem dX11_dominates1_4 : decode cX11_dominates1 4 = .ok (.bipush 16, 2) := by decide +kernel
theorem dX11_dominates1_6 : decode cX11_dominates1 6 = .ok (.iload_n 1, 1) := by decide +kernel
theorem dX11_dominates1_7 : decode cX11_dominates1 7 = .ok (.imul, 1) := by decide +kernel
theorem dX11_dominates1_8 : decode cX11_dominates1 8 = .ok (.iload_n 2, 1) := by decide +kernel
theorem dX11_dominates1_9 : decode cX11_dominates1 9 = .ok (.iadd, 1) := by decide +kernel
theorem dX11_dominates1_10 : decode cX11_dominates1 10 = .ok (.baload, 1) := by decide +kernel
theorem dX11_dominates1_11 : decode cX11_dominates1 11 = .ok (.ireturn, 1) := by decide +kernel
theorem dX11_dominance_0 : decode cX11_dominance 0 = .ok (.aload_n 0, 1) := by decide +kernel
theorem dX11_dominance_1 : decode cX11_dominance 1 = .ok (.iconst (-1), 1) := by decide +kernel
theorem dX11_dominance_2 : decode cX11_dominance 2 = .ok (.invokevirtual 145, 3) := by decide +kernel
theorem dX11_dominance_5 : decode cX11_dominance 5 = .ok (.iconst 0, 1) := by decide +kernel
theorem dX11_dominance_6 : decode cX11_dominance 6 = .ok (.istore_n 1, 1) := by decide +kernel
theorem dX11_dominance_7 : decode cX11_dominance 7 = .ok (.iload_n 1, 1) := by decide +kernel
theorem dX11_dominance_8 : decode cX11_dominance 8 = .ok (.aload_n 0, 1) := by decide +kernel
theorem dX11_dominance_9 : decode cX11_dominance 9 = .ok (.getfield 120, 3) := by decide +kernel
theorem dX11_dominance_12 : decode cX11_dominance 12 = .ok (.if_icmp .ge 21, 3) := by decide +kernel
theorem dX11_dominance_15 : decode cX11_dominance 15 = .ok (.aload_n 0, 1) := by decide +kernel
theorem dX11_dominance_16 : decode cX11_dominance 16 = .ok (.getfield 37, 3) := by decide +kernel
theorem dX11_dominance_19 : decode cX11_dominance 19 = .ok (.iload_n 1, 1) := by decide +kernel
theorem dX11_dominance_20 : decode cX11_dominance 20 = .ok (.aload_n 0, 1) := by decide +kernel
theorem dX11_dominance_21 : decode cX11_dominance 21 = .ok (.getfield 41, 3) := by decide +kernel
theorem dX11_dominance_24 : decode cX11_dominance 24 = .ok (.iload_n 1, 1) := by decide +kernel
theorem dX11_dominance_25 : decode cX11_dominance 25 = .ok (.baload, 1) := by decide +kernel
theorem dX11_dominance_26 : decode cX11_dominance 26 = .ok (.bastore, 1) := by decide +kernel
theorem dX11_dominance_27 : decode cX11_dominance 27 = .ok (.iinc 1 1, 3) := by decide +kernel
theorem dX11_dominance_30 : decode cX11_dominance 30 = .ok (.goto (-23), 3) := by decide +kernel
theorem dX11_dominance_33 : decode cX11_dominance 33 = .ok (.iconst 0, 1) := by decide +kernel
theorem dX11_dominance_34 : decode cX11_dominance 34 = .ok (.istore_n 1, 1) := by decide +kernel
theorem dX11_dominance_35 : decode cX11_dominance 35 = .ok (.iload_n 1, 1) := by decide +kernel
theorem dX11_dominance_36 : decode cX11_dominance 36 = .ok (.aload_n 0, 1) := by decide +kernel
theorem dX11_dominance_37 : decode cX11_dominance 37 = .ok (.getfield 120, 3) := by decide +kernel
theorem dX11_dominance_40 : decode cX11_dominance 40 = .ok (.if_icmp .ge 78, 3) := by decide +kernel
theorem dX11_dominance_43 : decode cX11_dominance 43 = .ok (.aload_n 0, 1) := by decide +kernel
theorem dX11_dominance_44 : decode cX11_dominance 44 = .ok (.iload_n 1, 1) := by decide +kernel
theorem dX11_dominance_45 : decode cX11_dominance 45 = .ok (.invokevirtual 145, 3) := by decide +kernel
theorem dX11_dominance_48 : decode cX11_dominance 48 = .ok (.iconst 0, 1) := by decide +kernel
theorem dX11_dominance_49 : decode cX11_dominance 49 = .ok (.istore_n 2, 1) := by decide +kernel
theorem dX11_dominance_50 : decode cX11_dominance 50 = .ok (.iload_n 2, 1) := by decide +kernel
theorem dX11_dominance_51 : decode cX11_dominance 51 = .ok (.aload_n 0, 1) := by decide +kernel
theorem dX11_dominance_52 : decode cX11_dominance 52 = .ok (.getfield 120, 3) := by decide +kernel
theorem dX11_dominance_55 : decode cX11_dominance 55 = .ok (.if_icmp .ge 57, 3) := by decide +kernel
theorem dX11_dominance_58 : decode cX11_dominance 58 = .ok (.aload_n 0, 1) := by decide +kernel
theorem dX11_dominance_59 : decode cX11_dominance 59 = .ok (.getfield 44, 3) := by decide +kernel
theorem dX11_dominance_62 : decode cX11_dominance 62 = .ok (.bipush 16, 2) := by decide +kernel
theorem dX11_dominance_64 : decode cX11_dominance 64 = .ok (.iload_n 1, 1) := by decide +kernel
theorem dX11_dominance_65 : decode cX11_dominance 65 = .ok (.imul, 1) := by decide +kernel
theorem dX11_dominance_66 : decode cX11_dominance 66 = .ok (.iload_n 2, 1) := by decide +kernel
theorem dX11_dominance_67 : decode cX11_dominance 67 = .ok (.iadd, 1) := by decide +kernel
theorem dX11_dominance_68 : decode cX11_dominance 68 = .ok (.aload_n 0, 1) := by decide +kernel
theorem dX11_dominance_69 : decode cX11_dominance 69 = .ok (.getfield 37, 3) := by decide +kernel
theorem dX11_dominance_72 : decode cX11_dominance 72 = .ok (.iload_n 1, 1) := by decide +kernel
theorem dX11_dominance_73 : decode cX11_dominance 73 = .ok (.baload, 1) := by decide +kernel
theorem dX11_dominance_74 : decode cX11_dominance 74 = .ok (.ifCond .eq 30, 3) := by decide +kernel
theorem dX11_dominance_77 : decode cX11_dominance 77 = .ok (.aload_n 0, 1) := by decide +kernel
theorem dX11_dominance_78 : decode cX11_dominance 78 = .ok (.getfield 37, 3) := by decide +kernel
theorem dX11_dominance_81 : decode cX11_dominance 81 = .ok (.iload_n 2, 1) := by decide +kernel
theorem dX11_dominance_82 : decode cX11_dominance 82 = .ok (.baload, 1) := by decide +kernel
theorem dX11_dominance_83 : decode cX11_dominance 83 = .ok (.ifCond .eq 21, 3) := by decide +kernel
theorem dX11_dominance_86 : decode cX11_dominance 86 = .ok (.iload_n 1, 1) := by decide +kernel
theorem dX11_dominance_87 : decode cX11_dominance 87 = .ok (.iload_n 2, 1) := by decide +kernel
theorem dX11_dominance_88 : decode cX11_dominance 88 = .ok (.if_icmp .eq 12, 3) := by decide +kernel
theorem dX11_dominance_91 : decode cX11_dominance 91 = .ok (.aload_n 0, 1) := by decide +kernel
theorem dX11_dominance_92 : decode cX11_dominance 92 = .ok (.getfield 41, 3) := by decide +kernel
theorem dX11_dominance_95 : decode cX11_dominance 95 = .ok (.iload_n 2, 1) := by decide +kernel
theorem dX11_dominance_96 : decode cX11_dominance 96 = .ok (.baload, 1) := by decide +kernel
theorem dX11_dominance_97 : decode cX11_dominance 97 = .ok (.ifCond .ne 7, 3) := by decide +kernel
theorem dX11_dominance_100 : decode cX11_dominance 100 = .ok (.iconst 1, 1) := by decide +kernel
theorem dX11_dominance_101 : decode cX11_dominance 101 = .ok (.goto 4, 3) := by decide +kernel
theorem dX11_dominance_104 : decode cX11_dominance 104 = .ok (.iconst 0, 1) := by decide +kernel
theorem dX11_dominance_105 : decode cX11_dominance 105 = .ok (.bastore, 1) := by decide +kernel
theorem dX11_dominance_106 : decode cX11_dominance 106 = .ok (.iinc 2 1, 3) := by decide +kernel
theorem dX11_dominance_109 : decode cX11_dominance 109 = .ok (.goto (-59), 3) := by decide +kernel
theorem dX11_dominance_112 : decode cX11_dominance 112 = .ok (.iinc 1 1, 3) := by decide +kernel
theorem dX11_dominance_115 : decode cX11_dominance 115 = .ok (.goto (-80), 3) := by decide +kernel
theorem dX11_dominance_118 : decode cX11_dominance 118 = .ok (.iconst 0, 1) := by decide +kernel
theorem dX11_dominance_119 : decode cX11_dominance 119 = .ok (.istore_n 1, 1) := by decide +kernel
theorem dX11_dominance_120 : decode cX11_dominance 120 = .ok (.iload_n 1, 1) := by decide +kernel
theorem dX11_dominance_121 : decode cX11_dominance 121 = .ok (.aload_n 0, 1) := by decide +kernel
theorem dX11_dominance_122 : decode cX11_dominance 122 = .ok (.getfield 120, 3) := by decide +kernel
theorem dX11_dominance_125 : decode cX11_dominance 125 = .ok (.if_icmp .ge 253, 3) := by decide +kernel
theorem dX11_dominance_128 : decode cX11_dominance 128 = .ok (.aload_n 0, 1) := by decide +kernel
theorem dX11_dominance_129 : decode cX11_dominance 129 = .ok (.getfield 47, 3) := by decide +kernel
theorem dX11_dominance_132 : decode cX11_dominance 132 = .ok (.iload_n 1, 1) := by decide +kernel
theorem dX11_dominance_133 : decode cX11_dominance 133 = .ok (.iconst (-1), 1) := by decide +kernel
theorem dX11_dominance_134 : decode cX11_dominance 134 = .ok (.iastore, 1) := by decide +kernel
theorem dX11_dominance_135 : decode cX11_dominance 135 = .ok (.iconst 0, 1) := by decide +kernel
theorem dX11_dominance_136 : decode cX11_dominance 136 = .ok (.istore_n 2, 1) := by decide +kernel
theorem dX11_dominance_137 : decode cX11_dominance 137 = .ok (.iload_n 2, 1) := by decide +kernel
theorem dX11_dominance_138 : decode cX11_dominance 138 = .ok (.aload_n 0, 1) := by decide +kernel
theorem dX11_dominance_139 : decode cX11_dominance 139 = .ok (.getfield 120, 3) := by decide +kernel
theorem dX11_dominance_142 : decode cX11_dominance 142 = .ok (.if_icmp .ge 102, 3) := by decide +kernel
theorem dX11_dominance_145 : decode cX11_dominance 145 = .ok (.iload_n 2, 1) := by decide +kernel
theorem dX11_dominance_146 : decode cX11_dominance 146 = .ok (.iload_n 1, 1) := by decide +kernel
theorem dX11_dominance_147 : decode cX11_dominance 147 = .ok (.if_icmp .eq 91, 3) := by decide +kernel
theorem dX11_dominance_150 : decode cX11_dominance 150 = .ok (.aload_n 0, 1) := by decide +kernel
theorem dX11_dominance_151 : decode cX11_dominance 151 = .ok (.iload_n 2, 1) := by decide +kernel
theorem dX11_dominance_152 : decode cX11_dominance 152 = .ok (.iload_n 1, 1) := by decide +kernel
theorem dX11_dominance_153 : decode cX11_dominance 153 = .ok (.invokevirtual 149, 3) := by decide +kernel
theorem dX11_dominance_156 : decode cX11_dominance 156 = .ok (.ifCond .ne 6, 3) := by decide +kernel
theorem dX11_dominance_159 : decode cX11_dominance 159 = .ok (.goto 79, 3) := by decide +kernel
theorem dX11_dominance_162 : decode cX11_dominance 162 = .ok (.iconst 1, 1) := by decide +kernel
theorem dX11_dominance_163 : decode cX11_dominance 163 = .ok (.istore_n 3, 1) := by decide +kernel
theorem dX11_dominance_164 : decode cX11_dominance 164 = .ok (.iconst 0, 1) := by decide +kernel
theorem dX11_dominance_165 : decode cX11_dominance 165 = .ok (.istore 4, 2) := by decide +kernel
theorem dX11_dominance_167 : decode cX11_dominance 167 = .ok (.iload 4, 2) := by decide +kernel
theorem dX11_dominance_169 : decode cX11_dominance 169 = .ok (.aload_n 0, 1) := by decide +kernel
theorem dX11_dominance_170 : decode cX11_dominance 170 = .ok (.getfield 120, 3) := by decide +kernel
theorem dX11_dominance_173 : decode cX11_dominance 173 = .ok (.if_icmp .ge 45, 3) := by decide +kernel
theorem dX11_dominance_176 : decode cX11_dominance 176 = .ok (.iload_n 3, 1) := by decide +kernel
theorem dX11_dominance_177 : decode cX11_dominance 177 = .ok (.ifCond .eq 33, 3) := by decide +kernel
theorem dX11_dominance_180 : decode cX11_dominance 180 = .ok (.iload 4, 2) := by decide +kernel
theorem dX11_dominance_182 : decode cX11_dominance 182 = .ok (.iload_n 1, 1) := by decide +kernel
theorem dX11_dominance_183 : decode cX11_dominance 183 = .ok (.if_icmp .eq 23, 3) := by decide +kernel
theorem dX11_dominance_186 : decode cX11_dominance 186 = .ok (.aload_n 0, 1) := by decide +kernel
theorem dX11_dominance_187 : decode cX11_dominance 187 = .ok (.iload 4, 2) := by decide +kernel
theorem dX11_dominance_189 : decode cX11_dominance 189 = .ok (.iload_n 1, 1) := by decide +kernel
theorem dX11_dominance_190 : decode cX11_dominance 190 = .ok (.invokevirtual 149, 3) := by decide +kernel
theorem dX11_dominance_193 : decode cX11_dominance 193 = .ok (.ifCond .eq 13, 3) := by decide +kernel
theorem dX11_dominance_196 : decode cX11_dominance 196 = .ok (.aload_n 0, 1) := by decide +kernel
theorem dX11_dominance_197 : decode cX11_dominance 197 = .ok (.iload 4, 2) := by decide +kernel
theorem dX11_dominance_199 : decode cX11_dominance 199 = .ok (.iload_n 2, 1) := by decide +kernel
theorem dX11_dominance_200 : decode cX11_dominance 200 = .ok (.invokevirtual 149, 3) := by decide +kernel
theorem dX11_dominance_203 : decode cX11_dominance 203 = .ok (.ifCond .eq 7, 3) := by decide +kernel
theorem dX11_dominance_206 : decode cX11_dominance 206 = .ok (.iconst 1, 1) := by decide +kernel
theorem dX11_dominance_207 : decode cX11_dominance 207 = .ok (.goto 4, 3) := by decide +kernel
theorem dX11_dominance_210 : decode cX11_dominance 210 = .ok (.iconst 0, 1) := by decide +kernel
theorem dX11_dominance_211 : decode cX11_dominance 211 = .ok (.istore_n 3, 1) := by decide +kernel
theorem dX11_dominance_212 : decode cX11_dominance 212 = .ok (.iinc 4 1, 3) := by decide +kernel
theorem dX11_dominance_215 : decode cX11_dominance 215 = .ok (.goto (-48), 3) := by decide +kernel
theorem dX11_dominance_218 : decode cX11_dominance 218 = .ok (.aload_n 0, 1) := by decide +kernel
theorem dX11_dominance_219 : decode cX11_dominance 219 = .ok (.getfield 47, 3) := by decide +kernel
theorem dX11_dominance_222 : decode cX11_dominance 222 = .ok (.iload_n 1, 1) := by decide +kernel
theorem dX11_dominance_223 : decode cX11_dominance 223 = .ok (.iload_n 3, 1) := by decide +kernel
theorem dX11_dominance_224 : decode cX11_dominance 224 = .ok (.ifCond .eq 7, 3) := by decide +kernel
theorem dX11_dominance_227 : decode cX11_dominance 227 = .ok (.iload_n 2, 1) := by decide +kernel
theorem dX11_dominance_228 : decode cX11_dominance 228 = .ok (.goto 9, 3) := by decide +kernel
theorem dX11_dominance_231 : decode cX11_dominance 231 = .ok (.aload_n 0, 1) := by decide +kernel
theorem dX11_dominance_232 : decode cX11_dominance 232 = .ok (.getfield 47, 3) := by decide +kernel
theorem dX11_dominance_235 : decode cX11_dominance 235 = .ok (.iload_n 1, 1) := by decide +kernel
theorem dX11_dominance_236 : decode cX11_dominance 236 = .ok (.iaload, 1) := by decide +kernel
theorem dX11_dominance_237 : decode cX11_dominance 237 = .ok (.iastore, 1) := by decide +kernel
theorem dX11_dominance_238 : decode cX11_dominance 238 = .ok (.iinc 2 1, 3) := by decide +kernel
theorem dX11_dominance_241 : decode cX11_dominance 241 = .ok (.goto (-104), 3) := by decide +kernel
theorem dX11_dominance_244 : decode cX11_dominance 244 = .ok (.iconst 0, 1) := by decide +kernel
theorem dX11_dominance_245 : decode cX11_dominance 245 = .ok (.istore_n 2, 1) := by decide +kernel
theorem dX11_dominance_246 : decode cX11_dominance 246 = .ok (.iload_n 2, 1) := by decide +kernel
theorem dX11_dominance_247 : decode cX11_dominance 247 = .ok (.aload_n 0, 1) := by decide +kernel
theorem dX11_dominance_248 : decode cX11_dominance 248 = .ok (.getfield 120, 3) := by decide +kernel
theorem dX11_dominance_251 : decode cX11_dominance 251 = .ok (.if_icmp .ge 121, 3) := by decide +kernel
theorem dX11_dominance_254 : decode cX11_dominance 254 = .ok (.iconst 0, 1) := by decide +kernel
theorem dX11_dominance_255 : decode cX11_dominance 255 = .ok (.istore_n 3, 1) := by decide +kernel
theorem dX11_dominance_256 : decode cX11_dominance 256 = .ok (.iconst 0, 1) := by decide +kernel
theorem dX11_dominance_257 : decode cX11_dominance 257 = .ok (.istore 4, 2) := by decide +kernel
theorem dX11_dominance_259 : decode cX11_dominance 259 = .ok (.iload 4, 2) := by decide +kernel
theorem dX11_dominance_261 : decode cX11_dominance 261 = .ok (.aload_n 0, 1) := by decide +kernel
theorem dX11_dominance_262 : decode cX11_dominance 262 = .ok (.getfield 120, 3) := by decide +kernel
theorem dX11_dominance_265 : decode cX11_dominance 265 = .ok (.if_icmp .ge 49, 3) := by decide +kernel
theorem dX11_dominance_268 : decode cX11_dominance 268 = .ok (.iload_n 3, 1) := by decide +kernel
theorem dX11_dominance_269 : decode cX11_dominance 269 = .ok (.ifCond .ne 33, 3) := by decide +kernel
theorem dX11_dominance_272 : decode cX11_dominance 272 = .ok (.aload_n 0, 1) := by decide +kernel
theorem dX11_dominance_273 : decode cX11_dominance 273 = .ok (.getfield 37, 3) := by decide +kernel
theorem dX11_dominance_276 : decode cX11_dominance 276 = .ok (.iload 4, 2) := by decide +kernel
theorem dX11_dominance_278 : decode cX11_dominance 278 = .ok (.baload, 1) := by decide +kernel
theorem dX11_dominance_279 : decode cX11_dominance 279 = .ok (.ifCond .eq 27, 3) := by decide +kernel
theorem dX11_dominance_282 : decode cX11_dominance 282 = .ok (.aload_n 0, 1) := by decide +kernel
theorem dX11_dominance_283 : decode cX11_dominance 283 = .ok (.iload 4, 2) := by decide +kernel
theorem dX11_dominance_285 : decode cX11_dominance 285 = .ok (.iload_n 1, 1) := by decide +kernel
theorem dX11_dominance_286 : decode cX11_dominance 286 = .ok (.invokevirtual 141, 3) := by decide +kernel
theorem dX11_dominance_289 : decode cX11_dominance 289 = .ok (.ifCond .eq 17, 3) := by decide +kernel
theorem dX11_dominance_292 : decode cX11_dominance 292 = .ok (.aload_n 0, 1) := by decide +kernel
theorem dX11_dominance_293 : decode cX11_dominance 293 = .ok (.iload_n 2, 1) := by decide +kernel
theorem dX11_dominance_294 : decode cX11_dominance 294 = .ok (.iload 4, 2) := by decide +kernel
theorem dX11_dominance_296 : decode cX11_dominance 296 = .ok (.invokevirtual 149, 3) := by decide +kernel
theorem dX11_dominance_299 : decode cX11_dominance 299 = .ok (.ifCond .eq 7, 3) := by decide +kernel
theorem dX11_dominance_302 : decode cX11_dominance 302 = .ok (.iconst 1, 1) := by decide +kernel
theorem dX11_dominance_303 : decode cX11_dominance 303 = .ok (.goto 4, 3) := by decide +kernel
theorem dX11_dominance_306 : decode cX11_dominance 306 = .ok (.iconst 0, 1) := by decide +kernel
theorem dX11_dominance_307 : decode cX11_dominance 307 = .ok (.istore_n 3, 1) := by decide +kernel
theorem dX11_dominance_308 : decode cX11_dominance 308 = .ok (.iinc 4 1, 3) := by decide +kernel
theorem dX11_dominance_311 : decode cX11_dominance 311 = .ok (.goto (-52), 3) := by decide +kernel
theorem dX11_dominance_314 : decode cX11_dominance 314 = .ok (.aload_n 0, 1) := by decide +kernel
theorem dX11_dominance_315 : decode cX11_dominance 315 = .ok (.getfield 50, 3) := by decide +kernel
theorem dX11_dominance_318 : decode cX11_dominance 318 = .ok (.bipush 16, 2) := by decide +kernel
theorem dX11_dominance_320 : decode cX11_dominance 320 = .ok (.iload_n 2, 1) := by decide +kernel
theorem dX11_dominance_321 : decode cX11_dominance 321 = .ok (.imul, 1) := by decide +kernel
theorem dX11_dominance_322 : decode cX11_dominance 322 = .ok (.iload_n 1, 1) := by decide +kernel
theorem dX11_dominance_323 : decode cX11_dominance 323 = .ok (.iadd, 1) := by decide +kernel
theorem dX11_dominance_324 : decode cX11_dominance 324 = .ok (.iload_n 3, 1) := by decide +kernel
theorem dX11_dominance_325 : decode cX11_dominance 325 = .ok (.ifCond .eq 39, 3) := by decide +kernel
theorem dX11_dominance_328 : decode cX11_dominance 328 = .ok (.aload_n 0, 1) := by decide +kernel
theorem dX11_dominance_329 : decode cX11_dominance 329 = .ok (.getfield 37, 3) := by decide +kernel
theorem dX11_dominance_332 : decode cX11_dominance 332 = .ok (.iload_n 2, 1) := by decide +kernel
theorem dX11_dominance_333 : decode cX11_dominance 333 = .ok (.baload, 1) := by decide +kernel
theorem dX11_dominance_334 : decode cX11_dominance 334 = .ok (.ifCond .eq 30, 3) := by decide +kernel
theorem dX11_dominance_337 : decode cX11_dominance 337 = .ok (.aload_n 0, 1) := by decide +kernel
theorem dX11_dominance_338 : decode cX11_dominance 338 = .ok (.getfield 37, 3) := by decide +kernel
theorem dX11_dominance_341 : decode cX11_dominance 341 = .ok (.iload_n 1, 1) := by decide +kernel
theorem dX11_dominance_342 : decode cX11_dominance 342 = .ok (.baload, 1) := by decide +kernel
theorem dX11_dominance_343 : decode cX11_dominance 343 = .ok (.ifCond .eq 21, 3) := by decide +kernel
theorem dX11_dominance_346 : decode cX11_dominance 346 = .ok (.iload_n 2, 1) := by decide +kernel
theorem dX11_dominance_347 : decode cX11_dominance 347 = .ok (.iload_n 1, 1) := by decide +kernel
theorem dX11_dominance_348 : decode cX11_dominance 348 = .ok (.if_icmp .eq 12, 3) := by decide +kernel
theorem dX11_dominance_351 : decode cX11_dominance 351 = .ok (.aload_n 0, 1) := by decide +kernel
theorem dX11_dominance_352 : decode cX11_dominance 352 = .ok (.iload_n 2, 1) := by decide +kernel
theorem dX11_dominance_353 : decode cX11_dominance 353 = .ok (.iload_n 1, 1) := by decide +kernel
theorem dX11_dominance_354 : decode cX11_dominance 354 = .ok (.invokevirtual 149, 3) := by decide +kernel
theorem dX11_dominance_357 : decode cX11_dominance 357 = .ok (.ifCond .ne 7, 3) := by decide +kernel
theorem dX11_dominance_360 : decode cX11_dominance 360 = .ok (.iconst 1, 1) := by decide +kernel
theorem dX11_dominance_361 : decode cX11_dominance 361 = .ok (.goto 4, 3) := by decide +kernel
theorem dX11_dominance_364 : decode cX11_dominance 364 = .ok (.iconst 0, 1) := by decide +kernel
theorem dX11_dominance_365 : decode cX11_dominance 365 = .ok (.bastore, 1) := by decide +kernel
theorem dX11_dominance_366 : decode cX11_dominance 366 = .ok (.iinc 2 1, 3) := by decide +kernel
theorem dX11_dominance_369 : decode cX11_dominance 369 = .ok (.goto (-123), 3) := by decide +kernel
theorem dX11_dominance_372 : decode cX11_dominance 372 = .ok (.iinc 1 1, 3) := by decide +kernel
theorem dX11_dominance_375 : decode cX11_dominance 375 = .ok (.goto (-255), 3) := by decide +kernel
theorem dX11_dominance_378 : decode cX11_dominance 378 = .ok (.return_, 1) := by decide +kernel
theorem dX11_gives_0 : decode cX11_gives 0 = .ok (.iconst 0, 1) := by decide +kernel
theorem dX11_gives_1 : decode cX11_gives 1 = .ok (.istore_n 3, 1) := by decide +kernel
theorem dX11_gives_2 : decode cX11_gives 2 = .ok (.iload_n 3, 1) := by decide +kernel
theorem dX11_gives_3 : decode cX11_gives 3 = .ok (.aload_n 0, 1) := by decide +kernel
theorem dX11_gives_4 : decode cX11_gives 4 = .ok (.getfield 22, 3) := by decide +kernel
theorem dX11_gives_7 : decode cX11_gives 7 = .ok (.iload_n 1, 1) := by decide +kernel
theorem dX11_gives_8 : decode cX11_gives 8 = .ok (.iaload, 1) := by decide +kernel
theorem dX11_gives_9 : decode cX11_gives 9 = .ok (.if_icmp .ge 42, 3) := by decide +kernel
theorem dX11_gives_12 : decode cX11_gives 12 = .ok (.aload_n 0, 1) := by decide +kernel
theorem dX11_gives_13 : decode cX11_gives 13 = .ok (.getfield 7, 3) := by decide +kernel
theorem dX11_gives_16 : decode cX11_gives 16 = .ok (.bipush 100, 2) := by decide +kernel
theorem dX11_gives_18 : decode cX11_gives 18 = .ok (.iload_n 1, 1) := by decide +kernel
theorem dX11_gives_19 : decode cX11_gives 19 = .ok (.imul, 1) := by decide +kernel
theorem dX11_gives_20 : decode cX11_gives 20 = .ok (.iload_n 3, 1) := by decide +kernel
theorem dX11_gives_21 : decode cX11_gives 21 = .ok (.iadd, 1) := by decide +kernel
theorem dX11_gives_22 : decode cX11_gives 22 = .ok (.iaload, 1) := by decide +kernel
theorem dX11_gives_23 : decode cX11_gives 23 = .ok (.bipush 14, 2) := by decide +kernel
theorem dX11_gives_25 : decode cX11_gives 25 = .ok (.if_icmp .eq 20, 3) := by decide +kernel
theorem dX11_gives_28 : decode cX11_gives 28 = .ok (.aload_n 0, 1) := by decide +kernel
theorem dX11_gives_29 : decode cX11_gives 29 = .ok (.getfield 13, 3) := by decide +kernel
theorem dX11_gives_32 : decode cX11_gives 32 = .ok (.bipush 100, 2) := by decide +kernel
theorem dX11_gives_34 : decode cX11_gives 34 = .ok (.iload_n 1, 1) := by decide +kernel
theorem dX11_gives_35 : decode cX11_gives 35 = .ok (.imul, 1) := by decide +kernel
theorem dX11_gives_36 : decode cX11_gives 36 = .ok (.iload_n 3, 1) := by decide +kernel
theorem dX11_gives_37 : decode cX11_gives 37 = .ok (.iadd, 1) := by decide +kernel
theorem dX11_gives_38 : decode cX11_gives 38 = .ok (.iaload, 1) := by decide +kernel
theorem dX11_gives_39 : decode cX11_gives 39 = .ok (.iload_n 2, 1) := by decide +kernel
theorem dX11_gives_40 : decode cX11_gives 40 = .ok (.if_icmp .ne 5, 3) := by decide +kernel
theorem dX11_gives_43 : decode cX11_gives 43 = .ok (.iconst 1, 1) := by decide +kernel
theorem dX11_gives_44 : decode cX11_gives 44 = .ok (.ireturn, 1) := by decide +kernel
theorem dX11_gives_45 : decode cX11_gives 45 = .ok (.iinc 3 1, 3) := by decide +kernel
theorem dX11_gives_48 : decode cX11_gives 48 = .ok (.goto (-46), 3) := by decide +kernel
theorem dX11_gives_51 : decode cX11_gives 51 = .ok (.iconst 0, 1) := by decide +kernel
theorem dX11_gives_52 : decode cX11_gives 52 = .ok (.ireturn, 1) := by decide +kernel
theorem dX11_choices_0 : decode cX11_choices 0 = .ok (.iconst 0, 1) := by decide +kernel
theorem dX11_choices_1 : decode cX11_choices 1 = .ok (.istore_n 1, 1) := by decide +kernel
theorem dX11_choices_2 : decode cX11_choices 2 = .ok (.iload_n 1, 1) := by decide +kernel
theorem dX11_choices_3 : decode cX11_choices 3 = .ok (.sipush 160, 3) := by decide +kernel
theorem dX11_choices_6 : decode cX11_choices 6 = .ok (.if_icmp .ge 16, 3) := by decide +kernel
theorem dX11_choices_9 : decode cX11_choices 9 = .ok (.aload_n 0, 1) := by decide +kernel
theorem dX11_choices_10 : decode cX11_choices 10 = .ok (.getfield 53, 3) := by decide +kernel
theorem dX11_choices_13 : decode cX11_choices 13 = .ok (.iload_n 1, 1) := by decide +kernel
theorem dX11_choices_14 : decode cX11_choices 14 = .ok (.iconst 0, 1) := by decide +kernel
theorem dX11_choices_15 : decode cX11_choices 15 = .ok (.bastore, 1) := by decide +kernel
theorem dX11_choices_16 : decode cX11_choices 16 = .ok (.iinc 1 1, 3) := by decide +kernel
theorem dX11_choices_19 : decode cX11_choices 19 = .ok (.goto (-17), 3) := by decide +kernel
theorem dX11_choices_22 : decode cX11_choices 22 = .ok (.iconst 1, 1) := by decide +kernel
theorem dX11_choices_23 : decode cX11_choices 23 = .ok (.istore_n 1, 1) := by decide +kernel
theorem dX11_choices_24 : decode cX11_choices 24 = .ok (.iload_n 1, 1) := by decide +kernel
theorem dX11_choices_25 : decode cX11_choices 25 = .ok (.ifCond .eq 135, 3) := by decide +kernel
theorem dX11_choices_28 : decode cX11_choices 28 = .ok (.iconst 0, 1) := by decide +kernel
theorem dX11_choices_29 : decode cX11_choices 29 = .ok (.istore_n 1, 1) := by decide +kernel
theorem dX11_choices_30 : decode cX11_choices 30 = .ok (.iconst 0, 1) := by decide +kernel
theorem dX11_choices_31 : decode cX11_choices 31 = .ok (.istore_n 2, 1) := by decide +kernel
theorem dX11_choices_32 : decode cX11_choices 32 = .ok (.iload_n 2, 1) := by decide +kernel
theorem dX11_choices_33 : decode cX11_choices 33 = .ok (.aload_n 0, 1) := by decide +kernel
theorem dX11_choices_34 : decode cX11_choices 34 = .ok (.getfield 120, 3) := by decide +kernel
theorem dX11_choices_37 : decode cX11_choices 37 = .ok (.if_icmp .ge 120, 3) := by decide +kernel
theorem dX11_choices_40 : decode cX11_choices 40 = .ok (.iconst 0, 1) := by decide +kernel
theorem dX11_choices_41 : decode cX11_choices 41 = .ok (.istore_n 3, 1) := by decide +kernel
theorem dX11_choices_42 : decode cX11_choices 42 = .ok (.iload_n 3, 1) := by decide +kernel
theorem dX11_choices_43 : decode cX11_choices 43 = .ok (.aload_n 0, 1) := by decide +kernel
theorem dX11_choices_44 : decode cX11_choices 44 = .ok (.getfield 120, 3) := by decide +kernel
theorem dX11_choices_47 : decode cX11_choices 47 = .ok (.if_icmp .ge 104, 3) := by decide +kernel
theorem dX11_choices_50 : decode cX11_choices 50 = .ok (.aload_n 0, 1) := by decide +kernel
theorem dX11_choices_51 : decode cX11_choices 51 = .ok (.getfield 50, 3) := by decide +kernel
theorem dX11_choices_54 : decode cX11_choices 54 = .ok (.bipush 16, 2) := by decide +kernel
theorem dX11_choices_56 : decode cX11_choices 56 = .ok (.iload_n 2, 1) := by decide +kernel
theorem dX11_choices_57 : decode cX11_choices 57 = .ok (.imul, 1) := by decide +kernel
theorem dX11_choices_58 : decode cX11_choices 58 = .ok (.iload_n 3, 1) := by decide +kernel
theorem dX11_choices_59 : decode cX11_choices 59 = .ok (.iadd, 1) := by decide +kernel
theorem dX11_choices_60 : decode cX11_choices 60 = .ok (.baload, 1) := by decide +kernel
theorem dX11_choices_61 : decode cX11_choices 61 = .ok (.ifCond .ne 6, 3) := by decide +kernel
theorem dX11_choices_64 : decode cX11_choices 64 = .ok (.goto 81, 3) := by decide +kernel
theorem dX11_choices_67 : decode cX11_choices 67 = .ok (.iconst 0, 1) := by decide +kernel
theorem dX11_choices_68 : decode cX11_choices 68 = .ok (.istore 4, 2) := by decide +kernel
theorem dX11_choices_70 : decode cX11_choices 70 = .ok (.iload 4, 2) := by decide +kernel
theorem dX11_choices_72 : decode cX11_choices 72 = .ok (.bipush 10, 2) := by decide +kernel
theorem dX11_choices_74 : decode cX11_choices 74 = .ok (.if_icmp .ge 71, 3) := by decide +kernel
theorem dX11_choices_77 : decode cX11_choices 77 = .ok (.aload_n 0, 1) := by decide +kernel
theorem dX11_choices_78 : decode cX11_choices 78 = .ok (.getfield 53, 3) := by decide +kernel
theorem dX11_choices_81 : decode cX11_choices 81 = .ok (.bipush 10, 2) := by decide +kernel
theorem dX11_choices_83 : decode cX11_choices 83 = .ok (.iload_n 3, 1) := by decide +kernel
theorem dX11_choices_84 : decode cX11_choices 84 = .ok (.imul, 1) := by decide +kernel
theorem dX11_choices_85 : decode cX11_choices 85 = .ok (.iload 4, 2) := by decide +kernel
theorem dX11_choices_87 : decode cX11_choices 87 = .ok (.iadd, 1) := by decide +kernel
theorem dX11_choices_88 : decode cX11_choices 88 = .ok (.baload, 1) := by decide +kernel
theorem dX11_choices_89 : decode cX11_choices 89 = .ok (.ifCond .ne 50, 3) := by decide +kernel
theorem dX11_choices_92 : decode cX11_choices 92 = .ok (.iload_n 2, 1) := by decide +kernel
theorem dX11_choices_93 : decode cX11_choices 93 = .ok (.ifCond .eq 31, 3) := by decide +kernel
theorem dX11_choices_96 : decode cX11_choices 96 = .ok (.aload_n 0, 1) := by decide +kernel
theorem dX11_choices_97 : decode cX11_choices 97 = .ok (.iload_n 2, 1) := by decide +kernel
theorem dX11_choices_98 : decode cX11_choices 98 = .ok (.iload 4, 2) := by decide +kernel
theorem dX11_choices_100 : decode cX11_choices 100 = .ok (.invokevirtual 152, 3) := by decide +kernel
theorem dX11_choices_103 : decode cX11_choices 103 = .ok (.ifCond .ne 21, 3) := by decide +kernel
theorem dX11_choices_106 : decode cX11_choices 106 = .ok (.aload_n 0, 1) := by decide +kernel
theorem dX11_choices_107 : decode cX11_choices 107 = .ok (.getfield 53, 3) := by decide +kernel
theorem dX11_choices_110 : decode cX11_choices 110 = .ok (.bipush 10, 2) := by decide +kernel
theorem dX11_choices_112 : decode cX11_choices 112 = .ok (.iload_n 2, 1) := by decide +kernel
theorem dX11_choices_113 : decode cX11_choices 113 = .ok (.imul, 1) := by decide +kernel
theorem dX11_choices_114 : decode cX11_choices 114 = .ok (.iload 4, 2) := by decide +kernel
theorem dX11_choices_116 : decode cX11_choices 116 = .ok (.iadd, 1) := by decide +kernel
theorem dX11_choices_117 : decode cX11_choices 117 = .ok (.baload, 1) := by decide +kernel
theorem dX11_choices_118 : decode cX11_choices 118 = .ok (.ifCond .ne 6, 3) := by decide +kernel
theorem dX11_choices_121 : decode cX11_choices 121 = .ok (.goto 18, 3) := by decide +kernel
theorem dX11_choices_124 : decode cX11_choices 124 = .ok (.aload_n 0, 1) := by decide +kernel
theorem dX11_choices_125 : decode cX11_choices 125 = .ok (.getfield 53, 3) := by decide +kernel
theorem dX11_choices_128 : decode cX11_choices 128 = .ok (.bipush 10, 2) := by decide +kernel
theorem dX11_choices_130 : decode cX11_choices 130 = .ok (.iload_n 3, 1) := by decide +kernel
theorem dX11_choices_131 : decode cX11_choices 131 = .ok (.imul, 1) := by decide +kernel
theorem dX11_choices_132 : decode cX11_choices 132 = .ok (.iload 4, 2) := by decide +kernel
theorem dX11_choices_134 : decode cX11_choices 134 = .ok (.iadd, 1) := by decide +kernel
theorem dX11_choices_135 : decode cX11_choices 135 = .ok (.iconst 1, 1) := by decide +kernel
theorem dX11_choices_136 : decode cX11_choices 136 = .ok (.bastore, 1) := by decide +kernel
theorem dX11_choices_137 : decode cX11_choices 137 = .ok (.iconst 1, 1) := by decide +kernel
theorem dX11_choices_138 : decode cX11_choices 138 = .ok (.istore_n 1, 1) := by decide +kernel
theorem dX11_choices_139 : decode cX11_choices 139 = .ok (.iinc 4 1, 3) := by decide +kernel
theorem dX11_choices_142 : decode cX11_choices 142 = .ok (.goto (-72), 3) := by decide +kernel
theorem dX11_choices_145 : decode cX11_choices 145 = .ok (.iinc 3 1, 3) := by decide +kernel
theorem dX11_choices_148 : decode cX11_choices 148 = .ok (.goto (-106), 3) := by decide +kernel
theorem dX11_choices_151 : decode cX11_choices 151 = .ok (.iinc 2 1, 3) := by decide +kernel
theorem dX11_choices_154 : decode cX11_choices 154 = .ok (.goto (-122), 3) := by decide +kernel
theorem dX11_choices_157 : decode cX11_choices 157 = .ok (.goto (-133), 3) := by decide +kernel
theorem dX11_choices_160 : decode cX11_choices 160 = .ok (.return_, 1) := by decide +kernel
theorem dX11_comes_0 : decode cX11_comes 0 = .ok (.aload_n 0, 1) := by decide +kernel
theorem dX11_comes_1 : decode cX11_comes 1 = .ok (.getfield 56, 3) := by decide +kernel
theorem dX11_comes_4 : decode cX11_comes 4 = .ok (.aload_n 0, 1) := by decide +kernel
theorem dX11_comes_5 : decode cX11_comes 5 = .ok (.getfield 155, 3) := by decide +kernel
theorem dX11_comes_8 : decode cX11_comes 8 = .ok (.iload_n 1, 1) := by decide +kernel
theorem dX11_comes_9 : decode cX11_comes 9 = .ok (.iastore, 1) := by decide +kernel
theorem dX11_comes_10 : decode cX11_comes 10 = .ok (.aload_n 0, 1) := by decide +kernel
theorem dX11_comes_11 : decode cX11_comes 11 = .ok (.getfield 59, 3) := by decide +kernel
theorem dX11_comes_14 : decode cX11_comes 14 = .ok (.aload_n 0, 1) := by decide +kernel
theorem dX11_comes_15 : decode cX11_comes 15 = .ok (.getfield 155, 3) := by decide +kernel
theorem dX11_comes_18 : decode cX11_comes 18 = .ok (.iload_n 2, 1) := by decide +kernel
theorem dX11_comes_19 : decode cX11_comes 19 = .ok (.iastore, 1) := by decide +kernel
theorem dX11_comes_20 : decode cX11_comes 20 = .ok (.aload_n 0, 1) := by decide +kernel
theorem dX11_comes_21 : decode cX11_comes 21 = .ok (.getfield 62, 3) := by decide +kernel
theorem dX11_comes_24 : decode cX11_comes 24 = .ok (.aload_n 0, 1) := by decide +kernel
theorem dX11_comes_25 : decode cX11_comes 25 = .ok (.getfield 155, 3) := by decide +kernel
theorem dX11_comes_28 : decode cX11_comes 28 = .ok (.iload_n 3, 1) := by decide +kernel
theorem dX11_comes_29 : decode cX11_comes 29 = .ok (.iastore, 1) := by decide +kernel
theorem dX11_comes_30 : decode cX11_comes 30 = .ok (.aload_n 0, 1) := by decide +kernel
theorem dX11_comes_31 : decode cX11_comes 31 = .ok (.getfield 65, 3) := by decide +kernel
theorem dX11_comes_34 : decode cX11_comes 34 = .ok (.aload_n 0, 1) := by decide +kernel
theorem dX11_comes_35 : decode cX11_comes 35 = .ok (.getfield 155, 3) := by decide +kernel
theorem dX11_comes_38 : decode cX11_comes 38 = .ok (.iload 4, 2) := by decide +kernel
theorem dX11_comes_40 : decode cX11_comes 40 = .ok (.iastore, 1) := by decide +kernel
theorem dX11_comes_41 : decode cX11_comes 41 = .ok (.aload_n 0, 1) := by decide +kernel
theorem dX11_comes_42 : decode cX11_comes 42 = .ok (.getfield 68, 3) := by decide +kernel
theorem dX11_comes_45 : decode cX11_comes 45 = .ok (.aload_n 0, 1) := by decide +kernel
theorem dX11_comes_46 : decode cX11_comes 46 = .ok (.getfield 155, 3) := by decide +kernel
theorem dX11_comes_49 : decode cX11_comes 49 = .ok (.iload 5, 2) := by decide +kernel
theorem dX11_comes_51 : decode cX11_comes 51 = .ok (.iastore, 1) := by decide +kernel
theorem dX11_comes_52 : decode cX11_comes 52 = .ok (.aload_n 0, 1) := by decide +kernel
theorem dX11_comes_53 : decode cX11_comes 53 = .ok (.getfield 74, 3) := by decide +kernel
theorem dX11_comes_56 : decode cX11_comes 56 = .ok (.aload_n 0, 1) := by decide +kernel
theorem dX11_comes_57 : decode cX11_comes 57 = .ok (.getfield 155, 3) := by decide +kernel
theorem dX11_comes_60 : decode cX11_comes 60 = .ok (.iconst 0, 1) := by decide +kernel
theorem dX11_comes_61 : decode cX11_comes 61 = .ok (.iastore, 1) := by decide +kernel
theorem dX11_comes_62 : decode cX11_comes 62 = .ok (.aload_n 0, 1) := by decide +kernel
theorem dX11_comes_63 : decode cX11_comes 63 = .ok (.dup, 1) := by decide +kernel
theorem dX11_comes_64 : decode cX11_comes 64 = .ok (.getfield 155, 3) := by decide +kernel
theorem dX11_comes_67 : decode cX11_comes 67 = .ok (.iconst 1, 1) := by decide +kernel
theorem dX11_comes_68 : decode cX11_comes 68 = .ok (.iadd, 1) := by decide +kernel
theorem dX11_comes_69 : decode cX11_comes 69 = .ok (.putfield 155, 3) := by decide +kernel
theorem dX11_comes_72 : decode cX11_comes 72 = .ok (.aload_n 0, 1) := by decide +kernel
theorem dX11_comes_73 : decode cX11_comes 73 = .ok (.getfield 155, 3) := by decide +kernel
theorem dX11_comes_76 : decode cX11_comes 76 = .ok (.iconst 1, 1) := by decide +kernel
theorem dX11_comes_77 : decode cX11_comes 77 = .ok (.isub, 1) := by decide +kernel
theorem dX11_comes_78 : decode cX11_comes 78 = .ok (.ireturn, 1) := by decide +kernel
theorem dX11_numbers_0 : decode cX11_numbers 0 = .ok (.aload_n 0, 1) := by decide +kernel
theorem dX11_numbers_1 : decode cX11_numbers 1 = .ok (.iconst 0, 1) := by decide +kernel
theorem dX11_numbers_2 : decode cX11_numbers 2 = .ok (.putfield 155, 3) := by decide +kernel
theorem dX11_numbers_5 : decode cX11_numbers 5 = .ok (.aload_n 0, 1) := by decide +kernel
theorem dX11_numbers_6 : decode cX11_numbers 6 = .ok (.getfield 120, 3) := by decide +kernel
theorem dX11_numbers_9 : decode cX11_numbers 9 = .ok (.ifCond .ne 4, 3) := by decide +kernel
theorem dX11_numbers_12 : decode cX11_numbers 12 = .ok (.return_, 1) := by decide +kernel
theorem dX11_numbers_13 : decode cX11_numbers 13 = .ok (.aload_n 0, 1) := by decide +kernel
theorem dX11_numbers_14 : decode cX11_numbers 14 = .ok (.iconst 0, 1) := by decide +kernel
theorem dX11_numbers_15 : decode cX11_numbers 15 = .ok (.iconst 0, 1) := by decide +kernel
theorem dX11_numbers_16 : decode cX11_numbers 16 = .ok (.iconst (-1), 1) := by decide +kernel
theorem dX11_numbers_17 : decode cX11_numbers 17 = .ok (.iconst 0, 1) := by decide +kernel
theorem dX11_numbers_18 : decode cX11_numbers 18 = .ok (.bipush (-2), 2) := by decide +kernel
theorem dX11_numbers_20 : decode cX11_numbers 20 = .ok (.invokevirtual 158, 3) := by decide +kernel
theorem dX11_numbers_23 : decode cX11_numbers 23 = .ok (.istore_n 1, 1) := by decide +kernel
theorem dX11_numbers_24 : decode cX11_numbers 24 = .ok (.iconst 0, 1) := by decide +kernel
theorem dX11_numbers_25 : decode cX11_numbers 25 = .ok (.istore_n 2, 1) := by decide +kernel
theorem dX11_numbers_26 : decode cX11_numbers 26 = .ok (.iload_n 2, 1) := by decide +kernel
theorem dX11_numbers_27 : decode cX11_numbers 27 = .ok (.aload_n 0, 1) := by decide +kernel
theorem dX11_numbers_28 : decode cX11_numbers 28 = .ok (.getfield 120, 3) := by decide +kernel
theorem dX11_numbers_31 : decode cX11_numbers 31 = .ok (.if_icmp .ge 176, 3) := by decide +kernel
theorem dX11_numbers_34 : decode cX11_numbers 34 = .ok (.aload_n 0, 1) := by decide +kernel
theorem dX11_numbers_35 : decode cX11_numbers 35 = .ok (.getfield 37, 3) := by decide +kernel
theorem dX11_numbers_38 : decode cX11_numbers 38 = .ok (.iload_n 2, 1) := by decide +kernel
theorem dX11_numbers_39 : decode cX11_numbers 39 = .ok (.baload, 1) := by decide +kernel
theorem dX11_numbers_40 : decode cX11_numbers 40 = .ok (.ifCond .ne 6, 3) := by decide +kernel
theorem dX11_numbers_43 : decode cX11_numbers 43 = .ok (.goto 158, 3) := by decide +kernel
theorem dX11_numbers_46 : decode cX11_numbers 46 = .ok (.iconst 0, 1) := by decide +kernel
theorem dX11_numbers_47 : decode cX11_numbers 47 = .ok (.istore_n 3, 1) := by decide +kernel
theorem dX11_numbers_48 : decode cX11_numbers 48 = .ok (.iload_n 3, 1) := by decide +kernel
theorem dX11_numbers_49 : decode cX11_numbers 49 = .ok (.bipush 10, 2) := by decide +kernel
theorem dX11_numbers_51 : decode cX11_numbers 51 = .ok (.if_icmp .ge 44, 3) := by decide +kernel
theorem dX11_numbers_54 : decode cX11_numbers 54 = .ok (.aload_n 0, 1) := by decide +kernel
theorem dX11_numbers_55 : decode cX11_numbers 55 = .ok (.getfield 53, 3) := by decide +kernel
theorem dX11_numbers_58 : decode cX11_numbers 58 = .ok (.bipush 10, 2) := by decide +kernel
theorem dX11_numbers_60 : decode cX11_numbers 60 = .ok (.iload_n 2, 1) := by decide +kernel
theorem dX11_numbers_61 : decode cX11_numbers 61 = .ok (.imul, 1) := by decide +kernel
theorem dX11_numbers_62 : decode cX11_numbers 62 = .ok (.iload_n 3, 1) := by decide +kernel
theorem dX11_numbers_63 : decode cX11_numbers 63 = .ok (.iadd, 1) := by decide +kernel
theorem dX11_numbers_64 : decode cX11_numbers 64 = .ok (.baload, 1) := by decide +kernel
theorem dX11_numbers_65 : decode cX11_numbers 65 = .ok (.ifCond .eq 24, 3) := by decide +kernel
theorem dX11_numbers_68 : decode cX11_numbers 68 = .ok (.aload_n 0, 1) := by decide +kernel
theorem dX11_numbers_69 : decode cX11_numbers 69 = .ok (.getfield 77, 3) := by decide +kernel
theorem dX11_numbers_72 : decode cX11_numbers 72 = .ok (.bipush 10, 2) := by decide +kernel
theorem dX11_numbers_74 : decode cX11_numbers 74 = .ok (.iload_n 2, 1) := by decide +kernel
theorem dX11_numbers_75 : decode cX11_numbers 75 = .ok (.imul, 1) := by decide +kernel
theorem dX11_numbers_76 : decode cX11_numbers 76 = .ok (.iload_n 3, 1) := by decide +kernel
theorem dX11_numbers_77 : decode cX11_numbers 77 = .ok (.iadd, 1) := by decide +kernel
theorem dX11_numbers_78 : decode cX11_numbers 78 = .ok (.aload_n 0, 1) := by decide +kernel
theorem dX11_numbers_79 : decode cX11_numbers 79 = .ok (.bipush 15, 2) := by decide +kernel
theorem dX11_numbers_81 : decode cX11_numbers 81 = .ok (.iload_n 2, 1) := by decide +kernel
theorem dX11_numbers_82 : decode cX11_numbers 82 = .ok (.iload_n 3, 1) := by decide +kernel
theorem dX11_numbers_83 : decode cX11_numbers 83 = .ok (.iconst (-1), 1) := by decide +kernel
theorem dX11_numbers_84 : decode cX11_numbers 84 = .ok (.iconst (-1), 1) := by decide +kernel
theorem dX11_numbers_85 : decode cX11_numbers 85 = .ok (.invokevirtual 158, 3) := by decide +kernel
theorem dX11_numbers_88 : decode cX11_numbers 88 = .ok (.iastore, 1) := by decide +kernel
theorem dX11_numbers_89 : decode cX11_numbers 89 = .ok (.iinc 3 1, 3) := by decide +kernel
theorem dX11_numbers_92 : decode cX11_numbers 92 = .ok (.goto (-44), 3) := by decide +kernel
theorem dX11_numbers_95 : decode cX11_numbers 95 = .ok (.iconst 0, 1) := by decide +kernel
theorem dX11_numbers_96 : decode cX11_numbers 96 = .ok (.istore_n 3, 1) := by decide +kernel
theorem dX11_numbers_97 : decode cX11_numbers 97 = .ok (.iload_n 3, 1) := by decide +kernel
theorem dX11_numbers_98 : decode cX11_numbers 98 = .ok (.aload_n 0, 1) := by decide +kernel
theorem dX11_numbers_99 : decode cX11_numbers 99 = .ok (.getfield 22, 3) := by decide +kernel
theorem dX11_numbers_102 : decode cX11_numbers 102 = .ok (.iload_n 2, 1) := by decide +kernel
theorem dX11_numbers_103 : decode cX11_numbers 103 = .ok (.iaload, 1) := by decide +kernel
theorem dX11_numbers_104 : decode cX11_numbers 104 = .ok (.if_icmp .ge 97, 3) := by decide +kernel
theorem dX11_numbers_107 : decode cX11_numbers 107 = .ok (.bipush 100, 2) := by decide +kernel
theorem dX11_numbers_109 : decode cX11_numbers 109 = .ok (.iload_n 2, 1) := by decide +kernel
theorem dX11_numbers_110 : decode cX11_numbers 110 = .ok (.imul, 1) := by decide +kernel
theorem dX11_numbers_111 : decode cX11_numbers 111 = .ok (.iload_n 3, 1) := by decide +kernel
theorem dX11_numbers_112 : decode cX11_numbers 112 = .ok (.iadd, 1) := by decide +kernel
theorem dX11_numbers_113 : decode cX11_numbers 113 = .ok (.istore 4, 2) := by decide +kernel
theorem dX11_numbers_115 : decode cX11_numbers 115 = .ok (.aload_n 0, 1) := by decide +kernel
theorem dX11_numbers_116 : decode cX11_numbers 116 = .ok (.getfield 80, 3) := by decide +kernel
theorem dX11_numbers_119 : decode cX11_numbers 119 = .ok (.iload 4, 2) := by decide +kernel
theorem dX11_numbers_121 : decode cX11_numbers 121 = .ok (.iconst (-1), 1) := by decide +kernel
theorem dX11_numbers_122 : decode cX11_numbers 122 = .ok (.iastore, 1) := by decide +kernel
theorem dX11_numbers_123 : decode cX11_numbers 123 = .ok (.aload_n 0, 1) := by decide +kernel
theorem dX11_numbers_124 : decode cX11_numbers 124 = .ok (.getfield 7, 3) := by decide +kernel
theorem dX11_numbers_127 : decode cX11_numbers 127 = .ok (.iload 4, 2) := by decide +kernel
theorem dX11_numbers_129 : decode cX11_numbers 129 = .ok (.iaload, 1) := by decide +kernel
theorem dX11_numbers_130 : decode cX11_numbers 130 = .ok (.iconst 2, 1) := by decide +kernel
theorem dX11_numbers_131 : decode cX11_numbers 131 = .ok (.if_icmp .eq 64, 3) := by decide +kernel
theorem dX11_numbers_134 : decode cX11_numbers 134 = .ok (.aload_n 0, 1) := by decide +kernel
theorem dX11_numbers_135 : decode cX11_numbers 135 = .ok (.getfield 7, 3) := by decide +kernel
theorem dX11_numbers_138 : decode cX11_numbers 138 = .ok (.iload 4, 2) := by decide +kernel
theorem dX11_numbers_140 : decode cX11_numbers 140 = .ok (.iaload, 1) := by decide +kernel
theorem dX11_numbers_141 : decode cX11_numbers 141 = .ok (.bipush 14, 2) := by decide +kernel
theorem dX11_numbers_143 : decode cX11_numbers 143 = .ok (.if_icmp .eq 52, 3) := by decide +kernel
theorem dX11_numbers_146 : decode cX11_numbers 146 = .ok (.aload_n 0, 1) := by decide +kernel
theorem dX11_numbers_147 : decode cX11_numbers 147 = .ok (.getfield 80, 3) := by decide +kernel
theorem dX11_numbers_150 : decode cX11_numbers 150 = .ok (.iload 4, 2) := by decide +kernel
theorem dX11_numbers_152 : decode cX11_numbers 152 = .ok (.aload_n 0, 1) := by decide +kernel
theorem dX11_numbers_153 : decode cX11_numbers 153 = .ok (.aload_n 0, 1) := by decide +kernel
theorem dX11_numbers_154 : decode cX11_numbers 154 = .ok (.getfield 7, 3) := by decide +kernel
theorem dX11_numbers_157 : decode cX11_numbers 157 = .ok (.iload 4, 2) := by decide +kernel
theorem dX11_numbers_159 : decode cX11_numbers 159 = .ok (.iaload, 1) := by decide +kernel
theorem dX11_numbers_160 : decode cX11_numbers 160 = .ok (.iload_n 2, 1) := by decide +kernel
theorem dX11_numbers_161 : decode cX11_numbers 161 = .ok (.aload_n 0, 1) := by decide +kernel
theorem dX11_numbers_162 : decode cX11_numbers 162 = .ok (.getfield 13, 3) := by decide +kernel
theorem dX11_numbers_165 : decode cX11_numbers 165 = .ok (.iload 4, 2) := by decide +kernel
theorem dX11_numbers_167 : decode cX11_numbers 167 = .ok (.iaload, 1) := by decide +kernel
theorem dX11_numbers_168 : decode cX11_numbers 168 = .ok (.aload_n 0, 1) := by decide +kernel
theorem dX11_numbers_169 : decode cX11_numbers 169 = .ok (.getfield 7, 3) := by decide +kernel
theorem dX11_numbers_172 : decode cX11_numbers 172 = .ok (.iload 4, 2) := by decide +kernel
theorem dX11_numbers_174 : decode cX11_numbers 174 = .ok (.iaload, 1) := by decide +kernel
theorem dX11_numbers_175 : decode cX11_numbers 175 = .ok (.iconst 2, 1) := by decide +kernel
theorem dX11_numbers_176 : decode cX11_numbers 176 = .ok (.if_icmp .ge 13, 3) := by decide +kernel
theorem dX11_numbers_179 : decode cX11_numbers 179 = .ok (.aload_n 0, 1) := by decide +kernel
theorem dX11_numbers_180 : decode cX11_numbers 180 = .ok (.getfield 16, 3) := by decide +kernel
theorem dX11_numbers_183 : decode cX11_numbers 183 = .ok (.iload 4, 2) := by decide +kernel
theorem dX11_numbers_185 : decode cX11_numbers 185 = .ok (.iaload, 1) := by decide +kernel
theorem dX11_numbers_186 : decode cX11_numbers 186 = .ok (.goto 4, 3) := by decide +kernel
theorem dX11_numbers_189 : decode cX11_numbers 189 = .ok (.iconst (-1), 1) := by decide +kernel
theorem dX11_numbers_190 : decode cX11_numbers 190 = .ok (.iload_n 3, 1) := by decide +kernel
theorem dX11_numbers_191 : decode cX11_numbers 191 = .ok (.invokevirtual 158, 3) := by decide +kernel
theorem dX11_numbers_194 : decode cX11_numbers 194 = .ok (.iastore, 1) := by decide +kernel
theorem dX11_numbers_195 : decode cX11_numbers 195 = .ok (.iinc 3 1, 3) := by decide +kernel
theorem dX11_numbers_198 : decode cX11_numbers 198 = .ok (.goto (-101), 3) := by decide +kernel
theorem dX11_numbers_201 : decode cX11_numbers 201 = .ok (.iinc 2 1, 3) := by decide +kernel
theorem dX11_numbers_204 : decode cX11_numbers 204 = .ok (.goto (-178), 3) := by decide +kernel
theorem dX11_numbers_207 : decode cX11_numbers 207 = .ok (.return_, 1) := by decide +kernel
theorem dX11_adds_0 : decode cX11_adds 0 = .ok (.aload_n 0, 1) := by decide +kernel
theorem dX11_adds_1 : decode cX11_adds 1 = .ok (.getfield 71, 3) := by decide +kernel
theorem dX11_adds_4 : decode cX11_adds 4 = .ok (.bipush 20, 2) := by decide +kernel
theorem dX11_adds_6 : decode cX11_adds 6 = .ok (.iload_n 1, 1) := by decide +kernel
theorem dX11_adds_7 : decode cX11_adds 7 = .ok (.imul, 1) := by decide +kernel
theorem dX11_adds_8 : decode cX11_adds 8 = .ok (.aload_n 0, 1) := by decide +kernel
theorem dX11_adds_9 : decode cX11_adds 9 = .ok (.getfield 74, 3) := by decide +kernel
theorem dX11_adds_12 : decode cX11_adds 12 = .ok (.iload_n 1, 1) := by decide +kernel
theorem dX11_adds_13 : decode cX11_adds 13 = .ok (.iaload, 1) := by decide +kernel
theorem dX11_adds_14 : decode cX11_adds 14 = .ok (.iadd, 1) := by decide +kernel
theorem dX11_adds_15 : decode cX11_adds 15 = .ok (.iload_n 2, 1) := by decide +kernel
theorem dX11_adds_16 : decode cX11_adds 16 = .ok (.iastore, 1) := by decide +kernel
theorem dX11_adds_17 : decode cX11_adds 17 = .ok (.aload_n 0, 1) := by decide +kernel
theorem dX11_adds_18 : decode cX11_adds 18 = .ok (.getfield 74, 3) := by decide +kernel
theorem dX11_adds_21 : decode cX11_adds 21 = .ok (.iload_n 1, 1) := by decide +kernel
theorem dX11_adds_22 : decode cX11_adds 22 = .ok (.dup2, 1) := by decide +kernel
theorem dX11_adds_23 : decode cX11_adds 23 = .ok (.iaload, 1) := by decide +kernel
theorem dX11_adds_24 : decode cX11_adds 24 = .ok (.iconst 1, 1) := by decide +kernel
theorem dX11_adds_25 : decode cX11_adds 25 = .ok (.iadd, 1) := by decide +kernel
theorem dX11_adds_26 : decode cX11_adds 26 = .ok (.iastore, 1) := by decide +kernel
theorem dX11_adds_27 : decode cX11_adds 27 = .ok (.return_, 1) := by decide +kernel
theorem dX11_names_0 : decode cX11_names 0 = .ok (.iconst 0, 1) := by decide +kernel
theorem dX11_names_1 : decode cX11_names 1 = .ok (.istore_n 1, 1) := by decide +kernel
theorem dX11_names_2 : decode cX11_names 2 = .ok (.iload_n 1, 1) := by decide +kernel
theorem dX11_names_3 : decode cX11_names 3 = .ok (.aload_n 0, 1) := by decide +kernel
theorem dX11_names_4 : decode cX11_names 4 = .ok (.getfield 120, 3) := by decide +kernel
theorem dX11_names_7 : decode cX11_names 7 = .ok (.if_icmp .ge 29, 3) := by decide +kernel
theorem dX11_names_10 : decode cX11_names 10 = .ok (.aload_n 0, 1) := by decide +kernel
theorem dX11_names_11 : decode cX11_names 11 = .ok (.getfield 41, 3) := by decide +kernel
theorem dX11_names_14 : decode cX11_names 14 = .ok (.iload_n 1, 1) := by decide +kernel
theorem dX11_names_15 : decode cX11_names 15 = .ok (.aload_n 0, 1) := by decide +kernel
theorem dX11_names_16 : decode cX11_names 16 = .ok (.getfield 37, 3) := by decide +kernel
theorem dX11_names_19 : decode cX11_names 19 = .ok (.iload_n 1, 1) := by decide +kernel
theorem dX11_names_20 : decode cX11_names 20 = .ok (.baload, 1) := by decide +kernel
theorem dX11_names_21 : decode cX11_names 21 = .ok (.ifCond .ne 7, 3) := by decide +kernel
theorem dX11_names_24 : decode cX11_names 24 = .ok (.iconst 1, 1) := by decide +kernel
theorem dX11_names_25 : decode cX11_names 25 = .ok (.goto 4, 3) := by decide +kernel
theorem dX11_names_28 : decode cX11_names 28 = .ok (.iconst 0, 1) := by decide +kernel
theorem dX11_names_29 : decode cX11_names 29 = .ok (.bastore, 1) := by decide +kernel
theorem dX11_names_30 : decode cX11_names 30 = .ok (.iinc 1 1, 3) := by decide +kernel
theorem dX11_names_33 : decode cX11_names 33 = .ok (.goto (-31), 3) := by decide +kernel
theorem dX11_names_36 : decode cX11_names 36 = .ok (.iconst 1, 1) := by decide +kernel
theorem dX11_names_37 : decode cX11_names 37 = .ok (.istore_n 1, 1) := by decide +kernel
theorem dX11_names_38 : decode cX11_names 38 = .ok (.iload_n 1, 1) := by decide +kernel
theorem dX11_names_39 : decode cX11_names 39 = .ok (.ifCond .eq 195, 3) := by decide +kernel
theorem dX11_names_42 : decode cX11_names 42 = .ok (.iconst 0, 1) := by decide +kernel
theorem dX11_names_43 : decode cX11_names 43 = .ok (.istore_n 1, 1) := by decide +kernel
theorem dX11_names_44 : decode cX11_names 44 = .ok (.iconst 0, 1) := by decide +kernel
theorem dX11_names_45 : decode cX11_names 45 = .ok (.istore_n 2, 1) := by decide +kernel
theorem dX11_names_46 : decode cX11_names 46 = .ok (.iload_n 2, 1) := by decide +kernel
theorem dX11_names_47 : decode cX11_names 47 = .ok (.aload_n 0, 1) := by decide +kernel
theorem dX11_names_48 : decode cX11_names 48 = .ok (.getfield 120, 3) := by decide +kernel
theorem dX11_names_51 : decode cX11_names 51 = .ok (.if_icmp .ge 180, 3) := by decide +kernel
theorem dX11_names_54 : decode cX11_names 54 = .ok (.aload_n 0, 1) := by decide +kernel
theorem dX11_names_55 : decode cX11_names 55 = .ok (.getfield 41, 3) := by decide +kernel
theorem dX11_names_58 : decode cX11_names 58 = .ok (.iload_n 2, 1) := by decide +kernel
theorem dX11_names_59 : decode cX11_names 59 = .ok (.baload, 1) := by decide +kernel
theorem dX11_names_60 : decode cX11_names 60 = .ok (.ifCond .ne 165, 3) := by decide +kernel
theorem dX11_names_63 : decode cX11_names 63 = .ok (.iload_n 2, 1) := by decide +kernel
theorem dX11_names_64 : decode cX11_names 64 = .ok (.ifCond .le 20, 3) := by decide +kernel
theorem dX11_names_67 : decode cX11_names 67 = .ok (.aload_n 0, 1) := by decide +kernel
theorem dX11_names_68 : decode cX11_names 68 = .ok (.getfield 41, 3) := by decide +kernel
theorem dX11_names_71 : decode cX11_names 71 = .ok (.aload_n 0, 1) := by decide +kernel
theorem dX11_names_72 : decode cX11_names 72 = .ok (.getfield 47, 3) := by decide +kernel
theorem dX11_names_75 : decode cX11_names 75 = .ok (.iload_n 2, 1) := by decide +kernel
theorem dX11_names_76 : decode cX11_names 76 = .ok (.iaload, 1) := by decide +kernel
theorem dX11_names_77 : decode cX11_names 77 = .ok (.baload, 1) := by decide +kernel
theorem dX11_names_78 : decode cX11_names 78 = .ok (.ifCond .ne 6, 3) := by decide +kernel
theorem dX11_names_81 : decode cX11_names 81 = .ok (.goto 144, 3) := by decide +kernel
theorem dX11_names_84 : decode cX11_names 84 = .ok (.aload_n 0, 1) := by decide +kernel
theorem dX11_names_85 : decode cX11_names 85 = .ok (.getfield 41, 3) := by decide +kernel
theorem dX11_names_88 : decode cX11_names 88 = .ok (.iload_n 2, 1) := by decide +kernel
theorem dX11_names_89 : decode cX11_names 89 = .ok (.iconst 1, 1) := by decide +kernel
theorem dX11_names_90 : decode cX11_names 90 = .ok (.bastore, 1) := by decide +kernel
theorem dX11_names_91 : decode cX11_names 91 = .ok (.iconst 1, 1) := by decide +kernel
theorem dX11_names_92 : decode cX11_names 92 = .ok (.istore_n 1, 1) := by decide +kernel
theorem dX11_names_93 : decode cX11_names 93 = .ok (.iconst 0, 1) := by decide +kernel
theorem dX11_names_94 : decode cX11_names 94 = .ok (.istore_n 3, 1) := by decide +kernel
theorem dX11_names_95 : decode cX11_names 95 = .ok (.iload_n 3, 1) := by decide +kernel
theorem dX11_names_96 : decode cX11_names 96 = .ok (.bipush 10, 2) := by decide +kernel
theorem dX11_names_98 : decode cX11_names 98 = .ok (.if_icmp .ge 84, 3) := by decide +kernel
theorem dX11_names_101 : decode cX11_names 101 = .ok (.aload_n 0, 1) := by decide +kernel
theorem dX11_names_102 : decode cX11_names 102 = .ok (.getfield 89, 3) := by decide +kernel
theorem dX11_names_105 : decode cX11_names 105 = .ok (.iload_n 3, 1) := by decide +kernel
theorem dX11_names_106 : decode cX11_names 106 = .ok (.aload_n 0, 1) := by decide +kernel
theorem dX11_names_107 : decode cX11_names 107 = .ok (.getfield 53, 3) := by decide +kernel
theorem dX11_names_110 : decode cX11_names 110 = .ok (.bipush 10, 2) := by decide +kernel
theorem dX11_names_112 : decode cX11_names 112 = .ok (.iload_n 2, 1) := by decide +kernel
theorem dX11_names_113 : decode cX11_names 113 = .ok (.imul, 1) := by decide +kernel
theorem dX11_names_114 : decode cX11_names 114 = .ok (.iload_n 3, 1) := by decide +kernel
theorem dX11_names_115 : decode cX11_names 115 = .ok (.iadd, 1) := by decide +kernel
theorem dX11_names_116 : decode cX11_names 116 = .ok (.baload, 1) := by decide +kernel
theorem dX11_names_117 : decode cX11_names 117 = .ok (.ifCond .eq 17, 3) := by decide +kernel
theorem dX11_names_120 : decode cX11_names 120 = .ok (.aload_n 0, 1) := by decide +kernel
theorem dX11_names_121 : decode cX11_names 121 = .ok (.getfield 77, 3) := by decide +kernel
theorem dX11_names_124 : decode cX11_names 124 = .ok (.bipush 10, 2) := by decide +kernel
theorem dX11_names_126 : decode cX11_names 126 = .ok (.iload_n 2, 1) := by decide +kernel
theorem dX11_names_127 : decode cX11_names 127 = .ok (.imul, 1) := by decide +kernel
theorem dX11_names_128 : decode cX11_names 128 = .ok (.iload_n 3, 1) := by decide +kernel
theorem dX11_names_129 : decode cX11_names 129 = .ok (.iadd, 1) := by decide +kernel
theorem dX11_names_130 : decode cX11_names 130 = .ok (.iaload, 1) := by decide +kernel
theorem dX11_names_131 : decode cX11_names 131 = .ok (.goto 27, 3) := by decide +kernel
theorem dX11_names_134 : decode cX11_names 134 = .ok (.iload_n 2, 1) := by decide +kernel
theorem dX11_names_135 : decode cX11_names 135 = .ok (.ifCond .ne 7, 3) := by decide +kernel
theorem dX11_names_138 : decode cX11_names 138 = .ok (.iconst 0, 1) := by decide +kernel
theorem dX11_names_139 : decode cX11_names 139 = .ok (.goto 19, 3) := by decide +kernel
theorem dX11_names_142 : decode cX11_names 142 = .ok (.aload_n 0, 1) := by decide +kernel
theorem dX11_names_143 : decode cX11_names 143 = .ok (.getfield 86, 3) := by decide +kernel
theorem dX11_names_146 : decode cX11_names 146 = .ok (.bipush 10, 2) := by decide +kernel
theorem dX11_names_148 : decode cX11_names 148 = .ok (.aload_n 0, 1) := by decide +kernel
theorem dX11_names_149 : decode cX11_names 149 = .ok (.getfield 47, 3) := by decide +kernel
theorem dX11_names_152 : decode cX11_names 152 = .ok (.iload_n 2, 1) := by decide +kernel
theorem dX11_names_153 : decode cX11_names 153 = .ok (.iaload, 1) := by decide +kernel
theorem dX11_names_154 : decode cX11_names 154 = .ok (.imul, 1) := by decide +kernel
theorem dX11_names_155 : decode cX11_names 155 = .ok (.iload_n 3, 1) := by decide +kernel
theorem dX11_names_156 : decode cX11_names 156 = .ok (.iadd, 1) := by decide +kernel
theorem dX11_names_157 : decode cX11_names 157 = .ok (.iaload, 1) := by decide +kernel
theorem dX11_names_158 : decode cX11_names 158 = .ok (.iastore, 1) := by decide +kernel
theorem dX11_names_159 : decode cX11_names 159 = .ok (.aload_n 0, 1) := by decide +kernel
theorem dX11_names_160 : decode cX11_names 160 = .ok (.getfield 83, 3) := by decide +kernel
theorem dX11_names_163 : decode cX11_names 163 = .ok (.bipush 10, 2) := by decide +kernel
theorem dX11_names_165 : decode cX11_names 165 = .ok (.iload_n 2, 1) := by decide +kernel
theorem dX11_names_166 : decode cX11_names 166 = .ok (.imul, 1) := by decide +kernel
theorem dX11_names_167 : decode cX11_names 167 = .ok (.iload_n 3, 1) := by decide +kernel
theorem dX11_names_168 : decode cX11_names 168 = .ok (.iadd, 1) := by decide +kernel
theorem dX11_names_169 : decode cX11_names 169 = .ok (.aload_n 0, 1) := by decide +kernel
theorem dX11_names_170 : decode cX11_names 170 = .ok (.getfield 89, 3) := by decide +kernel
theorem dX11_names_173 : decode cX11_names 173 = .ok (.iload_n 3, 1) := by decide +kernel
theorem dX11_names_174 : decode cX11_names 174 = .ok (.iaload, 1) := by decide +kernel
theorem dX11_names_175 : decode cX11_names 175 = .ok (.iastore, 1) := by decide +kernel
theorem dX11_names_176 : decode cX11_names 176 = .ok (.iinc 3 1, 3) := by decide +kernel
theorem dX11_names_179 : decode cX11_names 179 = .ok (.goto (-84), 3) := by decide +kernel
theorem dX11_names_182 : decode cX11_names 182 = .ok (.aload_n 0, 1) := by decide +kernel
theorem dX11_names_183 : decode cX11_names 183 = .ok (.iload_n 2, 1) := by decide +kernel
theorem dX11_names_184 : decode cX11_names 184 = .ok (.aload_n 0, 1) := by decide +kernel
theorem dX11_names_185 : decode cX11_names 185 = .ok (.getfield 22, 3) := by decide +kernel
theorem dX11_names_188 : decode cX11_names 188 = .ok (.iload_n 2, 1) := by decide +kernel
theorem dX11_names_189 : decode cX11_names 189 = .ok (.iaload, 1) := by decide +kernel
theorem dX11_names_190 : decode cX11_names 190 = .ok (.iconst 1, 1) := by decide +kernel
theorem dX11_names_191 : decode cX11_names 191 = .ok (.invokevirtual 162, 3) := by decide +kernel
theorem dX11_names_194 : decode cX11_names 194 = .ok (.iconst 0, 1) := by decide +kernel
theorem dX11_names_195 : decode cX11_names 195 = .ok (.istore_n 3, 1) := by decide +kernel
theorem dX11_names_196 : decode cX11_names 196 = .ok (.iload_n 3, 1) := by decide +kernel
theorem dX11_names_197 : decode cX11_names 197 = .ok (.bipush 10, 2) := by decide +kernel
theorem dX11_names_199 : decode cX11_names 199 = .ok (.if_icmp .ge 26, 3) := by decide +kernel
theorem dX11_names_202 : decode cX11_names 202 = .ok (.aload_n 0, 1) := by decide +kernel
theorem dX11_names_203 : decode cX11_names 203 = .ok (.getfield 86, 3) := by decide +kernel
theorem dX11_names_206 : decode cX11_names 206 = .ok (.bipush 10, 2) := by decide +kernel
theorem dX11_names_208 : decode cX11_names 208 = .ok (.iload_n 2, 1) := by decide +kernel
theorem dX11_names_209 : decode cX11_names 209 = .ok (.imul, 1) := by decide +kernel
theorem dX11_names_210 : decode cX11_names 210 = .ok (.iload_n 3, 1) := by decide +kernel
theorem dX11_names_211 : decode cX11_names 211 = .ok (.iadd, 1) := by decide +kernel
theorem dX11_names_212 : decode cX11_names 212 = .ok (.aload_n 0, 1) := by decide +kernel
theorem dX11_names_213 : decode cX11_names 213 = .ok (.getfield 89, 3) := by decide +kernel
theorem dX11_names_216 : decode cX11_names 216 = .ok (.iload_n 3, 1) := by decide +kernel
theorem dX11_names_217 : decode cX11_names 217 = .ok (.iaload, 1) := by decide +kernel
theorem dX11_names_218 : decode cX11_names 218 = .ok (.iastore, 1) := by decide +kernel
theorem dX11_names_219 : decode cX11_names 219 = .ok (.iinc 3 1, 3) := by decide +kernel
theorem dX11_names_222 : decode cX11_names 222 = .ok (.goto (-26), 3) := by decide +kernel
theorem dX11_names_225 : decode cX11_names 225 = .ok (.iinc 2 1, 3) := by decide +kernel
theorem dX11_names_228 : decode cX11_names 228 = .ok (.goto (-182), 3) := by decide +kernel
theorem dX11_names_231 : decode cX11_names 231 = .ok (.goto (-193), 3) := by decide +kernel
theorem dX11_names_234 : decode cX11_names 234 = .ok (.iconst 0, 1) := by decide +kernel
theorem dX11_names_235 : decode cX11_names 235 = .ok (.istore_n 2, 1) := by decide +kernel
theorem dX11_names_236 : decode cX11_names 236 = .ok (.iload_n 2, 1) := by decide +kernel
theorem dX11_names_237 : decode cX11_names 237 = .ok (.aload_n 0, 1) := by decide +kernel
theorem dX11_names_238 : decode cX11_names 238 = .ok (.getfield 120, 3) := by decide +kernel
theorem dX11_names_241 : decode cX11_names 241 = .ok (.if_icmp .ge 129, 3) := by decide +kernel
theorem dX11_names_244 : decode cX11_names 244 = .ok (.iconst 0, 1) := by decide +kernel
theorem dX11_names_245 : decode cX11_names 245 = .ok (.istore_n 3, 1) := by decide +kernel
theorem dX11_names_246 : decode cX11_names 246 = .ok (.aload_n 0, 1) := by decide +kernel
theorem dX11_names_247 : decode cX11_names 247 = .ok (.getfield 37, 3) := by decide +kernel
theorem dX11_names_250 : decode cX11_names 250 = .ok (.iload_n 2, 1) := by decide +kernel
theorem dX11_names_251 : decode cX11_names 251 = .ok (.baload, 1) := by decide +kernel
theorem dX11_names_252 : decode cX11_names 252 = .ok (.ifCond .eq 112, 3) := by decide +kernel
theorem dX11_names_255 : decode cX11_names 255 = .ok (.iload_n 3, 1) := by decide +kernel
theorem dX11_names_256 : decode cX11_names 256 = .ok (.bipush 10, 2) := by decide +kernel
theorem dX11_names_258 : decode cX11_names 258 = .ok (.if_icmp .ge 106, 3) := by decide +kernel
theorem dX11_names_261 : decode cX11_names 261 = .ok (.aload_n 0, 1) := by decide +kernel
theorem dX11_names_262 : decode cX11_names 262 = .ok (.getfield 53, 3) := by decide +kernel
theorem dX11_names_265 : decode cX11_names 265 = .ok (.bipush 10, 2) := by decide +kernel
theorem dX11_names_267 : decode cX11_names 267 = .ok (.iload_n 2, 1) := by decide +kernel
theorem dX11_names_268 : decode cX11_names 268 = .ok (.imul, 1) := by decide +kernel
theorem dX11_names_269 : decode cX11_names 269 = .ok (.iload_n 3, 1) := by decide +kernel
theorem dX11_names_270 : decode cX11_names 270 = .ok (.iadd, 1) := by decide +kernel
theorem dX11_names_271 : decode cX11_names 271 = .ok (.baload, 1) := by decide +kernel
theorem dX11_names_272 : decode cX11_names 272 = .ok (.ifCond .ne 6, 3) := by decide +kernel
theorem dX11_names_275 : decode cX11_names 275 = .ok (.goto 83, 3) := by decide +kernel
theorem dX11_names_278 : decode cX11_names 278 = .ok (.aload_n 0, 1) := by decide +kernel
theorem dX11_names_279 : decode cX11_names 279 = .ok (.getfield 77, 3) := by decide +kernel
theorem dX11_names_282 : decode cX11_names 282 = .ok (.bipush 10, 2) := by decide +kernel
theorem dX11_names_284 : decode cX11_names 284 = .ok (.iload_n 2, 1) := by decide +kernel
theorem dX11_names_285 : decode cX11_names 285 = .ok (.imul, 1) := by decide +kernel
theorem dX11_names_286 : decode cX11_names 286 = .ok (.iload_n 3, 1) := by decide +kernel
theorem dX11_names_287 : decode cX11_names 287 = .ok (.iadd, 1) := by decide +kernel
theorem dX11_names_288 : decode cX11_names 288 = .ok (.iaload, 1) := by decide +kernel
theorem dX11_names_289 : decode cX11_names 289 = .ok (.istore 4, 2) := by decide +kernel
theorem dX11_names_291 : decode cX11_names 291 = .ok (.iconst 0, 1) := by decide +kernel
theorem dX11_names_292 : decode cX11_names 292 = .ok (.istore 5, 2) := by decide +kernel
theorem dX11_names_294 : decode cX11_names 294 = .ok (.iload 5, 2) := by decide +kernel
theorem dX11_names_296 : decode cX11_names 296 = .ok (.aload_n 0, 1) := by decide +kernel
theorem dX11_names_297 : decode cX11_names 297 = .ok (.getfield 120, 3) := by decide +kernel
theorem dX11_names_300 : decode cX11_names 300 = .ok (.if_icmp .ge 47, 3) := by decide +kernel
theorem dX11_names_303 : decode cX11_names 303 = .ok (.aload_n 0, 1) := by decide +kernel
theorem dX11_names_304 : decode cX11_names 304 = .ok (.getfield 37, 3) := by decide +kernel
theorem dX11_names_307 : decode cX11_names 307 = .ok (.iload 5, 2) := by decide +kernel
theorem dX11_names_309 : decode cX11_names 309 = .ok (.baload, 1) := by decide +kernel
theorem dX11_names_310 : decode cX11_names 310 = .ok (.ifCond .eq 31, 3) := by decide +kernel
theorem dX11_names_313 : decode cX11_names 313 = .ok (.aload_n 0, 1) := by decide +kernel
theorem dX11_names_314 : decode cX11_names 314 = .ok (.iload 5, 2) := by decide +kernel
theorem dX11_names_316 : decode cX11_names 316 = .ok (.iload_n 2, 1) := by decide +kernel
theorem dX11_names_317 : decode cX11_names 317 = .ok (.invokevirtual 141, 3) := by decide +kernel
theorem dX11_names_320 : decode cX11_names 320 = .ok (.ifCond .eq 21, 3) := by decide +kernel
theorem dX11_names_323 : decode cX11_names 323 = .ok (.aload_n 0, 1) := by decide +kernel
theorem dX11_names_324 : decode cX11_names 324 = .ok (.iload 4, 2) := by decide +kernel
theorem dX11_names_326 : decode cX11_names 326 = .ok (.aload_n 0, 1) := by decide +kernel
theorem dX11_names_327 : decode cX11_names 327 = .ok (.getfield 86, 3) := by decide +kernel
theorem dX11_names_330 : decode cX11_names 330 = .ok (.bipush 10, 2) := by decide +kernel
theorem dX11_names_332 : decode cX11_names 332 = .ok (.iload 5, 2) := by decide +kernel
theorem dX11_names_334 : decode cX11_names 334 = .ok (.imul, 1) := by decide +kernel
theorem dX11_names_335 : decode cX11_names 335 = .ok (.iload_n 3, 1) := by decide +kernel
theorem dX11_names_336 : decode cX11_names 336 = .ok (.iadd, 1) := by decide +kernel
theorem dX11_names_337 : decode cX11_names 337 = .ok (.iaload, 1) := by decide +kernel
theorem dX11_names_338 : decode cX11_names 338 = .ok (.invokevirtual 166, 3) := by decide +kernel
theorem dX11_names_341 : decode cX11_names 341 = .ok (.iinc 5 1, 3) := by decide +kernel
theorem dX11_names_344 : decode cX11_names 344 = .ok (.goto (-50), 3) := by decide +kernel
theorem dX11_names_347 : decode cX11_names 347 = .ok (.iload_n 2, 1) := by decide +kernel
theorem dX11_names_348 : decode cX11_names 348 = .ok (.ifCond .ne 10, 3) := by decide +kernel
theorem dX11_names_351 : decode cX11_names 351 = .ok (.aload_n 0, 1) := by decide +kernel
theorem dX11_names_352 : decode cX11_names 352 = .ok (.iload 4, 2) := by decide +kernel
theorem dX11_names_354 : decode cX11_names 354 = .ok (.iconst 0, 1) := by decide +kernel
theorem dX11_names_355 : decode cX11_names 355 = .ok (.invokevirtual 166, 3) := by decide +kernel
theorem dX11_names_358 : decode cX11_names 358 = .ok (.iinc 3 1, 3) := by decide +kernel
theorem dX11_names_361 : decode cX11_names 361 = .ok (.goto (-115), 3) := by decide +kernel
theorem dX11_names_364 : decode cX11_names 364 = .ok (.iinc 2 1, 3) := by decide +kernel
theorem dX11_names_367 : decode cX11_names 367 = .ok (.goto (-131), 3) := by decide +kernel
theorem dX11_names_370 : decode cX11_names 370 = .ok (.return_, 1) := by decide +kernel
theorem dX11_through_0 : decode cX11_through 0 = .ok (.iconst 0, 1) := by decide +kernel
theorem dX11_through_1 : decode cX11_through 1 = .ok (.istore 4, 2) := by decide +kernel
theorem dX11_through_3 : decode cX11_through 3 = .ok (.iload 4, 2) := by decide +kernel
theorem dX11_through_5 : decode cX11_through 5 = .ok (.iload_n 2, 1) := by decide +kernel
theorem dX11_through_6 : decode cX11_through 6 = .ok (.if_icmp .ge 151, 3) := by decide +kernel
theorem dX11_through_9 : decode cX11_through 9 = .ok (.bipush 100, 2) := by decide +kernel
theorem dX11_through_11 : decode cX11_through 11 = .ok (.iload_n 1, 1) := by decide +kernel
theorem dX11_through_12 : decode cX11_through 12 = .ok (.imul, 1) := by decide +kernel
theorem dX11_through_13 : decode cX11_through 13 = .ok (.iload 4, 2) := by decide +kernel
theorem dX11_through_15 : decode cX11_through 15 = .ok (.iadd, 1) := by decide +kernel
theorem dX11_through_16 : decode cX11_through 16 = .ok (.istore 5, 2) := by decide +kernel
theorem dX11_through_18 : decode cX11_through 18 = .ok (.aload_n 0, 1) := by decide +kernel
theorem dX11_through_19 : decode cX11_through 19 = .ok (.getfield 7, 3) := by decide +kernel
theorem dX11_through_22 : decode cX11_through 22 = .ok (.iload 5, 2) := by decide +kernel
theorem dX11_through_24 : decode cX11_through 24 = .ok (.iaload, 1) := by decide +kernel
theorem dX11_through_25 : decode cX11_through 25 = .ok (.bipush 14, 2) := by decide +kernel
theorem dX11_through_27 : decode cX11_through 27 = .ok (.if_icmp .ne 6, 3) := by decide +kernel
theorem dX11_through_30 : decode cX11_through 30 = .ok (.goto 121, 3) := by decide +kernel
theorem dX11_through_33 : decode cX11_through 33 = .ok (.aload_n 0, 1) := by decide +kernel
theorem dX11_through_34 : decode cX11_through 34 = .ok (.getfield 7, 3) := by decide +kernel
theorem dX11_through_37 : decode cX11_through 37 = .ok (.iload 5, 2) := by decide +kernel
theorem dX11_through_39 : decode cX11_through 39 = .ok (.iaload, 1) := by decide +kernel
theorem dX11_through_40 : decode cX11_through 40 = .ok (.iconst 2, 1) := by decide +kernel
theorem dX11_through_41 : decode cX11_through 41 = .ok (.if_icmp .ne 30, 3) := by decide +kernel
theorem dX11_through_44 : decode cX11_through 44 = .ok (.aload_n 0, 1) := by decide +kernel
theorem dX11_through_45 : decode cX11_through 45 = .ok (.getfield 89, 3) := by decide +kernel
theorem dX11_through_48 : decode cX11_through 48 = .ok (.aload_n 0, 1) := by decide +kernel
theorem dX11_through_49 : decode cX11_through 49 = .ok (.getfield 13, 3) := by decide +kernel
theorem dX11_through_52 : decode cX11_through 52 = .ok (.iload 5, 2) := by decide +kernel
theorem dX11_through_54 : decode cX11_through 54 = .ok (.iaload, 1) := by decide +kernel
theorem dX11_through_55 : decode cX11_through 55 = .ok (.aload_n 0, 1) := by decide +kernel
theorem dX11_through_56 : decode cX11_through 56 = .ok (.getfield 89, 3) := by decide +kernel
theorem dX11_through_59 : decode cX11_through 59 = .ok (.aload_n 0, 1) := by decide +kernel
theorem dX11_through_60 : decode cX11_through 60 = .ok (.getfield 16, 3) := by decide +kernel
theorem dX11_through_63 : decode cX11_through 63 = .ok (.iload 5, 2) := by decide +kernel
theorem dX11_through_65 : decode cX11_through 65 = .ok (.iaload, 1) := by decide +kernel
theorem dX11_through_66 : decode cX11_through 66 = .ok (.iaload, 1) := by decide +kernel
theorem dX11_through_67 : decode cX11_through 67 = .ok (.iastore, 1) := by decide +kernel
theorem dX11_through_68 : decode cX11_through 68 = .ok (.goto 83, 3) := by decide +kernel
theorem dX11_through_71 : decode cX11_through 71 = .ok (.iload_n 3, 1) := by decide +kernel
theorem dX11_through_72 : decode cX11_through 72 = .ok (.ifCond .eq 60, 3) := by decide +kernel
theorem dX11_through_75 : decode cX11_through 75 = .ok (.aload_n 0, 1) := by decide +kernel
theorem dX11_through_76 : decode cX11_through 76 = .ok (.getfield 7, 3) := by decide +kernel
theorem dX11_through_79 : decode cX11_through 79 = .ok (.iload 5, 2) := by decide +kernel
theorem dX11_through_81 : decode cX11_through 81 = .ok (.iaload, 1) := by decide +kernel
theorem dX11_through_82 : decode cX11_through 82 = .ok (.iconst 3, 1) := by decide +kernel
theorem dX11_through_83 : decode cX11_through 83 = .ok (.if_icmp .lt 49, 3) := by decide +kernel
theorem dX11_through_86 : decode cX11_through 86 = .ok (.aload_n 0, 1) := by decide +kernel
theorem dX11_through_87 : decode cX11_through 87 = .ok (.aload_n 0, 1) := by decide +kernel
theorem dX11_through_88 : decode cX11_through 88 = .ok (.getfield 80, 3) := by decide +kernel
theorem dX11_through_91 : decode cX11_through 91 = .ok (.iload 5, 2) := by decide +kernel
theorem dX11_through_93 : decode cX11_through 93 = .ok (.iaload, 1) := by decide +kernel
theorem dX11_through_94 : decode cX11_through 94 = .ok (.aload_n 0, 1) := by decide +kernel
theorem dX11_through_95 : decode cX11_through 95 = .ok (.getfield 89, 3) := by decide +kernel
theorem dX11_through_98 : decode cX11_through 98 = .ok (.aload_n 0, 1) := by decide +kernel
theorem dX11_through_99 : decode cX11_through 99 = .ok (.getfield 16, 3) := by decide +kernel
theorem dX11_through_102 : decode cX11_through 102 = .ok (.iload 5, 2) := by decide +kernel
theorem dX11_through_104 : decode cX11_through 104 = .ok (.iaload, 1) := by decide +kernel
theorem dX11_through_105 : decode cX11_through 105 = .ok (.iaload, 1) := by decide +kernel
theorem dX11_through_106 : decode cX11_through 106 = .ok (.invokevirtual 166, 3) := by decide +kernel
theorem dX11_through_109 : decode cX11_through 109 = .ok (.aload_n 0, 1) := by decide +kernel
theorem dX11_through_110 : decode cX11_through 110 = .ok (.aload_n 0, 1) := by decide +kernel
theorem dX11_through_111 : decode cX11_through 111 = .ok (.getfield 80, 3) := by decide +kernel
theorem dX11_through_114 : decode cX11_through 114 = .ok (.iload 5, 2) := by decide +kernel
theorem dX11_through_116 : decode cX11_through 116 = .ok (.iaload, 1) := by decide +kernel
theorem dX11_through_117 : decode cX11_through 117 = .ok (.aload_n 0, 1) := by decide +kernel
theorem dX11_through_118 : decode cX11_through 118 = .ok (.getfield 89, 3) := by decide +kernel
theorem dX11_through_121 : decode cX11_through 121 = .ok (.aload_n 0, 1) := by decide +kernel
theorem dX11_through_122 : decode cX11_through 122 = .ok (.getfield 19, 3) := by decide +kernel
theorem dX11_through_125 : decode cX11_through 125 = .ok (.iload 5, 2) := by decide +kernel
theorem dX11_through_127 : decode cX11_through 127 = .ok (.iaload, 1) := by decide +kernel
theorem dX11_through_128 : decode cX11_through 128 = .ok (.iaload, 1) := by decide +kernel
theorem dX11_through_129 : decode cX11_through 129 = .ok (.invokevirtual 166, 3) := by decide +kernel
theorem dX11_through_132 : decode cX11_through 132 = .ok (.aload_n 0, 1) := by decide +kernel
theorem dX11_through_133 : decode cX11_through 133 = .ok (.getfield 89, 3) := by decide +kernel
theorem dX11_through_136 : decode cX11_through 136 = .ok (.aload_n 0, 1) := by decide +kernel
theorem dX11_through_137 : decode cX11_through 137 = .ok (.getfield 13, 3) := by decide +kernel
theorem dX11_through_140 : decode cX11_through 140 = .ok (.iload 5, 2) := by decide +kernel
theorem dX11_through_142 : decode cX11_through 142 = .ok (.iaload, 1) := by decide +kernel
theorem dX11_through_143 : decode cX11_through 143 = .ok (.aload_n 0, 1) := by decide +kernel
theorem dX11_through_144 : decode cX11_through 144 = .ok (.getfield 80, 3) := by decide +kernel
theorem dX11_through_147 : decode cX11_through 147 = .ok (.iload 5, 2) := by decide +kernel
theorem dX11_through_149 : decode cX11_through 149 = .ok (.iaload, 1) := by decide +kernel
theorem dX11_through_150 : decode cX11_through 150 = .ok (.iastore, 1) := by decide +kernel
theorem dX11_through_151 : decode cX11_through 151 = .ok (.iinc 4 1, 3) := by decide +kernel
theorem dX11_through_154 : decode cX11_through 154 = .ok (.goto (-151), 3) := by decide +kernel
theorem dX11_through_157 : decode cX11_through 157 = .ok (.return_, 1) := by decide +kernel
theorem dX11_readAt_0 : decode cX11_readAt 0 = .ok (.iconst 0, 1) := by decide +kernel
theorem dX11_readAt_1 : decode cX11_readAt 1 = .ok (.istore 4, 2) := by decide +kernel
theorem dX11_readAt_3 : decode cX11_readAt 3 = .ok (.iload 4, 2) := by decide +kernel
theorem dX11_readAt_5 : decode cX11_readAt 5 = .ok (.bipush 10, 2) := by decide +kernel
theorem dX11_readAt_7 : decode cX11_readAt 7 = .ok (.if_icmp .ge 28, 3) := by decide +kernel
theorem dX11_readAt_10 : decode cX11_readAt 10 = .ok (.aload_n 0, 1) := by decide +kernel
theorem dX11_readAt_11 : decode cX11_readAt 11 = .ok (.getfield 89, 3) := by decide +kernel
theorem dX11_readAt_14 : decode cX11_readAt 14 = .ok (.iload 4, 2) := by decide +kernel
theorem dX11_readAt_16 : decode cX11_readAt 16 = .ok (.aload_n 0, 1) := by decide +kernel
theorem dX11_readAt_17 : decode cX11_readAt 17 = .ok (.getfield 83, 3) := by decide +kernel
theorem dX11_readAt_20 : decode cX11_readAt 20 = .ok (.bipush 10, 2) := by decide +kernel
theorem dX11_readAt_22 : decode cX11_readAt 22 = .ok (.iload_n 1, 1) := by decide +kernel
theorem dX11_readAt_23 : decode cX11_readAt 23 = .ok (.imul, 1) := by decide +kernel
theorem dX11_readAt_24 : decode cX11_readAt 24 = .ok (.iload 4, 2) := by decide +kernel
theorem dX11_readAt_26 : decode cX11_readAt 26 = .ok (.iadd, 1) := by decide +kernel
theorem dX11_readAt_27 : decode cX11_readAt 27 = .ok (.iaload, 1) := by decide +kernel
theorem dX11_readAt_28 : decode cX11_readAt 28 = .ok (.iastore, 1) := by decide +kernel
theorem dX11_readAt_29 : decode cX11_readAt 29 = .ok (.iinc 4 1, 3) := by decide +kernel
theorem dX11_readAt_32 : decode cX11_readAt 32 = .ok (.goto (-29), 3) := by decide +kernel
theorem dX11_readAt_35 : decode cX11_readAt 35 = .ok (.aload_n 0, 1) := by decide +kernel
theorem dX11_readAt_36 : decode cX11_readAt 36 = .ok (.iload_n 1, 1) := by decide +kernel
theorem dX11_readAt_37 : decode cX11_readAt 37 = .ok (.iload_n 2, 1) := by decide +kernel
theorem dX11_readAt_38 : decode cX11_readAt 38 = .ok (.iconst 0, 1) := by decide +kernel
theorem dX11_readAt_39 : decode cX11_readAt 39 = .ok (.invokevirtual 162, 3) := by decide +kernel
theorem dX11_readAt_42 : decode cX11_readAt 42 = .ok (.aload_n 0, 1) := by decide +kernel
theorem dX11_readAt_43 : decode cX11_readAt 43 = .ok (.getfield 89, 3) := by decide +kernel
theorem dX11_readAt_46 : decode cX11_readAt 46 = .ok (.iload_n 3, 1) := by decide +kernel
theorem dX11_readAt_47 : decode cX11_readAt 47 = .ok (.iaload, 1) := by decide +kernel
theorem dX11_readAt_48 : decode cX11_readAt 48 = .ok (.ireturn, 1) := by decide +kernel
theorem dX11_isEven_0 : decode cX11_isEven 0 = .ok (.iload_n 0, 1) := by decide +kernel
theorem dX11_isEven_1 : decode cX11_isEven 1 = .ok (.iconst 3, 1) := by decide +kernel
theorem dX11_isEven_2 : decode cX11_isEven 2 = .ok (.if_icmp .eq 14, 3) := by decide +kernel
theorem dX11_isEven_5 : decode cX11_isEven 5 = .ok (.iload_n 0, 1) := by decide +kernel
theorem dX11_isEven_6 : decode cX11_isEven 6 = .ok (.iconst 5, 1) := by decide +kernel
theorem dX11_isEven_7 : decode cX11_isEven 7 = .ok (.if_icmp .lt 13, 3) := by decide +kernel
theorem dX11_isEven_10 : decode cX11_isEven 10 = .ok (.iload_n 0, 1) := by decide +kernel
theorem dX11_isEven_11 : decode cX11_isEven 11 = .ok (.bipush 9, 2) := by decide +kernel
theorem dX11_isEven_13 : decode cX11_isEven 13 = .ok (.if_icmp .gt 7, 3) := by decide +kernel
theorem dX11_isEven_16 : decode cX11_isEven 16 = .ok (.iconst 1, 1) := by decide +kernel
theorem dX11_isEven_17 : decode cX11_isEven 17 = .ok (.goto 4, 3) := by decide +kernel
theorem dX11_isEven_20 : decode cX11_isEven 20 = .ok (.iconst 0, 1) := by decide +kernel
theorem dX11_isEven_21 : decode cX11_isEven 21 = .ok (.ireturn, 1) := by decide +kernel
theorem dX11_isOneSort_0 : decode cX11_isOneSort 0 = .ok (.aload_n 0, 1) := by decide +kernel
theorem dX11_isOneSort_1 : decode cX11_isOneSort 1 = .ok (.getfield 56, 3) := by decide +kernel
theorem dX11_isOneSort_4 : decode cX11_isOneSort 4 = .ok (.iload_n 1, 1) := by decide +kernel
theorem dX11_isOneSort_5 : decode cX11_isOneSort 5 = .ok (.iaload, 1) := by decide +kernel
theorem dX11_isOneSort_6 : decode cX11_isOneSort 6 = .ok (.istore_n 3, 1) := by decide +kernel
theorem dX11_isOneSort_7 : decode cX11_isOneSort 7 = .ok (.iload_n 3, 1) := by decide +kernel
theorem dX11_isOneSort_8 : decode cX11_isOneSort 8 = .ok (.aload_n 0, 1) := by decide +kernel
theorem dX11_isOneSort_9 : decode cX11_isOneSort 9 = .ok (.getfield 56, 3) := by decide +kernel
theorem dX11_isOneSort_12 : decode cX11_isOneSort 12 = .ok (.iload_n 2, 1) := by decide +kernel
theorem dX11_isOneSort_13 : decode cX11_isOneSort 13 = .ok (.iaload, 1) := by decide +kernel
theorem dX11_isOneSort_14 : decode cX11_isOneSort 14 = .ok (.if_icmp .ne 48, 3) := by decide +kernel
theorem dX11_isOneSort_17 : decode cX11_isOneSort 17 = .ok (.iload_n 3, 1) := by decide +kernel
theorem dX11_isOneSort_18 : decode cX11_isOneSort 18 = .ok (.iconst 1, 1) := by decide +kernel
theorem dX11_isOneSort_19 : decode cX11_isOneSort 19 = .ok (.if_icmp .gt 18, 3) := by decide +kernel
theorem dX11_isOneSort_22 : decode cX11_isOneSort 22 = .ok (.aload_n 0, 1) := by decide +kernel
theorem dX11_isOneSort_23 : decode cX11_isOneSort 23 = .ok (.getfield 65, 3) := by decide +kernel
theorem dX11_isOneSort_26 : decode cX11_isOneSort 26 = .ok (.iload_n 1, 1) := by decide +kernel
theorem dX11_isOneSort_27 : decode cX11_isOneSort 27 = .ok (.iaload, 1) := by decide +kernel
theorem dX11_isOneSort_28 : decode cX11_isOneSort 28 = .ok (.aload_n 0, 1) := by decide +kernel
theorem dX11_isOneSort_29 : decode cX11_isOneSort 29 = .ok (.getfield 65, 3) := by decide +kernel
theorem dX11_isOneSort_32 : decode cX11_isOneSort 32 = .ok (.iload_n 2, 1) := by decide +kernel
theorem dX11_isOneSort_33 : decode cX11_isOneSort 33 = .ok (.iaload, 1) := by decide +kernel
theorem dX11_isOneSort_34 : decode cX11_isOneSort 34 = .ok (.if_icmp .ne 28, 3) := by decide +kernel
theorem dX11_isOneSort_37 : decode cX11_isOneSort 37 = .ok (.iload_n 3, 1) := by decide +kernel
theorem dX11_isOneSort_38 : decode cX11_isOneSort 38 = .ok (.bipush 15, 2) := by decide +kernel
theorem dX11_isOneSort_40 : decode cX11_isOneSort 40 = .ok (.if_icmp .ne 18, 3) := by decide +kernel
theorem dX11_isOneSort_43 : decode cX11_isOneSort 43 = .ok (.aload_n 0, 1) := by decide +kernel
theorem dX11_isOneSort_44 : decode cX11_isOneSort 44 = .ok (.getfield 59, 3) := by decide +kernel
theorem dX11_isOneSort_47 : decode cX11_isOneSort 47 = .ok (.iload_n 1, 1) := by decide +kernel
theorem dX11_isOneSort_48 : decode cX11_isOneSort 48 = .ok (.iaload, 1) := by decide +kernel
theorem dX11_isOneSort_49 : decode cX11_isOneSort 49 = .ok (.aload_n 0, 1) := by decide +kernel
theorem dX11_isOneSort_50 : decode cX11_isOneSort 50 = .ok (.getfield 59, 3) := by decide +kernel
theorem dX11_isOneSort_53 : decode cX11_isOneSort 53 = .ok (.iload_n 2, 1) := by decide +kernel
theorem dX11_isOneSort_54 : decode cX11_isOneSort 54 = .ok (.iaload, 1) := by decide +kernel
theorem dX11_isOneSort_55 : decode cX11_isOneSort 55 = .ok (.if_icmp .ne 7, 3) := by decide +kernel
theorem dX11_isOneSort_58 : decode cX11_isOneSort 58 = .ok (.iconst 1, 1) := by decide +kernel
theorem dX11_isOneSort_59 : decode cX11_isOneSort 59 = .ok (.goto 4, 3) := by decide +kernel
theorem dX11_isOneSort_62 : decode cX11_isOneSort 62 = .ok (.iconst 0, 1) := by decide +kernel
theorem dX11_isOneSort_63 : decode cX11_isOneSort 63 = .ok (.ireturn, 1) := by decide +kernel
theorem dX11_hangTogether_0 : decode cX11_hangTogether 0 = .ok (.iconst 1, 1) := by decide +kernel
theorem dX11_hangTogether_1 : decode cX11_hangTogether 1 = .ok (.istore_n 3, 1) := by decide +kernel
theorem dX11_hangTogether_2 : decode cX11_hangTogether 2 = .ok (.iconst 0, 1) := by decide +kernel
theorem dX11_hangTogether_3 : decode cX11_hangTogether 3 = .ok (.istore 4, 2) := by decide +kernel
theorem dX11_hangTogether_5 : decode cX11_hangTogether 5 = .ok (.iload 4, 2) := by decide +kernel
theorem dX11_hangTogether_7 : decode cX11_hangTogether 7 = .ok (.aload_n 0, 1) := by decide +kernel
theorem dX11_hangTogether_8 : decode cX11_hangTogether 8 = .ok (.getfield 74, 3) := by decide +kernel
theorem dX11_hangTogether_11 : decode cX11_hangTogether 11 = .ok (.iload_n 1, 1) := by decide +kernel
theorem dX11_hangTogether_12 : decode cX11_hangTogether 12 = .ok (.iaload, 1) := by decide +kernel
theorem dX11_hangTogether_13 : decode cX11_hangTogether 13 = .ok (.if_icmp .ge 56, 3) := by decide +kernel
theorem dX11_hangTogether_16 : decode cX11_hangTogether 16 = .ok (.iload_n 3, 1) := by decide +kernel
theorem dX11_hangTogether_17 : decode cX11_hangTogether 17 = .ok (.ifCond .eq 44, 3) := by decide +kernel
theorem dX11_hangTogether_20 : decode cX11_hangTogether 20 = .ok (.aload_n 0, 1) := by decide +kernel
theorem dX11_hangTogether_21 : decode cX11_hangTogether 21 = .ok (.getfield 92, 3) := by decide +kernel
theorem dX11_hangTogether_24 : decode cX11_hangTogether 24 = .ok (.aload_n 0, 1) := by decide +kernel
theorem dX11_hangTogether_25 : decode cX11_hangTogether 25 = .ok (.getfield 71, 3) := by decide +kernel
theorem dX11_hangTogether_28 : decode cX11_hangTogether 28 = .ok (.bipush 20, 2) := by decide +kernel
theorem dX11_hangTogether_30 : decode cX11_hangTogether 30 = .ok (.iload_n 1, 1) := by decide +kernel
theorem dX11_hangTogether_31 : decode cX11_hangTogether 31 = .ok (.imul, 1) := by decide +kernel
theorem dX11_hangTogether_32 : decode cX11_hangTogether 32 = .ok (.iload 4, 2) := by decide +kernel
theorem dX11_hangTogether_34 : decode cX11_hangTogether 34 = .ok (.iadd, 1) := by decide +kernel
theorem dX11_hangTogether_35 : decode cX11_hangTogether 35 = .ok (.iaload, 1) := by decide +kernel
theorem dX11_hangTogether_36 : decode cX11_hangTogether 36 = .ok (.iaload, 1) := by decide +kernel
theorem dX11_hangTogether_37 : decode cX11_hangTogether 37 = .ok (.aload_n 0, 1) := by decide +kernel
theorem dX11_hangTogether_38 : decode cX11_hangTogether 38 = .ok (.getfield 92, 3) := by decide +kernel
theorem dX11_hangTogether_41 : decode cX11_hangTogether 41 = .ok (.aload_n 0, 1) := by decide +kernel
theorem dX11_hangTogether_42 : decode cX11_hangTogether 42 = .ok (.getfield 71, 3) := by decide +kernel
theorem dX11_hangTogether_45 : decode cX11_hangTogether 45 = .ok (.bipush 20, 2) := by decide +kernel
theorem dX11_hangTogether_47 : decode cX11_hangTogether 47 = .ok (.iload_n 2, 1) := by decide +kernel
theorem dX11_hangTogether_48 : decode cX11_hangTogether 48 = .ok (.imul, 1) := by decide +kernel
theorem dX11_hangTogether_49 : decode cX11_hangTogether 49 = .ok (.iload 4, 2) := by decide +kernel
theorem dX11_hangTogether_51 : decode cX11_hangTogether 51 = .ok (.iadd, 1) := by decide +kernel
theorem dX11_hangTogether_52 : decode cX11_hangTogether 52 = .ok (.iaload, 1) := by decide +kernel
theorem dX11_hangTogether_53 : decode cX11_hangTogether 53 = .ok (.iaload, 1) := by decide +kernel
theorem dX11_hangTogether_54 : decode cX11_hangTogether 54 = .ok (.if_icmp .ne 7, 3) := by decide +kernel
theorem dX11_hangTogether_57 : decode cX11_hangTogether 57 = .ok (.iconst 1, 1) := by decide +kernel
theorem dX11_hangTogether_58 : decode cX11_hangTogether 58 = .ok (.goto 4, 3) := by decide +kernel
theorem dX11_hangTogether_61 : decode cX11_hangTogether 61 = .ok (.iconst 0, 1) := by decide +kernel
theorem dX11_hangTogether_62 : decode cX11_hangTogether 62 = .ok (.istore_n 3, 1) := by decide +kernel
theorem dX11_hangTogether_63 : decode cX11_hangTogether 63 = .ok (.iinc 4 1, 3) := by decide +kernel
theorem dX11_hangTogether_66 : decode cX11_hangTogether 66 = .ok (.goto (-61), 3) := by decide +kernel
theorem dX11_hangTogether_69 : decode cX11_hangTogether 69 = .ok (.iload_n 3, 1) := by decide +kernel
theorem dX11_hangTogether_70 : decode cX11_hangTogether 70 = .ok (.ifCond .ne 15, 3) := by decide +kernel
theorem dX11_hangTogether_73 : decode cX11_hangTogether 73 = .ok (.aload_n 0, 1) := by decide +kernel
theorem dX11_hangTogether_74 : decode cX11_hangTogether 74 = .ok (.getfield 56, 3) := by decide +kernel
theorem dX11_hangTogether_77 : decode cX11_hangTogether 77 = .ok (.iload_n 1, 1) := by decide +kernel
theorem dX11_hangTogether_78 : decode cX11_hangTogether 78 = .ok (.iaload, 1) := by decide +kernel
theorem dX11_hangTogether_79 : decode cX11_hangTogether 79 = .ok (.invokestatic 170, 3) := by decide +kernel
theorem dX11_hangTogether_82 : decode cX11_hangTogether 82 = .ok (.ifCond .ne 5, 3) := by decide +kernel
theorem dX11_hangTogether_85 : decode cX11_hangTogether 85 = .ok (.iload_n 3, 1) := by decide +kernel
theorem dX11_hangTogether_86 : decode cX11_hangTogether 86 = .ok (.ireturn, 1) := by decide +kernel
theorem dX11_hangTogether_87 : decode cX11_hangTogether 87 = .ok (.aload_n 0, 1) := by decide +kernel
theorem dX11_hangTogether_88 : decode cX11_hangTogether 88 = .ok (.getfield 92, 3) := by decide +kernel
theorem dX11_hangTogether_91 : decode cX11_hangTogether 91 = .ok (.aload_n 0, 1) := by decide +kernel
theorem dX11_hangTogether_92 : decode cX11_hangTogether 92 = .ok (.getfield 71, 3) := by decide +kernel
theorem dX11_hangTogether_95 : decode cX11_hangTogether 95 = .ok (.bipush 20, 2) := by decide +kernel
theorem dX11_hangTogether_97 : decode cX11_hangTogether 97 = .ok (.iload_n 1, 1) := by decide +kernel
theorem dX11_hangTogether_98 : decode cX11_hangTogether 98 = .ok (.imul, 1) := by decide +kernel
theorem dX11_hangTogether_99 : decode cX11_hangTogether 99 = .ok (.iaload, 1) := by decide +kernel
theorem dX11_hangTogether_100 : decode cX11_hangTogether 100 = .ok (.iaload, 1) := by decide +kernel
theorem dX11_hangTogether_101 : decode cX11_hangTogether 101 = .ok (.aload_n 0, 1) := by decide +kernel
theorem dX11_hangTogether_102 : decode cX11_hangTogether 102 = .ok (.getfield 92, 3) := by decide +kernel
theorem dX11_hangTogether_105 : decode cX11_hangTogether 105 = .ok (.aload_n 0, 1) := by decide +kernel
theorem dX11_hangTogether_106 : decode cX11_hangTogether 106 = .ok (.getfield 71, 3) := by decide +kernel
theorem dX11_hangTogether_109 : decode cX11_hangTogether 109 = .ok (.bipush 20, 2) := by decide +kernel
theorem dX11_hangTogether_111 : decode cX11_hangTogether 111 = .ok (.iload_n 2, 1) := by decide +kernel
theorem dX11_hangTogether_112 : decode cX11_hangTogether 112 = .ok (.imul, 1) := by decide +kernel
theorem dX11_hangTogether_113 : decode cX11_hangTogether 113 = .ok (.iconst 1, 1) := by decide +kernel
theorem dX11_hangTogether_114 : decode cX11_hangTogether 114 = .ok (.iadd, 1) := by decide +kernel
theorem dX11_hangTogether_115 : decode cX11_hangTogether 115 = .ok (.iaload, 1) := by decide +kernel
theorem dX11_hangTogether_116 : decode cX11_hangTogether 116 = .ok (.iaload, 1) := by decide +kernel
theorem dX11_hangTogether_117 : decode cX11_hangTogether 117 = .ok (.if_icmp .ne 40, 3) := by decide +kernel
theorem dX11_hangTogether_120 : decode cX11_hangTogether 120 = .ok (.aload_n 0, 1) := by decide +kernel
theorem dX11_hangTogether_121 : decode cX11_hangTogether 121 = .ok (.getfield 92, 3) := by decide +kernel
theorem dX11_hangTogether_124 : decode cX11_hangTogether 124 = .ok (.aload_n 0, 1) := by decide +kernel
theorem dX11_hangTogether_125 : decode cX11_hangTogether 125 = .ok (.getfield 71, 3) := by decide +kernel
theorem dX11_hangTogether_128 : decode cX11_hangTogether 128 = .ok (.bipush 20, 2) := by decide +kernel
theorem dX11_hangTogether_130 : decode cX11_hangTogether 130 = .ok (.iload_n 1, 1) := by decide +kernel
theorem dX11_hangTogether_131 : decode cX11_hangTogether 131 = .ok (.imul, 1) := by decide +kernel
theorem dX11_hangTogether_132 : decode cX11_hangTogether 132 = .ok (.iconst 1, 1) := by decide +kernel
theorem dX11_hangTogether_133 : decode cX11_hangTogether 133 = .ok (.iadd, 1) := by decide +kernel
theorem dX11_hangTogether_134 : decode cX11_hangTogether 134 = .ok (.iaload, 1) := by decide +kernel
theorem dX11_hangTogether_135 : decode cX11_hangTogether 135 = .ok (.iaload, 1) := by decide +kernel
theorem dX11_hangTogether_136 : decode cX11_hangTogether 136 = .ok (.aload_n 0, 1) := by decide +kernel
theorem dX11_hangTogether_137 : decode cX11_hangTogether 137 = .ok (.getfield 92, 3) := by decide +kernel
theorem dX11_hangTogether_140 : decode cX11_hangTogether 140 = .ok (.aload_n 0, 1) := by decide +kernel
theorem dX11_hangTogether_141 : decode cX11_hangTogether 141 = .ok (.getfield 71, 3) := by decide +kernel
theorem dX11_hangTogether_144 : decode cX11_hangTogether 144 = .ok (.bipush 20, 2) := by decide +kernel
theorem dX11_hangTogether_146 : decode cX11_hangTogether 146 = .ok (.iload_n 2, 1) := by decide +kernel
theorem dX11_hangTogether_147 : decode cX11_hangTogether 147 = .ok (.imul, 1) := by decide +kernel
theorem dX11_hangTogether_148 : decode cX11_hangTogether 148 = .ok (.iaload, 1) := by decide +kernel
theorem dX11_hangTogether_149 : decode cX11_hangTogether 149 = .ok (.iaload, 1) := by decide +kernel
theorem dX11_hangTogether_150 : decode cX11_hangTogether 150 = .ok (.if_icmp .ne 7, 3) := by decide +kernel
theorem dX11_hangTogether_153 : decode cX11_hangTogether 153 = .ok (.iconst 1, 1) := by decide +kernel
theorem dX11_hangTogether_154 : decode cX11_hangTogether 154 = .ok (.goto 4, 3) := by decide +kernel
theorem dX11_hangTogether_157 : decode cX11_hangTogether 157 = .ok (.iconst 0, 1) := by decide +kernel
theorem dX11_hangTogether_158 : decode cX11_hangTogether 158 = .ok (.ireturn, 1) := by decide +kernel
theorem dX11_classes_0 : decode cX11_classes 0 = .ok (.iconst 0, 1) := by decide +kernel
theorem dX11_classes_1 : decode cX11_classes 1 = .ok (.istore_n 1, 1) := by decide +kernel
theorem dX11_classes_2 : decode cX11_classes 2 = .ok (.iload_n 1, 1) := by decide +kernel
theorem dX11_classes_3 : decode cX11_classes 3 = .ok (.aload_n 0, 1) := by decide +kernel
theorem dX11_classes_4 : decode cX11_classes 4 = .ok (.getfield 155, 3) := by decide +kernel
theorem dX11_classes_7 : decode cX11_classes 7 = .ok (.if_icmp .ge 46, 3) := by decide +kernel
theorem dX11_classes_10 : decode cX11_classes 10 = .ok (.aload_n 0, 1) := by decide +kernel
theorem dX11_classes_11 : decode cX11_classes 11 = .ok (.getfield 92, 3) := by decide +kernel
theorem dX11_classes_14 : decode cX11_classes 14 = .ok (.iload_n 1, 1) := by decide +kernel
theorem dX11_classes_15 : decode cX11_classes 15 = .ok (.iload_n 1, 1) := by decide +kernel
