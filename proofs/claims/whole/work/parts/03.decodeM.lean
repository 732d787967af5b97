theorem dX11_init_0 : decode cX11_init 0 = .ok (.aload_n 0, 1) := by decide +kernel
theorem dX11_init_1 : decode cX11_init 1 = .ok (.invokespecial 1, 3) := by decide +kernel
theorem dX11_init_4 : decode cX11_init 4 = .ok (.aload_n 0, 1) := by decide +kernel
theorem dX11_init_5 : decode cX11_init 5 = .ok (.bipush 60, 2) := by decide +kernel
theorem dX11_init_7 : decode cX11_init 7 = .ok (.newarray .int, 2) := by decide +kernel
theorem dX11_init_9 : decode cX11_init 9 = .ok (.putfield 7, 3) := by decide +kernel
theorem dX11_init_12 : decode cX11_init 12 = .ok (.aload_n 0, 1) := by decide +kernel
theorem dX11_init_13 : decode cX11_init 13 = .ok (.bipush 100, 2) := by decide +kernel
theorem dX11_init_15 : decode cX11_init 15 = .ok (.newarray .int, 2) := by decide +kernel
theorem dX11_init_17 : decode cX11_init 17 = .ok (.putfield 13, 3) := by decide +kernel
theorem dX11_init_20 : decode cX11_init 20 = .ok (.aload_n 0, 1) := by decide +kernel
theorem dX11_init_21 : decode cX11_init 21 = .ok (.bipush 100, 2) := by decide +kernel
theorem dX11_init_23 : decode cX11_init 23 = .ok (.newarray .int, 2) := by decide +kernel
theorem dX11_init_25 : decode cX11_init 25 = .ok (.putfield 16, 3) := by decide +kernel
theorem dX11_init_28 : decode cX11_init 28 = .ok (.aload_n 0, 1) := by decide +kernel
theorem dX11_init_29 : decode cX11_init 29 = .ok (.bipush 100, 2) := by decide +kernel
theorem dX11_init_31 : decode cX11_init 31 = .ok (.newarray .int, 2) := by decide +kernel
theorem dX11_init_33 : decode cX11_init 33 = .ok (.putfield 19, 3) := by decide +kernel
theorem dX11_init_36 : decode cX11_init 36 = .ok (.aload_n 0, 1) := by decide +kernel
theorem dX11_init_37 : decode cX11_init 37 = .ok (.bipush 7, 2) := by decide +kernel
theorem dX11_init_39 : decode cX11_init 39 = .ok (.newarray .int, 2) := by decide +kernel
theorem dX11_init_41 : decode cX11_init 41 = .ok (.putfield 22, 3) := by decide +kernel
theorem dX11_init_44 : decode cX11_init 44 = .ok (.aload_n 0, 1) := by decide +kernel
theorem dX11_init_45 : decode cX11_init 45 = .ok (.iconst 3, 1) := by decide +kernel
theorem dX11_init_46 : decode cX11_init 46 = .ok (.newarray .int, 2) := by decide +kernel
theorem dX11_init_48 : decode cX11_init 48 = .ok (.putfield 25, 3) := by decide +kernel
theorem dX11_init_51 : decode cX11_init 51 = .ok (.aload_n 0, 1) := by decide +kernel
theorem dX11_init_52 : decode cX11_init 52 = .ok (.iconst 3, 1) := by decide +kernel
theorem dX11_init_53 : decode cX11_init 53 = .ok (.newarray .int, 2) := by decide +kernel
theorem dX11_init_55 : decode cX11_init 55 = .ok (.putfield 28, 3) := by decide +kernel
theorem dX11_init_58 : decode cX11_init 58 = .ok (.aload_n 0, 1) := by decide +kernel
theorem dX11_init_59 : decode cX11_init 59 = .ok (.bipush 9, 2) := by decide +kernel
theorem dX11_init_61 : decode cX11_init 61 = .ok (.newarray .int, 2) := by decide +kernel
theorem dX11_init_63 : decode cX11_init 63 = .ok (.putfield 31, 3) := by decide +kernel
theorem dX11_init_66 : decode cX11_init 66 = .ok (.aload_n 0, 1) := by decide +kernel
theorem dX11_init_67 : decode cX11_init 67 = .ok (.bipush 20, 2) := by decide +kernel
theorem dX11_init_69 : decode cX11_init 69 = .ok (.newarray .int, 2) := by decide +kernel
theorem dX11_init_71 : decode cX11_init 71 = .ok (.putfield 34, 3) := by decide +kernel
theorem dX11_init_74 : decode cX11_init 74 = .ok (.aload_n 0, 1) := by decide +kernel
theorem dX11_init_75 : decode cX11_init 75 = .ok (.iconst 4, 1) := by decide +kernel
theorem dX11_init_76 : decode cX11_init 76 = .ok (.newarray .int, 2) := by decide +kernel
theorem dX11_init_78 : decode cX11_init 78 = .ok (.putfield 37, 3) := by decide +kernel
theorem dX11_init_81 : decode cX11_init 81 = .ok (.aload_n 0, 1) := by decide +kernel
theorem dX11_init_82 : decode cX11_init 82 = .ok (.iconst 4, 1) := by decide +kernel
theorem dX11_init_83 : decode cX11_init 83 = .ok (.newarray .int, 2) := by decide +kernel
theorem dX11_init_85 : decode cX11_init 85 = .ok (.putfield 40, 3) := by decide +kernel
theorem dX11_init_88 : decode cX11_init 88 = .ok (.aload_n 0, 1) := by decide +kernel
theorem dX11_init_89 : decode cX11_init 89 = .ok (.iconst 4, 1) := by decide +kernel
theorem dX11_init_90 : decode cX11_init 90 = .ok (.newarray .int, 2) := by decide +kernel
theorem dX11_init_92 : decode cX11_init 92 = .ok (.putfield 43, 3) := by decide +kernel
theorem dX11_init_95 : decode cX11_init 95 = .ok (.aload_n 0, 1) := by decide +kernel
theorem dX11_init_96 : decode cX11_init 96 = .ok (.bipush 112, 2) := by decide +kernel
theorem dX11_init_98 : decode cX11_init 98 = .ok (.newarray .long, 2) := by decide +kernel
theorem dX11_init_100 : decode cX11_init 100 = .ok (.putfield 46, 3) := by decide +kernel
theorem dX11_init_103 : decode cX11_init 103 = .ok (.aload_n 0, 1) := by decide +kernel
theorem dX11_init_104 : decode cX11_init 104 = .ok (.bipush 112, 2) := by decide +kernel
theorem dX11_init_106 : decode cX11_init 106 = .ok (.newarray .long, 2) := by decide +kernel
theorem dX11_init_108 : decode cX11_init 108 = .ok (.putfield 50, 3) := by decide +kernel
theorem dX11_init_111 : decode cX11_init 111 = .ok (.aload_n 0, 1) := by decide +kernel
theorem dX11_init_112 : decode cX11_init 112 = .ok (.bipush 100, 2) := by decide +kernel
theorem dX11_init_114 : decode cX11_init 114 = .ok (.newarray .long, 2) := by decide +kernel
theorem dX11_init_116 : decode cX11_init 116 = .ok (.putfield 53, 3) := by decide +kernel
theorem dX11_init_119 : decode cX11_init 119 = .ok (.aload_n 0, 1) := by decide +kernel
theorem dX11_init_120 : decode cX11_init 120 = .ok (.bipush 21, 2) := by decide +kernel
theorem dX11_init_122 : decode cX11_init 122 = .ok (.newarray .long, 2) := by decide +kernel
theorem dX11_init_124 : decode cX11_init 124 = .ok (.putfield 56, 3) := by decide +kernel
theorem dX11_init_127 : decode cX11_init 127 = .ok (.aload_n 0, 1) := by decide +kernel
theorem dX11_init_128 : decode cX11_init 128 = .ok (.bipush 21, 2) := by decide +kernel
theorem dX11_init_130 : decode cX11_init 130 = .ok (.newarray .long, 2) := by decide +kernel
theorem dX11_init_132 : decode cX11_init 132 = .ok (.putfield 59, 3) := by decide +kernel
theorem dX11_init_135 : decode cX11_init 135 = .ok (.aload_n 0, 1) := by decide +kernel
theorem dX11_init_136 : decode cX11_init 136 = .ok (.bipush 8, 2) := by decide +kernel
theorem dX11_init_138 : decode cX11_init 138 = .ok (.newarray .int, 2) := by decide +kernel
theorem dX11_init_140 : decode cX11_init 140 = .ok (.putfield 62, 3) := by decide +kernel
theorem dX11_init_143 : decode cX11_init 143 = .ok (.aload_n 0, 1) := by decide +kernel
theorem dX11_init_144 : decode cX11_init 144 = .ok (.bipush 8, 2) := by decide +kernel
theorem dX11_init_146 : decode cX11_init 146 = .ok (.newarray .int, 2) := by decide +kernel
theorem dX11_init_148 : decode cX11_init 148 = .ok (.putfield 65, 3) := by decide +kernel
theorem dX11_init_151 : decode cX11_init 151 = .ok (.aload_n 0, 1) := by decide +kernel
theorem dX11_init_152 : decode cX11_init 152 = .ok (.bipush 99, 2) := by decide +kernel
theorem dX11_init_154 : decode cX11_init 154 = .ok (.newarray .int, 2) := by decide +kernel
theorem dX11_init_156 : decode cX11_init 156 = .ok (.putfield 68, 3) := by decide +kernel
theorem dX11_init_159 : decode cX11_init 159 = .ok (.aload_n 0, 1) := by decide +kernel
theorem dX11_init_160 : decode cX11_init 160 = .ok (.iconst 4, 1) := by decide +kernel
theorem dX11_init_161 : decode cX11_init 161 = .ok (.newarray .boolean, 2) := by decide +kernel
theorem dX11_init_163 : decode cX11_init 163 = .ok (.putfield 71, 3) := by decide +kernel
theorem dX11_init_166 : decode cX11_init 166 = .ok (.aload_n 0, 1) := by decide +kernel
theorem dX11_init_167 : decode cX11_init 167 = .ok (.iconst 4, 1) := by decide +kernel
theorem dX11_init_168 : decode cX11_init 168 = .ok (.newarray .int, 2) := by decide +kernel
theorem dX11_init_170 : decode cX11_init 170 = .ok (.putfield 75, 3) := by decide +kernel
theorem dX11_init_173 : decode cX11_init 173 = .ok (.aload_n 0, 1) := by decide +kernel
theorem dX11_init_174 : decode cX11_init 174 = .ok (.iconst 4, 1) := by decide +kernel
theorem dX11_init_175 : decode cX11_init 175 = .ok (.newarray .int, 2) := by decide +kernel
theorem dX11_init_177 : decode cX11_init 177 = .ok (.putfield 78, 3) := by decide +kernel
theorem dX11_init_180 : decode cX11_init 180 = .ok (.aload_n 0, 1) := by decide +kernel
theorem dX11_init_181 : decode cX11_init 181 = .ok (.sipush 192, 3) := by decide +kernel
theorem dX11_init_184 : decode cX11_init 184 = .ok (.newarray .int, 2) := by decide +kernel
theorem dX11_init_186 : decode cX11_init 186 = .ok (.putfield 81, 3) := by decide +kernel
theorem dX11_init_189 : decode cX11_init 189 = .ok (.aload_n 0, 1) := by decide +kernel
theorem dX11_init_190 : decode cX11_init 190 = .ok (.bipush 48, 2) := by decide +kernel
theorem dX11_init_192 : decode cX11_init 192 = .ok (.newarray .int, 2) := by decide +kernel
theorem dX11_init_194 : decode cX11_init 194 = .ok (.putfield 84, 3) := by decide +kernel
theorem dX11_init_197 : decode cX11_init 197 = .ok (.aload_n 0, 1) := by decide +kernel
theorem dX11_init_198 : decode cX11_init 198 = .ok (.getfield 25, 3) := by decide +kernel
theorem dX11_init_201 : decode cX11_init 201 = .ok (.iconst 0, 1) := by decide +kernel
theorem dX11_init_202 : decode cX11_init 202 = .ok (.iconst 2, 1) := by decide +kernel
theorem dX11_init_203 : decode cX11_init 203 = .ok (.iastore, 1) := by decide +kernel
theorem dX11_init_204 : decode cX11_init 204 = .ok (.aload_n 0, 1) := by decide +kernel
theorem dX11_init_205 : decode cX11_init 205 = .ok (.getfield 28, 3) := by decide +kernel
theorem dX11_init_208 : decode cX11_init 208 = .ok (.iconst 0, 1) := by decide +kernel
theorem dX11_init_209 : decode cX11_init 209 = .ok (.iconst 1, 1) := by decide +kernel
theorem dX11_init_210 : decode cX11_init 210 = .ok (.iastore, 1) := by decide +kernel
theorem dX11_init_211 : decode cX11_init 211 = .ok (.aload_n 0, 1) := by decide +kernel
theorem dX11_init_212 : decode cX11_init 212 = .ok (.getfield 25, 3) := by decide +kernel
theorem dX11_init_215 : decode cX11_init 215 = .ok (.iconst 1, 1) := by decide +kernel
theorem dX11_init_216 : decode cX11_init 216 = .ok (.iconst 1, 1) := by decide +kernel
theorem dX11_init_217 : decode cX11_init 217 = .ok (.iastore, 1) := by decide +kernel
theorem dX11_init_218 : decode cX11_init 218 = .ok (.aload_n 0, 1) := by decide +kernel
theorem dX11_init_219 : decode cX11_init 219 = .ok (.getfield 28, 3) := by decide +kernel
theorem dX11_init_222 : decode cX11_init 222 = .ok (.iconst 1, 1) := by decide +kernel
theorem dX11_init_223 : decode cX11_init 223 = .ok (.iconst 3, 1) := by decide +kernel
theorem dX11_init_224 : decode cX11_init 224 = .ok (.iastore, 1) := by decide +kernel
theorem dX11_init_225 : decode cX11_init 225 = .ok (.aload_n 0, 1) := by decide +kernel
theorem dX11_init_226 : decode cX11_init 226 = .ok (.getfield 25, 3) := by decide +kernel
theorem dX11_init_229 : decode cX11_init 229 = .ok (.iconst 2, 1) := by decide +kernel
theorem dX11_init_230 : decode cX11_init 230 = .ok (.iconst 3, 1) := by decide +kernel
theorem dX11_init_231 : decode cX11_init 231 = .ok (.iastore, 1) := by decide +kernel
theorem dX11_init_232 : decode cX11_init 232 = .ok (.aload_n 0, 1) := by decide +kernel
theorem dX11_init_233 : decode cX11_init 233 = .ok (.getfield 28, 3) := by decide +kernel
theorem dX11_init_236 : decode cX11_init 236 = .ok (.iconst 2, 1) := by decide +kernel
theorem dX11_init_237 : decode cX11_init 237 = .ok (.iconst 2, 1) := by decide +kernel
theorem dX11_init_238 : decode cX11_init 238 = .ok (.iastore, 1) := by decide +kernel
theorem dX11_init_239 : decode cX11_init 239 = .ok (.aload_n 0, 1) := by decide +kernel
theorem dX11_init_240 : decode cX11_init 240 = .ok (.getfield 31, 3) := by decide +kernel
theorem dX11_init_243 : decode cX11_init 243 = .ok (.iconst 0, 1) := by decide +kernel
theorem dX11_init_244 : decode cX11_init 244 = .ok (.bipush 14, 2) := by decide +kernel
theorem dX11_init_246 : decode cX11_init 246 = .ok (.iastore, 1) := by decide +kernel
theorem dX11_init_247 : decode cX11_init 247 = .ok (.aload_n 0, 1) := by decide +kernel
theorem dX11_init_248 : decode cX11_init 248 = .ok (.getfield 31, 3) := by decide +kernel
theorem dX11_init_251 : decode cX11_init 251 = .ok (.iconst 1, 1) := by decide +kernel
theorem dX11_init_252 : decode cX11_init 252 = .ok (.iconst 2, 1) := by decide +kernel
theorem dX11_init_253 : decode cX11_init 253 = .ok (.iastore, 1) := by decide +kernel
theorem dX11_init_254 : decode cX11_init 254 = .ok (.aload_n 0, 1) := by decide +kernel
theorem dX11_init_255 : decode cX11_init 255 = .ok (.getfield 31, 3) := by decide +kernel
theorem dX11_init_258 : decode cX11_init 258 = .ok (.iconst 2, 1) := by decide +kernel
theorem dX11_init_259 : decode cX11_init 259 = .ok (.iconst 1, 1) := by decide +kernel
theorem dX11_init_260 : decode cX11_init 260 = .ok (.iastore, 1) := by decide +kernel
theorem dX11_init_261 : decode cX11_init 261 = .ok (.aload_n 0, 1) := by decide +kernel
theorem dX11_init_262 : decode cX11_init 262 = .ok (.getfield 31, 3) := by decide +kernel
theorem dX11_init_265 : decode cX11_init 265 = .ok (.iconst 3, 1) := by decide +kernel
theorem dX11_init_266 : decode cX11_init 266 = .ok (.bipush 13, 2) := by decide +kernel
theorem dX11_init_268 : decode cX11_init 268 = .ok (.iastore, 1) := by decide +kernel
theorem dX11_init_269 : decode cX11_init 269 = .ok (.aload_n 0, 1) := by decide +kernel
theorem dX11_init_270 : decode cX11_init 270 = .ok (.getfield 31, 3) := by decide +kernel
theorem dX11_init_273 : decode cX11_init 273 = .ok (.iconst 4, 1) := by decide +kernel
theorem dX11_init_274 : decode cX11_init 274 = .ok (.bipush 20, 2) := by decide +kernel
theorem dX11_init_276 : decode cX11_init 276 = .ok (.iastore, 1) := by decide +kernel
theorem dX11_init_277 : decode cX11_init 277 = .ok (.aload_n 0, 1) := by decide +kernel
theorem dX11_init_278 : decode cX11_init 278 = .ok (.getfield 31, 3) := by decide +kernel
theorem dX11_init_281 : decode cX11_init 281 = .ok (.iconst 5, 1) := by decide +kernel
theorem dX11_init_282 : decode cX11_init 282 = .ok (.bipush 30, 2) := by decide +kernel
theorem dX11_init_284 : decode cX11_init 284 = .ok (.iastore, 1) := by decide +kernel
theorem dX11_init_285 : decode cX11_init 285 = .ok (.aload_n 0, 1) := by decide +kernel
theorem dX11_init_286 : decode cX11_init 286 = .ok (.getfield 31, 3) := by decide +kernel
theorem dX11_init_289 : decode cX11_init 289 = .ok (.bipush 6, 2) := by decide +kernel
theorem dX11_init_291 : decode cX11_init 291 = .ok (.bipush 12, 2) := by decide +kernel
theorem dX11_init_293 : decode cX11_init 293 = .ok (.iastore, 1) := by decide +kernel
theorem dX11_init_294 : decode cX11_init 294 = .ok (.aload_n 0, 1) := by decide +kernel
theorem dX11_init_295 : decode cX11_init 295 = .ok (.getfield 31, 3) := by decide +kernel
theorem dX11_init_298 : decode cX11_init 298 = .ok (.bipush 7, 2) := by decide +kernel
theorem dX11_init_300 : decode cX11_init 300 = .ok (.iconst 1, 1) := by decide +kernel
theorem dX11_init_301 : decode cX11_init 301 = .ok (.iastore, 1) := by decide +kernel
theorem dX11_init_302 : decode cX11_init 302 = .ok (.aload_n 0, 1) := by decide +kernel
theorem dX11_init_303 : decode cX11_init 303 = .ok (.getfield 31, 3) := by decide +kernel
theorem dX11_init_306 : decode cX11_init 306 = .ok (.bipush 8, 2) := by decide +kernel
theorem dX11_init_308 : decode cX11_init 308 = .ok (.iconst 1, 1) := by decide +kernel
theorem dX11_init_309 : decode cX11_init 309 = .ok (.iastore, 1) := by decide +kernel
theorem dX11_init_310 : decode cX11_init 310 = .ok (.return_, 1) := by decide +kernel
theorem dX11_in_0 : decode cX11_in 0 = .ok (.iload_n 0, 1) := by decide +kernel
theorem dX11_in_1 : decode cX11_in 1 = .ok (.iload_n 1, 1) := by decide +kernel
theorem dX11_in_2 : decode cX11_in 2 = .ok (.if_icmp .lt 12, 3) := by decide +kernel
theorem dX11_in_5 : decode cX11_in 5 = .ok (.iload_n 0, 1) := by decide +kernel
theorem dX11_in_6 : decode cX11_in 6 = .ok (.iload_n 2, 1) := by decide +kernel
theorem dX11_in_7 : decode cX11_in 7 = .ok (.if_icmp .gt 7, 3) := by decide +kernel
theorem dX11_in_10 : decode cX11_in 10 = .ok (.iconst 1, 1) := by decide +kernel
theorem dX11_in_11 : decode cX11_in 11 = .ok (.goto 4, 3) := by decide +kernel
theorem dX11_in_14 : decode cX11_in 14 = .ok (.iconst 0, 1) := by decide +kernel
theorem dX11_in_15 : decode cX11_in 15 = .ok (.ireturn, 1) := by decide +kernel
theorem dX11_isIn_0 : decode cX11_isIn 0 = .ok (.iload_n 0, 1) := by decide +kernel
theorem dX11_isIn_1 : decode cX11_isIn 1 = .ok (.iload_n 1, 1) := by decide +kernel
theorem dX11_isIn_2 : decode cX11_isIn 2 = .ok (.ishr, 1) := by decide +kernel
theorem dX11_isIn_3 : decode cX11_isIn 3 = .ok (.iconst 1, 1) := by decide +kernel
theorem dX11_isIn_4 : decode cX11_isIn 4 = .ok (.iand, 1) := by decide +kernel
theorem dX11_isIn_5 : decode cX11_isIn 5 = .ok (.iconst 1, 1) := by decide +kernel
theorem dX11_isIn_6 : decode cX11_isIn 6 = .ok (.if_icmp .ne 7, 3) := by decide +kernel
theorem dX11_isIn_9 : decode cX11_isIn 9 = .ok (.iconst 1, 1) := by decide +kernel
theorem dX11_isIn_10 : decode cX11_isIn 10 = .ok (.goto 4, 3) := by decide +kernel
theorem dX11_isIn_13 : decode cX11_isIn 13 = .ok (.iconst 0, 1) := by decide +kernel
theorem dX11_isIn_14 : decode cX11_isIn 14 = .ok (.ireturn, 1) := by decide +kernel
theorem dX11_ones_0 : decode cX11_ones 0 = .ok (.iconst 0, 1) := by decide +kernel
theorem dX11_ones_1 : decode cX11_ones 1 = .ok (.istore_n 1, 1) := by decide +kernel
theorem dX11_ones_2 : decode cX11_ones 2 = .ok (.iconst 0, 1) := by decide +kernel
theorem dX11_ones_3 : decode cX11_ones 3 = .ok (.istore_n 2, 1) := by decide +kernel
theorem dX11_ones_4 : decode cX11_ones 4 = .ok (.iload_n 2, 1) := by decide +kernel
theorem dX11_ones_5 : decode cX11_ones 5 = .ok (.bipush 10, 2) := by decide +kernel
theorem dX11_ones_7 : decode cX11_ones 7 = .ok (.if_icmp .ge 17, 3) := by decide +kernel
theorem dX11_ones_10 : decode cX11_ones 10 = .ok (.iload_n 1, 1) := by decide +kernel
theorem dX11_ones_11 : decode cX11_ones 11 = .ok (.iload_n 0, 1) := by decide +kernel
theorem dX11_ones_12 : decode cX11_ones 12 = .ok (.iload_n 2, 1) := by decide +kernel
theorem dX11_ones_13 : decode cX11_ones 13 = .ok (.ishr, 1) := by decide +kernel
theorem dX11_ones_14 : decode cX11_ones 14 = .ok (.iconst 1, 1) := by decide +kernel
theorem dX11_ones_15 : decode cX11_ones 15 = .ok (.iand, 1) := by decide +kernel
theorem dX11_ones_16 : decode cX11_ones 16 = .ok (.iadd, 1) := by decide +kernel
theorem dX11_ones_17 : decode cX11_ones 17 = .ok (.istore_n 1, 1) := by decide +kernel
theorem dX11_ones_18 : decode cX11_ones 18 = .ok (.iinc 2 1, 3) := by decide +kernel
theorem dX11_ones_21 : decode cX11_ones 21 = .ok (.goto (-17), 3) := by decide +kernel
theorem dX11_ones_24 : decode cX11_ones 24 = .ok (.iload_n 1, 1) := by decide +kernel
theorem dX11_ones_25 : decode cX11_ones 25 = .ok (.ireturn, 1) := by decide +kernel
theorem dX11_no_0 : decode cX11_no 0 = .ok (.ldc2_w 87, 3) := by decide +kernel
theorem dX11_no_3 : decode cX11_no 3 = .ok (.iload_n 0, 1) := by decide +kernel
theorem dX11_no_4 : decode cX11_no 4 = .ok (.i2l, 1) := by decide +kernel
theorem dX11_no_5 : decode cX11_no 5 = .ok (.lsub, 1) := by decide +kernel
theorem dX11_no_6 : decode cX11_no 6 = .ok (.lreturn, 1) := by decide +kernel
theorem dX11_lowest_0 : decode cX11_lowest 0 = .ok (.lload_n 0, 1) := by decide +kernel
theorem dX11_lowest_1 : decode cX11_lowest 1 = .ok (.lstore 5, 2) := by decide +kernel
theorem dX11_lowest_3 : decode cX11_lowest 3 = .ok (.lload_n 2, 1) := by decide +kernel
theorem dX11_lowest_4 : decode cX11_lowest 4 = .ok (.lstore 7, 2) := by decide +kernel
theorem dX11_lowest_6 : decode cX11_lowest 6 = .ok (.lload 7, 2) := by decide +kernel
theorem dX11_lowest_8 : decode cX11_lowest 8 = .ok (.lconst 0, 1) := by decide +kernel
theorem dX11_lowest_9 : decode cX11_lowest 9 = .ok (.lcmp, 1) := by decide +kernel
theorem dX11_lowest_10 : decode cX11_lowest 10 = .ok (.ifCond .eq 21, 3) := by decide +kernel
theorem dX11_lowest_13 : decode cX11_lowest 13 = .ok (.lload 5, 2) := by decide +kernel
theorem dX11_lowest_15 : decode cX11_lowest 15 = .ok (.lload 7, 2) := by decide +kernel
theorem dX11_lowest_17 : decode cX11_lowest 17 = .ok (.lrem, 1) := by decide +kernel
theorem dX11_lowest_18 : decode cX11_lowest 18 = .ok (.lstore 9, 2) := by decide +kernel
theorem dX11_lowest_20 : decode cX11_lowest 20 = .ok (.lload 7, 2) := by decide +kernel
theorem dX11_lowest_22 : decode cX11_lowest 22 = .ok (.lstore 5, 2) := by decide +kernel
theorem dX11_lowest_24 : decode cX11_lowest 24 = .ok (.lload 9, 2) := by decide +kernel
theorem dX11_lowest_26 : decode cX11_lowest 26 = .ok (.lstore 7, 2) := by decide +kernel
theorem dX11_lowest_28 : decode cX11_lowest 28 = .ok (.goto (-22), 3) := by decide +kernel
theorem dX11_lowest_31 : decode cX11_lowest 31 = .ok (.iload 4, 2) := by decide +kernel
theorem dX11_lowest_33 : decode cX11_lowest 33 = .ok (.ifCond .ne 10, 3) := by decide +kernel
theorem dX11_lowest_36 : decode cX11_lowest 36 = .ok (.lload_n 0, 1) := by decide +kernel
theorem dX11_lowest_37 : decode cX11_lowest 37 = .ok (.lload 5, 2) := by decide +kernel
theorem dX11_lowest_39 : decode cX11_lowest 39 = .ok (.ldiv, 1) := by decide +kernel
theorem dX11_lowest_40 : decode cX11_lowest 40 = .ok (.goto 7, 3) := by decide +kernel
theorem dX11_lowest_43 : decode cX11_lowest 43 = .ok (.lload_n 2, 1) := by decide +kernel
theorem dX11_lowest_44 : decode cX11_lowest 44 = .ok (.lload 5, 2) := by decide +kernel
theorem dX11_lowest_46 : decode cX11_lowest 46 = .ok (.ldiv, 1) := by decide +kernel
theorem dX11_lowest_47 : decode cX11_lowest 47 = .ok (.lreturn, 1) := by decide +kernel
theorem dX11_type_0 : decode cX11_type 0 = .ok (.iload_n 1, 1) := by decide +kernel
theorem dX11_type_1 : decode cX11_type 1 = .ok (.iconst 0, 1) := by decide +kernel
theorem dX11_type_2 : decode cX11_type 2 = .ok (.sipush 255, 3) := by decide +kernel
theorem dX11_type_5 : decode cX11_type 5 = .ok (.invokestatic 89, 3) := by decide +kernel
theorem dX11_type_8 : decode cX11_type 8 = .ok (.ifCond .ne 6, 3) := by decide +kernel
theorem dX11_type_11 : decode cX11_type 11 = .ok (.bipush (-2), 2) := by decide +kernel
theorem dX11_type_13 : decode cX11_type 13 = .ok (.ireturn, 1) := by decide +kernel
theorem dX11_type_14 : decode cX11_type 14 = .ok (.aload_n 0, 1) := by decide +kernel
theorem dX11_type_15 : decode cX11_type 15 = .ok (.getfield 93, 3) := by decide +kernel
theorem dX11_type_18 : decode cX11_type 18 = .ok (.bipush 60, 2) := by decide +kernel
theorem dX11_type_20 : decode cX11_type 20 = .ok (.if_icmp .ne 6, 3) := by decide +kernel
theorem dX11_type_23 : decode cX11_type 23 = .ok (.bipush (-4), 2) := by decide +kernel
theorem dX11_type_25 : decode cX11_type 25 = .ok (.ireturn, 1) := by decide +kernel
theorem dX11_type_26 : decode cX11_type 26 = .ok (.aload_n 0, 1) := by decide +kernel
theorem dX11_type_27 : decode cX11_type 27 = .ok (.getfield 7, 3) := by decide +kernel
theorem dX11_type_30 : decode cX11_type 30 = .ok (.aload_n 0, 1) := by decide +kernel
theorem dX11_type_31 : decode cX11_type 31 = .ok (.getfield 93, 3) := by decide +kernel
theorem dX11_type_34 : decode cX11_type 34 = .ok (.iload_n 1, 1) := by decide +kernel
theorem dX11_type_35 : decode cX11_type 35 = .ok (.iastore, 1) := by decide +kernel
theorem dX11_type_36 : decode cX11_type 36 = .ok (.aload_n 0, 1) := by decide +kernel
theorem dX11_type_37 : decode cX11_type 37 = .ok (.dup, 1) := by decide +kernel
theorem dX11_type_38 : decode cX11_type 38 = .ok (.getfield 93, 3) := by decide +kernel
theorem dX11_type_41 : decode cX11_type 41 = .ok (.iconst 1, 1) := by decide +kernel
theorem dX11_type_42 : decode cX11_type 42 = .ok (.iadd, 1) := by decide +kernel
theorem dX11_type_43 : decode cX11_type 43 = .ok (.putfield 93, 3) := by decide +kernel
theorem dX11_type_46 : decode cX11_type 46 = .ok (.aload_n 0, 1) := by decide +kernel
theorem dX11_type_47 : decode cX11_type 47 = .ok (.getfield 93, 3) := by decide +kernel
theorem dX11_type_50 : decode cX11_type 50 = .ok (.ireturn, 1) := by decide +kernel
theorem dX11_wipe_0 : decode cX11_wipe 0 = .ok (.aload_n 0, 1) := by decide +kernel
theorem dX11_wipe_1 : decode cX11_wipe 1 = .ok (.getfield 93, 3) := by decide +kernel
theorem dX11_wipe_4 : decode cX11_wipe 4 = .ok (.istore_n 1, 1) := by decide +kernel
theorem dX11_wipe_5 : decode cX11_wipe 5 = .ok (.aload_n 0, 1) := by decide +kernel
theorem dX11_wipe_6 : decode cX11_wipe 6 = .ok (.iconst 0, 1) := by decide +kernel
theorem dX11_wipe_7 : decode cX11_wipe 7 = .ok (.putfield 93, 3) := by decide +kernel
theorem dX11_wipe_10 : decode cX11_wipe 10 = .ok (.iload_n 1, 1) := by decide +kernel
theorem dX11_wipe_11 : decode cX11_wipe 11 = .ok (.ireturn, 1) := by decide +kernel
theorem dX11_undo_0 : decode cX11_undo 0 = .ok (.aload_n 0, 1) := by decide +kernel
theorem dX11_undo_1 : decode cX11_undo 1 = .ok (.getfield 93, 3) := by decide +kernel
theorem dX11_undo_4 : decode cX11_undo 4 = .ok (.ifCond .ne 6, 3) := by decide +kernel
theorem dX11_undo_7 : decode cX11_undo 7 = .ok (.bipush (-3), 2) := by decide +kernel
theorem dX11_undo_9 : decode cX11_undo 9 = .ok (.ireturn, 1) := by decide +kernel
theorem dX11_undo_10 : decode cX11_undo 10 = .ok (.aload_n 0, 1) := by decide +kernel
theorem dX11_undo_11 : decode cX11_undo 11 = .ok (.dup, 1) := by decide +kernel
theorem dX11_undo_12 : decode cX11_undo 12 = .ok (.getfield 93, 3) := by decide +kernel
theorem dX11_undo_15 : decode cX11_undo 15 = .ok (.iconst 1, 1) := by decide +kernel
theorem dX11_undo_16 : decode cX11_undo 16 = .ok (.isub, 1) := by decide +kernel
theorem dX11_undo_17 : decode cX11_undo 17 = .ok (.putfield 93, 3) := by decide +kernel
theorem dX11_undo_20 : decode cX11_undo 20 = .ok (.aload_n 0, 1) := by decide +kernel
theorem dX11_undo_21 : decode cX11_undo 21 = .ok (.getfield 93, 3) := by decide +kernel
theorem dX11_undo_24 : decode cX11_undo 24 = .ok (.ireturn, 1) := by decide +kernel
theorem dX11_adds_0 : decode cX11_adds 0 = .ok (.aload_n 0, 1) := by decide +kernel
theorem dX11_adds_1 : decode cX11_adds 1 = .ok (.getfield 13, 3) := by decide +kernel
theorem dX11_adds_4 : decode cX11_adds 4 = .ok (.aload_n 0, 1) := by decide +kernel
theorem dX11_adds_5 : decode cX11_adds 5 = .ok (.getfield 97, 3) := by decide +kernel
theorem dX11_adds_8 : decode cX11_adds 8 = .ok (.iload_n 1, 1) := by decide +kernel
theorem dX11_adds_9 : decode cX11_adds 9 = .ok (.iastore, 1) := by decide +kernel
theorem dX11_adds_10 : decode cX11_adds 10 = .ok (.aload_n 0, 1) := by decide +kernel
theorem dX11_adds_11 : decode cX11_adds 11 = .ok (.getfield 16, 3) := by decide +kernel
theorem dX11_adds_14 : decode cX11_adds 14 = .ok (.aload_n 0, 1) := by decide +kernel
theorem dX11_adds_15 : decode cX11_adds 15 = .ok (.getfield 97, 3) := by decide +kernel
theorem dX11_adds_18 : decode cX11_adds 18 = .ok (.iload_n 2, 1) := by decide +kernel
theorem dX11_adds_19 : decode cX11_adds 19 = .ok (.iastore, 1) := by decide +kernel
theorem dX11_adds_20 : decode cX11_adds 20 = .ok (.aload_n 0, 1) := by decide +kernel
theorem dX11_adds_21 : decode cX11_adds 21 = .ok (.getfield 19, 3) := by decide +kernel
theorem dX11_adds_24 : decode cX11_adds 24 = .ok (.aload_n 0, 1) := by decide +kernel
theorem dX11_adds_25 : decode cX11_adds 25 = .ok (.getfield 97, 3) := by decide +kernel
theorem dX11_adds_28 : decode cX11_adds 28 = .ok (.iload_n 1, 1) := by decide +kernel
theorem dX11_adds_29 : decode cX11_adds 29 = .ok (.iconst 4, 1) := by decide +kernel
theorem dX11_adds_30 : decode cX11_adds 30 = .ok (.if_icmp .ne 10, 3) := by decide +kernel
theorem dX11_adds_33 : decode cX11_adds 33 = .ok (.aload_n 0, 1) := by decide +kernel
theorem dX11_adds_34 : decode cX11_adds 34 = .ok (.getfield 100, 3) := by decide +kernel
theorem dX11_adds_37 : decode cX11_adds 37 = .ok (.goto 4, 3) := by decide +kernel
theorem dX11_adds_40 : decode cX11_adds 40 = .ok (.iconst (-1), 1) := by decide +kernel
theorem dX11_adds_41 : decode cX11_adds 41 = .ok (.iastore, 1) := by decide +kernel
theorem dX11_adds_42 : decode cX11_adds 42 = .ok (.iload_n 1, 1) := by decide +kernel
theorem dX11_adds_43 : decode cX11_adds 43 = .ok (.iconst 4, 1) := by decide +kernel
theorem dX11_adds_44 : decode cX11_adds 44 = .ok (.if_icmp .ne 26, 3) := by decide +kernel
theorem dX11_adds_47 : decode cX11_adds 47 = .ok (.aload_n 0, 1) := by decide +kernel
theorem dX11_adds_48 : decode cX11_adds 48 = .ok (.getfield 22, 3) := by decide +kernel
theorem dX11_adds_51 : decode cX11_adds 51 = .ok (.aload_n 0, 1) := by decide +kernel
theorem dX11_adds_52 : decode cX11_adds 52 = .ok (.getfield 100, 3) := by decide +kernel
theorem dX11_adds_55 : decode cX11_adds 55 = .ok (.aload_n 0, 1) := by decide +kernel
theorem dX11_adds_56 : decode cX11_adds 56 = .ok (.getfield 97, 3) := by decide +kernel
theorem dX11_adds_59 : decode cX11_adds 59 = .ok (.iastore, 1) := by decide +kernel
theorem dX11_adds_60 : decode cX11_adds 60 = .ok (.aload_n 0, 1) := by decide +kernel
theorem dX11_adds_61 : decode cX11_adds 61 = .ok (.dup, 1) := by decide +kernel
theorem dX11_adds_62 : decode cX11_adds 62 = .ok (.getfield 100, 3) := by decide +kernel
theorem dX11_adds_65 : decode cX11_adds 65 = .ok (.iconst 1, 1) := by decide +kernel
theorem dX11_adds_66 : decode cX11_adds 66 = .ok (.iadd, 1) := by decide +kernel
theorem dX11_adds_67 : decode cX11_adds 67 = .ok (.putfield 100, 3) := by decide +kernel
theorem dX11_adds_70 : decode cX11_adds 70 = .ok (.aload_n 0, 1) := by decide +kernel
theorem dX11_adds_71 : decode cX11_adds 71 = .ok (.dup, 1) := by decide +kernel
theorem dX11_adds_72 : decode cX11_adds 72 = .ok (.getfield 103, 3) := by decide +kernel
theorem dX11_adds_75 : decode cX11_adds 75 = .ok (.iload_n 1, 1) := by decide +kernel
theorem dX11_adds_76 : decode cX11_adds 76 = .ok (.iconst 3, 1) := by decide +kernel
theorem dX11_adds_77 : decode cX11_adds 77 = .ok (.if_icmp .ge 7, 3) := by decide +kernel
theorem dX11_adds_80 : decode cX11_adds 80 = .ok (.iconst 1, 1) := by decide +kernel
theorem dX11_adds_81 : decode cX11_adds 81 = .ok (.goto 4, 3) := by decide +kernel
theorem dX11_adds_84 : decode cX11_adds 84 = .ok (.iconst 0, 1) := by decide +kernel
theorem dX11_adds_85 : decode cX11_adds 85 = .ok (.iadd, 1) := by decide +kernel
theorem dX11_adds_86 : decode cX11_adds 86 = .ok (.putfield 103, 3) := by decide +kernel
theorem dX11_adds_89 : decode cX11_adds 89 = .ok (.aload_n 0, 1) := by decide +kernel
theorem dX11_adds_90 : decode cX11_adds 90 = .ok (.dup, 1) := by decide +kernel
theorem dX11_adds_91 : decode cX11_adds 91 = .ok (.getfield 97, 3) := by decide +kernel
theorem dX11_adds_94 : decode cX11_adds 94 = .ok (.iconst 1, 1) := by decide +kernel
theorem dX11_adds_95 : decode cX11_adds 95 = .ok (.iadd, 1) := by decide +kernel
theorem dX11_adds_96 : decode cX11_adds 96 = .ok (.putfield 97, 3) := by decide +kernel
theorem dX11_adds_99 : decode cX11_adds 99 = .ok (.return_, 1) := by decide +kernel
theorem dX11_figureAt_0 : decode cX11_figureAt 0 = .ok (.iload_n 1, 1) := by decide +kernel
theorem dX11_figureAt_1 : decode cX11_figureAt 1 = .ok (.aload_n 0, 1) := by decide +kernel
theorem dX11_figureAt_2 : decode cX11_figureAt 2 = .ok (.getfield 93, 3) := by decide +kernel
theorem dX11_figureAt_5 : decode cX11_figureAt 5 = .ok (.if_icmp .ge 15, 3) := by decide +kernel
theorem dX11_figureAt_8 : decode cX11_figureAt 8 = .ok (.aload_n 0, 1) := by decide +kernel
theorem dX11_figureAt_9 : decode cX11_figureAt 9 = .ok (.getfield 7, 3) := by decide +kernel
theorem dX11_figureAt_12 : decode cX11_figureAt 12 = .ok (.iload_n 1, 1) := by decide +kernel
theorem dX11_figureAt_13 : decode cX11_figureAt 13 = .ok (.iaload, 1) := by decide +kernel
theorem dX11_figureAt_14 : decode cX11_figureAt 14 = .ok (.bipush 48, 2) := by decide +kernel
theorem dX11_figureAt_16 : decode cX11_figureAt 16 = .ok (.isub, 1) := by decide +kernel
theorem dX11_figureAt_17 : decode cX11_figureAt 17 = .ok (.goto 4, 3) := by decide +kernel
theorem dX11_figureAt_20 : decode cX11_figureAt 20 = .ok (.iconst (-1), 1) := by decide +kernel
theorem dX11_figureAt_21 : decode cX11_figureAt 21 = .ok (.istore_n 2, 1) := by decide +kernel
theorem dX11_figureAt_22 : decode cX11_figureAt 22 = .ok (.iload_n 2, 1) := by decide +kernel
theorem dX11_figureAt_23 : decode cX11_figureAt 23 = .ok (.iconst 0, 1) := by decide +kernel
theorem dX11_figureAt_24 : decode cX11_figureAt 24 = .ok (.bipush 9, 2) := by decide +kernel
theorem dX11_figureAt_26 : decode cX11_figureAt 26 = .ok (.invokestatic 89, 3) := by decide +kernel
theorem dX11_figureAt_29 : decode cX11_figureAt 29 = .ok (.ifCond .eq 7, 3) := by decide +kernel
theorem dX11_figureAt_32 : decode cX11_figureAt 32 = .ok (.iload_n 2, 1) := by decide +kernel
theorem dX11_figureAt_33 : decode cX11_figureAt 33 = .ok (.goto 4, 3) := by decide +kernel
theorem dX11_figureAt_36 : decode cX11_figureAt 36 = .ok (.iconst (-1), 1) := by decide +kernel
theorem dX11_figureAt_37 : decode cX11_figureAt 37 = .ok (.ireturn, 1) := by decide +kernel
theorem dX11_readsPiece_0 : decode cX11_readsPiece 0 = .ok (.aload_n 0, 1) := by decide +kernel
theorem dX11_readsPiece_1 : decode cX11_readsPiece 1 = .ok (.iconst 0, 1) := by decide +kernel
theorem dX11_readsPiece_2 : decode cX11_readsPiece 2 = .ok (.putfield 97, 3) := by decide +kernel
theorem dX11_readsPiece_5 : decode cX11_readsPiece 5 = .ok (.aload_n 0, 1) := by decide +kernel
theorem dX11_readsPiece_6 : decode cX11_readsPiece 6 = .ok (.iconst 0, 1) := by decide +kernel
theorem dX11_readsPiece_7 : decode cX11_readsPiece 7 = .ok (.putfield 103, 3) := by decide +kernel
theorem dX11_readsPiece_10 : decode cX11_readsPiece 10 = .ok (.aload_n 0, 1) := by decide +kernel
theorem dX11_readsPiece_11 : decode cX11_readsPiece 11 = .ok (.iconst 0, 1) := by decide +kernel
theorem dX11_readsPiece_12 : decode cX11_readsPiece 12 = .ok (.putfield 100, 3) := by decide +kernel
theorem dX11_readsPiece_15 : decode cX11_readsPiece 15 = .ok (.iconst 0, 1) := by decide +kernel
theorem dX11_readsPiece_16 : decode cX11_readsPiece 16 = .ok (.istore_n 1, 1) := by decide +kernel
theorem dX11_readsPiece_17 : decode cX11_readsPiece 17 = .ok (.aload_n 0, 1) := by decide +kernel
theorem dX11_readsPiece_18 : decode cX11_readsPiece 18 = .ok (.getfield 93, 3) := by decide +kernel
theorem dX11_readsPiece_21 : decode cX11_readsPiece 21 = .ok (.ifCond .ne 7, 3) := by decide +kernel
theorem dX11_readsPiece_24 : decode cX11_readsPiece 24 = .ok (.iconst 1, 1) := by decide +kernel
theorem dX11_readsPiece_25 : decode cX11_readsPiece 25 = .ok (.goto 4, 3) := by decide +kernel
theorem dX11_readsPiece_28 : decode cX11_readsPiece 28 = .ok (.iconst 0, 1) := by decide +kernel
theorem dX11_readsPiece_29 : decode cX11_readsPiece 29 = .ok (.istore_n 2, 1) := by decide +kernel
theorem dX11_readsPiece_30 : decode cX11_readsPiece 30 = .ok (.iload_n 1, 1) := by decide +kernel
theorem dX11_readsPiece_31 : decode cX11_readsPiece 31 = .ok (.aload_n 0, 1) := by decide +kernel
theorem dX11_readsPiece_32 : decode cX11_readsPiece 32 = .ok (.getfield 93, 3) := by decide +kernel
theorem dX11_readsPiece_35 : decode cX11_readsPiece 35 = .ok (.if_icmp .ge 337, 3) := by decide +kernel
theorem dX11_readsPiece_38 : decode cX11_readsPiece 38 = .ok (.aload_n 0, 1) := by decide +kernel
theorem dX11_readsPiece_39 : decode cX11_readsPiece 39 = .ok (.getfield 7, 3) := by decide +kernel
theorem dX11_readsPiece_42 : decode cX11_readsPiece 42 = .ok (.iload_n 1, 1) := by decide +kernel
theorem dX11_readsPiece_43 : decode cX11_readsPiece 43 = .ok (.iaload, 1) := by decide +kernel
theorem dX11_readsPiece_44 : decode cX11_readsPiece 44 = .ok (.istore_n 3, 1) := by decide +kernel
theorem dX11_readsPiece_45 : decode cX11_readsPiece 45 = .ok (.iload_n 3, 1) := by decide +kernel
theorem dX11_readsPiece_46 : decode cX11_readsPiece 46 = .ok (.bipush 100, 2) := by decide +kernel
theorem dX11_readsPiece_48 : decode cX11_readsPiece 48 = .ok (.if_icmp .ne 7, 3) := by decide +kernel
theorem dX11_readsPiece_51 : decode cX11_readsPiece 51 = .ok (.iconst 0, 1) := by decide +kernel
theorem dX11_readsPiece_52 : decode cX11_readsPiece 52 = .ok (.goto 54, 3) := by decide +kernel
theorem dX11_readsPiece_55 : decode cX11_readsPiece 55 = .ok (.iload_n 3, 1) := by decide +kernel
theorem dX11_readsPiece_56 : decode cX11_readsPiece 56 = .ok (.bipush 119, 2) := by decide +kernel
theorem dX11_readsPiece_58 : decode cX11_readsPiece 58 = .ok (.if_icmp .ne 7, 3) := by decide +kernel
theorem dX11_readsPiece_61 : decode cX11_readsPiece 61 = .ok (.iconst 1, 1) := by decide +kernel
theorem dX11_readsPiece_62 : decode cX11_readsPiece 62 = .ok (.goto 44, 3) := by decide +kernel
theorem dX11_readsPiece_65 : decode cX11_readsPiece 65 = .ok (.iload_n 3, 1) := by decide +kernel
theorem dX11_readsPiece_66 : decode cX11_readsPiece 66 = .ok (.bipush 109, 2) := by decide +kernel
theorem dX11_readsPiece_68 : decode cX11_readsPiece 68 = .ok (.if_icmp .ne 7, 3) := by decide +kernel
theorem dX11_readsPiece_71 : decode cX11_readsPiece 71 = .ok (.iconst 2, 1) := by decide +kernel
theorem dX11_readsPiece_72 : decode cX11_readsPiece 72 = .ok (.goto 34, 3) := by decide +kernel
theorem dX11_readsPiece_75 : decode cX11_readsPiece 75 = .ok (.iload_n 3, 1) := by decide +kernel
theorem dX11_readsPiece_76 : decode cX11_readsPiece 76 = .ok (.bipush 112, 2) := by decide +kernel
theorem dX11_readsPiece_78 : decode cX11_readsPiece 78 = .ok (.if_icmp .ne 7, 3) := by decide +kernel
theorem dX11_readsPiece_81 : decode cX11_readsPiece 81 = .ok (.iconst 3, 1) := by decide +kernel
theorem dX11_readsPiece_82 : decode cX11_readsPiece 82 = .ok (.goto 24, 3) := by decide +kernel
theorem dX11_readsPiece_85 : decode cX11_readsPiece 85 = .ok (.iload_n 3, 1) := by decide +kernel
theorem dX11_readsPiece_86 : decode cX11_readsPiece 86 = .ok (.bipush 99, 2) := by decide +kernel
theorem dX11_readsPiece_88 : decode cX11_readsPiece 88 = .ok (.if_icmp .ne 7, 3) := by decide +kernel
theorem dX11_readsPiece_91 : decode cX11_readsPiece 91 = .ok (.iconst 4, 1) := by decide +kernel
theorem dX11_readsPiece_92 : decode cX11_readsPiece 92 = .ok (.goto 14, 3) := by decide +kernel
theorem dX11_readsPiece_95 : decode cX11_readsPiece 95 = .ok (.iload_n 3, 1) := by decide +kernel
theorem dX11_readsPiece_96 : decode cX11_readsPiece 96 = .ok (.bipush 120, 2) := by decide +kernel
theorem dX11_readsPiece_98 : decode cX11_readsPiece 98 = .ok (.if_icmp .ne 7, 3) := by decide +kernel
theorem dX11_readsPiece_101 : decode cX11_readsPiece 101 = .ok (.iconst 5, 1) := by decide +kernel
theorem dX11_readsPiece_102 : decode cX11_readsPiece 102 = .ok (.goto 4, 3) := by decide +kernel
theorem dX11_readsPiece_105 : decode cX11_readsPiece 105 = .ok (.iconst (-1), 1) := by decide +kernel
theorem dX11_readsPiece_106 : decode cX11_readsPiece 106 = .ok (.istore 4, 2) := by decide +kernel
theorem dX11_readsPiece_108 : decode cX11_readsPiece 108 = .ok (.iload_n 2, 1) := by decide +kernel
theorem dX11_readsPiece_109 : decode cX11_readsPiece 109 = .ok (.ifCond .ne 9, 3) := by decide +kernel
theorem dX11_readsPiece_112 : decode cX11_readsPiece 112 = .ok (.iload 4, 2) := by decide +kernel
theorem dX11_readsPiece_114 : decode cX11_readsPiece 114 = .ok (.iconst (-1), 1) := by decide +kernel
theorem dX11_readsPiece_115 : decode cX11_readsPiece 115 = .ok (.if_icmp .ne 5, 3) := by decide +kernel
theorem dX11_readsPiece_118 : decode cX11_readsPiece 118 = .ok (.iload_n 1, 1) := by decide +kernel
theorem dX11_readsPiece_119 : decode cX11_readsPiece 119 = .ok (.ireturn, 1) := by decide +kernel
theorem dX11_readsPiece_120 : decode cX11_readsPiece 120 = .ok (.iload 4, 2) := by decide +kernel
theorem dX11_readsPiece_122 : decode cX11_readsPiece 122 = .ok (.iconst 3, 1) := by decide +kernel
theorem dX11_readsPiece_123 : decode cX11_readsPiece 123 = .ok (.if_icmp .ne 108, 3) := by decide +kernel
theorem dX11_readsPiece_126 : decode cX11_readsPiece 126 = .ok (.aload_n 0, 1) := by decide +kernel
theorem dX11_readsPiece_127 : decode cX11_readsPiece 127 = .ok (.iload_n 1, 1) := by decide +kernel
theorem dX11_readsPiece_128 : decode cX11_readsPiece 128 = .ok (.iconst 1, 1) := by decide +kernel
theorem dX11_readsPiece_129 : decode cX11_readsPiece 129 = .ok (.iadd, 1) := by decide +kernel
theorem dX11_readsPiece_130 : decode cX11_readsPiece 130 = .ok (.invokevirtual 106, 3) := by decide +kernel
theorem dX11_readsPiece_133 : decode cX11_readsPiece 133 = .ok (.istore 5, 2) := by decide +kernel
theorem dX11_readsPiece_135 : decode cX11_readsPiece 135 = .ok (.aload_n 0, 1) := by decide +kernel
theorem dX11_readsPiece_136 : decode cX11_readsPiece 136 = .ok (.iload_n 1, 1) := by decide +kernel
theorem dX11_readsPiece_137 : decode cX11_readsPiece 137 = .ok (.iconst 2, 1) := by decide +kernel
theorem dX11_readsPiece_138 : decode cX11_readsPiece 138 = .ok (.iadd, 1) := by decide +kernel
theorem dX11_readsPiece_139 : decode cX11_readsPiece 139 = .ok (.invokevirtual 106, 3) := by decide +kernel
theorem dX11_readsPiece_142 : decode cX11_readsPiece 142 = .ok (.istore 6, 2) := by decide +kernel
theorem dX11_readsPiece_144 : decode cX11_readsPiece 144 = .ok (.bipush 10, 2) := by decide +kernel
theorem dX11_readsPiece_146 : decode cX11_readsPiece 146 = .ok (.iload 5, 2) := by decide +kernel
theorem dX11_readsPiece_148 : decode cX11_readsPiece 148 = .ok (.imul, 1) := by decide +kernel
theorem dX11_readsPiece_149 : decode cX11_readsPiece 149 = .ok (.iload 6, 2) := by decide +kernel
theorem dX11_readsPiece_151 : decode cX11_readsPiece 151 = .ok (.iadd, 1) := by decide +kernel
theorem dX11_readsPiece_152 : decode cX11_readsPiece 152 = .ok (.istore 7, 2) := by decide +kernel
theorem dX11_readsPiece_154 : decode cX11_readsPiece 154 = .ok (.iload 5, 2) := by decide +kernel
theorem dX11_readsPiece_156 : decode cX11_readsPiece 156 = .ok (.iconst (-1), 1) := by decide +kernel
theorem dX11_readsPiece_157 : decode cX11_readsPiece 157 = .ok (.if_icmp .eq 9, 3) := by decide +kernel
theorem dX11_readsPiece_160 : decode cX11_readsPiece 160 = .ok (.iload 6, 2) := by decide +kernel
theorem dX11_readsPiece_162 : decode cX11_readsPiece 162 = .ok (.iconst (-1), 1) := by decide +kernel
theorem dX11_readsPiece_163 : decode cX11_readsPiece 163 = .ok (.if_icmp .ne 19, 3) := by decide +kernel
theorem dX11_readsPiece_166 : decode cX11_readsPiece 166 = .ok (.iload 5, 2) := by decide +kernel
theorem dX11_readsPiece_168 : decode cX11_readsPiece 168 = .ok (.iconst (-1), 1) := by decide +kernel
theorem dX11_readsPiece_169 : decode cX11_readsPiece 169 = .ok (.if_icmp .ne 9, 3) := by decide +kernel
theorem dX11_readsPiece_172 : decode cX11_readsPiece 172 = .ok (.iload_n 1, 1) := by decide +kernel
theorem dX11_readsPiece_173 : decode cX11_readsPiece 173 = .ok (.iconst 1, 1) := by decide +kernel
theorem dX11_readsPiece_174 : decode cX11_readsPiece 174 = .ok (.iadd, 1) := by decide +kernel
theorem dX11_readsPiece_175 : decode cX11_readsPiece 175 = .ok (.goto 6, 3) := by decide +kernel
theorem dX11_readsPiece_178 : decode cX11_readsPiece 178 = .ok (.iload_n 1, 1) := by decide +kernel
theorem dX11_readsPiece_179 : decode cX11_readsPiece 179 = .ok (.iconst 2, 1) := by decide +kernel
theorem dX11_readsPiece_180 : decode cX11_readsPiece 180 = .ok (.iadd, 1) := by decide +kernel
theorem dX11_readsPiece_181 : decode cX11_readsPiece 181 = .ok (.ireturn, 1) := by decide +kernel
theorem dX11_readsPiece_182 : decode cX11_readsPiece 182 = .ok (.iload 7, 2) := by decide +kernel
theorem dX11_readsPiece_184 : decode cX11_readsPiece 184 = .ok (.ifCond .eq 15, 3) := by decide +kernel
theorem dX11_readsPiece_187 : decode cX11_readsPiece 187 = .ok (.aload_n 0, 1) := by decide +kernel
theorem dX11_readsPiece_188 : decode cX11_readsPiece 188 = .ok (.getfield 97, 3) := by decide +kernel
theorem dX11_readsPiece_191 : decode cX11_readsPiece 191 = .ok (.iload 7, 2) := by decide +kernel
theorem dX11_readsPiece_193 : decode cX11_readsPiece 193 = .ok (.iadd, 1) := by decide +kernel
theorem dX11_readsPiece_194 : decode cX11_readsPiece 194 = .ok (.bipush 99, 2) := by decide +kernel
theorem dX11_readsPiece_196 : decode cX11_readsPiece 196 = .ok (.if_icmp .le 7, 3) := by decide +kernel
theorem dX11_readsPiece_199 : decode cX11_readsPiece 199 = .ok (.iload_n 1, 1) := by decide +kernel
theorem dX11_readsPiece_200 : decode cX11_readsPiece 200 = .ok (.iconst 2, 1) := by decide +kernel
theorem dX11_readsPiece_201 : decode cX11_readsPiece 201 = .ok (.iadd, 1) := by decide +kernel
theorem dX11_readsPiece_202 : decode cX11_readsPiece 202 = .ok (.ireturn, 1) := by decide +kernel
theorem dX11_readsPiece_203 : decode cX11_readsPiece 203 = .ok (.iconst 0, 1) := by decide +kernel
theorem dX11_readsPiece_204 : decode cX11_readsPiece 204 = .ok (.istore 8, 2) := by decide +kernel
theorem dX11_readsPiece_206 : decode cX11_readsPiece 206 = .ok (.iload 8, 2) := by decide +kernel
theorem dX11_readsPiece_208 : decode cX11_readsPiece 208 = .ok (.iload 7, 2) := by decide +kernel
theorem dX11_readsPiece_210 : decode cX11_readsPiece 210 = .ok (.if_icmp .ge 15, 3) := by decide +kernel
theorem dX11_readsPiece_213 : decode cX11_readsPiece 213 = .ok (.aload_n 0, 1) := by decide +kernel
theorem dX11_readsPiece_214 : decode cX11_readsPiece 214 = .ok (.iconst 3, 1) := by decide +kernel
theorem dX11_readsPiece_215 : decode cX11_readsPiece 215 = .ok (.iconst (-1), 1) := by decide +kernel
theorem dX11_readsPiece_216 : decode cX11_readsPiece 216 = .ok (.invokevirtual 110, 3) := by decide +kernel
theorem dX11_readsPiece_219 : decode cX11_readsPiece 219 = .ok (.iinc 8 1, 3) := by decide +kernel
theorem dX11_readsPiece_222 : decode cX11_readsPiece 222 = .ok (.goto (-16), 3) := by decide +kernel
theorem dX11_readsPiece_225 : decode cX11_readsPiece 225 = .ok (.iinc 1 3, 3) := by decide +kernel
theorem dX11_readsPiece_228 : decode cX11_readsPiece 228 = .ok (.goto 141, 3) := by decide +kernel
theorem dX11_readsPiece_231 : decode cX11_readsPiece 231 = .ok (.aload_n 0, 1) := by decide +kernel
theorem dX11_readsPiece_232 : decode cX11_readsPiece 232 = .ok (.getfield 97, 3) := by decide +kernel
theorem dX11_readsPiece_235 : decode cX11_readsPiece 235 = .ok (.bipush 99, 2) := by decide +kernel
theorem dX11_readsPiece_237 : decode cX11_readsPiece 237 = .ok (.if_icmp .eq 33, 3) := by decide +kernel
theorem dX11_readsPiece_240 : decode cX11_readsPiece 240 = .ok (.iload 4, 2) := by decide +kernel
theorem dX11_readsPiece_242 : decode cX11_readsPiece 242 = .ok (.iconst 3, 1) := by decide +kernel
theorem dX11_readsPiece_243 : decode cX11_readsPiece 243 = .ok (.if_icmp .ge 12, 3) := by decide +kernel
theorem dX11_readsPiece_246 : decode cX11_readsPiece 246 = .ok (.aload_n 0, 1) := by decide +kernel
theorem dX11_readsPiece_247 : decode cX11_readsPiece 247 = .ok (.getfield 103, 3) := by decide +kernel
theorem dX11_readsPiece_250 : decode cX11_readsPiece 250 = .ok (.bipush 10, 2) := by decide +kernel
theorem dX11_readsPiece_252 : decode cX11_readsPiece 252 = .ok (.if_icmp .eq 18, 3) := by decide +kernel
theorem dX11_readsPiece_255 : decode cX11_readsPiece 255 = .ok (.iload 4, 2) := by decide +kernel
theorem dX11_readsPiece_257 : decode cX11_readsPiece 257 = .ok (.iconst 4, 1) := by decide +kernel
theorem dX11_readsPiece_258 : decode cX11_readsPiece 258 = .ok (.if_icmp .ne 14, 3) := by decide +kernel
theorem dX11_readsPiece_261 : decode cX11_readsPiece 261 = .ok (.aload_n 0, 1) := by decide +kernel
theorem dX11_readsPiece_262 : decode cX11_readsPiece 262 = .ok (.getfield 100, 3) := by decide +kernel
theorem dX11_readsPiece_265 : decode cX11_readsPiece 265 = .ok (.bipush 6, 2) := by decide +kernel
theorem dX11_readsPiece_267 : decode cX11_readsPiece 267 = .ok (.if_icmp .ne 5, 3) := by decide +kernel
theorem dX11_readsPiece_270 : decode cX11_readsPiece 270 = .ok (.iload_n 1, 1) := by decide +kernel
theorem dX11_readsPiece_271 : decode cX11_readsPiece 271 = .ok (.ireturn, 1) := by decide +kernel
theorem dX11_readsPiece_272 : decode cX11_readsPiece 272 = .ok (.iload 4, 2) := by decide +kernel
theorem dX11_readsPiece_274 : decode cX11_readsPiece 274 = .ok (.iconst 4, 1) := by decide +kernel
theorem dX11_readsPiece_275 : decode cX11_readsPiece 275 = .ok (.if_icmp .ne 27, 3) := by decide +kernel
theorem dX11_readsPiece_278 : decode cX11_readsPiece 278 = .ok (.iload_n 1, 1) := by decide +kernel
theorem dX11_readsPiece_279 : decode cX11_readsPiece 279 = .ok (.iconst 1, 1) := by decide +kernel
theorem dX11_readsPiece_280 : decode cX11_readsPiece 280 = .ok (.iadd, 1) := by decide +kernel
theorem dX11_readsPiece_281 : decode cX11_readsPiece 281 = .ok (.aload_n 0, 1) := by decide +kernel
theorem dX11_readsPiece_282 : decode cX11_readsPiece 282 = .ok (.getfield 93, 3) := by decide +kernel
theorem dX11_readsPiece_285 : decode cX11_readsPiece 285 = .ok (.if_icmp .ge 17, 3) := by decide +kernel
theorem dX11_readsPiece_288 : decode cX11_readsPiece 288 = .ok (.aload_n 0, 1) := by decide +kernel
theorem dX11_readsPiece_289 : decode cX11_readsPiece 289 = .ok (.getfield 7, 3) := by decide +kernel
theorem dX11_readsPiece_292 : decode cX11_readsPiece 292 = .ok (.iload_n 1, 1) := by decide +kernel
theorem dX11_readsPiece_293 : decode cX11_readsPiece 293 = .ok (.iconst 1, 1) := by decide +kernel
theorem dX11_readsPiece_294 : decode cX11_readsPiece 294 = .ok (.iadd, 1) := by decide +kernel
theorem dX11_readsPiece_295 : decode cX11_readsPiece 295 = .ok (.iaload, 1) := by decide +kernel
theorem dX11_readsPiece_296 : decode cX11_readsPiece 296 = .ok (.bipush 97, 2) := by decide +kernel
theorem dX11_readsPiece_298 : decode cX11_readsPiece 298 = .ok (.isub, 1) := by decide +kernel
theorem dX11_readsPiece_299 : decode cX11_readsPiece 299 = .ok (.goto 4, 3) := by decide +kernel
theorem dX11_readsPiece_302 : decode cX11_readsPiece 302 = .ok (.iconst (-1), 1) := by decide +kernel
theorem dX11_readsPiece_303 : decode cX11_readsPiece 303 = .ok (.istore 5, 2) := by decide +kernel
theorem dX11_readsPiece_305 : decode cX11_readsPiece 305 = .ok (.iload 4, 2) := by decide +kernel
theorem dX11_readsPiece_307 : decode cX11_readsPiece 307 = .ok (.iconst 4, 1) := by decide +kernel
theorem dX11_readsPiece_308 : decode cX11_readsPiece 308 = .ok (.if_icmp .ne 17, 3) := by decide +kernel
theorem dX11_readsPiece_311 : decode cX11_readsPiece 311 = .ok (.iload 5, 2) := by decide +kernel
theorem dX11_readsPiece_313 : decode cX11_readsPiece 313 = .ok (.iconst 0, 1) := by decide +kernel
theorem dX11_readsPiece_314 : decode cX11_readsPiece 314 = .ok (.iconst 3, 1) := by decide +kernel
theorem dX11_readsPiece_315 : decode cX11_readsPiece 315 = .ok (.invokestatic 89, 3) := by decide +kernel
theorem dX11_readsPiece_318 : decode cX11_readsPiece 318 = .ok (.ifCond .ne 7, 3) := by decide +kernel
theorem dX11_readsPiece_321 : decode cX11_readsPiece 321 = .ok (.iload_n 1, 1) := by decide +kernel
theorem dX11_readsPiece_322 : decode cX11_readsPiece 322 = .ok (.iconst 1, 1) := by decide +kernel
theorem dX11_readsPiece_323 : decode cX11_readsPiece 323 = .ok (.iadd, 1) := by decide +kernel
theorem dX11_readsPiece_324 : decode cX11_readsPiece 324 = .ok (.ireturn, 1) := by decide +kernel
theorem dX11_readsPiece_325 : decode cX11_readsPiece 325 = .ok (.aload_n 0, 1) := by decide +kernel
theorem dX11_readsPiece_326 : decode cX11_readsPiece 326 = .ok (.iload 4, 2) := by decide +kernel
theorem dX11_readsPiece_328 : decode cX11_readsPiece 328 = .ok (.iload 4, 2) := by decide +kernel
theorem dX11_readsPiece_330 : decode cX11_readsPiece 330 = .ok (.iconst 4, 1) := by decide +kernel
theorem dX11_readsPiece_331 : decode cX11_readsPiece 331 = .ok (.if_icmp .ne 8, 3) := by decide +kernel
theorem dX11_readsPiece_334 : decode cX11_readsPiece 334 = .ok (.iload 5, 2) := by decide +kernel
theorem dX11_readsPiece_336 : decode cX11_readsPiece 336 = .ok (.goto 4, 3) := by decide +kernel
theorem dX11_readsPiece_339 : decode cX11_readsPiece 339 = .ok (.iconst (-1), 1) := by decide +kernel
theorem dX11_readsPiece_340 : decode cX11_readsPiece 340 = .ok (.invokevirtual 110, 3) := by decide +kernel
theorem dX11_readsPiece_343 : decode cX11_readsPiece 343 = .ok (.iload 4, 2) := by decide +kernel
theorem dX11_readsPiece_345 : decode cX11_readsPiece 345 = .ok (.iconst 5, 1) := by decide +kernel
theorem dX11_readsPiece_346 : decode cX11_readsPiece 346 = .ok (.if_icmp .ne 7, 3) := by decide +kernel
theorem dX11_readsPiece_349 : decode cX11_readsPiece 349 = .ok (.iconst 1, 1) := by decide +kernel
theorem dX11_readsPiece_350 : decode cX11_readsPiece 350 = .ok (.goto 4, 3) := by decide +kernel
theorem dX11_readsPiece_353 : decode cX11_readsPiece 353 = .ok (.iconst 0, 1) := by decide +kernel
theorem dX11_readsPiece_354 : decode cX11_readsPiece 354 = .ok (.istore_n 2, 1) := by decide +kernel
theorem dX11_readsPiece_355 : decode cX11_readsPiece 355 = .ok (.iload_n 1, 1) := by decide +kernel
theorem dX11_readsPiece_356 : decode cX11_readsPiece 356 = .ok (.iload 4, 2) := by decide +kernel
theorem dX11_readsPiece_358 : decode cX11_readsPiece 358 = .ok (.iconst 4, 1) := by decide +kernel
theorem dX11_readsPiece_359 : decode cX11_readsPiece 359 = .ok (.if_icmp .ne 7, 3) := by decide +kernel
theorem dX11_readsPiece_362 : decode cX11_readsPiece 362 = .ok (.iconst 2, 1) := by decide +kernel
theorem dX11_readsPiece_363 : decode cX11_readsPiece 363 = .ok (.goto 4, 3) := by decide +kernel
theorem dX11_readsPiece_366 : decode cX11_readsPiece 366 = .ok (.iconst 1, 1) := by decide +kernel
theorem dX11_readsPiece_367 : decode cX11_readsPiece 367 = .ok (.iadd, 1) := by decide +kernel
theorem dX11_readsPiece_368 : decode cX11_readsPiece 368 = .ok (.istore_n 1, 1) := by decide +kernel
theorem dX11_readsPiece_369 : decode cX11_readsPiece 369 = .ok (.goto (-339), 3) := by decide +kernel
theorem dX11_readsPiece_372 : decode cX11_readsPiece 372 = .ok (.iload_n 2, 1) := by decide +kernel
theorem dX11_readsPiece_373 : decode cX11_readsPiece 373 = .ok (.ifCond .eq 7, 3) := by decide +kernel
theorem dX11_readsPiece_376 : decode cX11_readsPiece 376 = .ok (.iconst (-1), 1) := by decide +kernel
theorem dX11_readsPiece_377 : decode cX11_readsPiece 377 = .ok (.goto 7, 3) := by decide +kernel
theorem dX11_readsPiece_380 : decode cX11_readsPiece 380 = .ok (.aload_n 0, 1) := by decide +kernel
theorem dX11_readsPiece_381 : decode cX11_readsPiece 381 = .ok (.getfield 93, 3) := by decide +kernel
theorem dX11_readsPiece_384 : decode cX11_readsPiece 384 = .ok (.ireturn, 1) := by decide +kernel
theorem dX11_faultNow_0 : decode cX11_faultNow 0 = .ok (.aload_n 0, 1) := by decide +kernel
theorem dX11_faultNow_1 : decode cX11_faultNow 1 = .ok (.invokevirtual 114, 3) := by decide +kernel
theorem dX11_faultNow_4 : decode cX11_faultNow 4 = .ok (.istore_n 1, 1) := by decide +kernel
theorem dX11_faultNow_5 : decode cX11_faultNow 5 = .ok (.aload_n 0, 1) := by decide +kernel
theorem dX11_faultNow_6 : decode cX11_faultNow 6 = .ok (.iload_n 1, 1) := by decide +kernel
theorem dX11_faultNow_7 : decode cX11_faultNow 7 = .ok (.iconst (-1), 1) := by decide +kernel
theorem dX11_faultNow_8 : decode cX11_faultNow 8 = .ok (.if_icmp .ne 10, 3) := by decide +kernel
theorem dX11_faultNow_11 : decode cX11_faultNow 11 = .ok (.aload_n 0, 1) := by decide +kernel
theorem dX11_faultNow_12 : decode cX11_faultNow 12 = .ok (.getfield 97, 3) := by decide +kernel
theorem dX11_faultNow_15 : decode cX11_faultNow 15 = .ok (.goto 4, 3) := by decide +kernel
theorem dX11_faultNow_18 : decode cX11_faultNow 18 = .ok (.iconst 0, 1) := by decide +kernel
theorem dX11_faultNow_19 : decode cX11_faultNow 19 = .ok (.putfield 97, 3) := by decide +kernel
theorem dX11_faultNow_22 : decode cX11_faultNow 22 = .ok (.aload_n 0, 1) := by decide +kernel
theorem dX11_faultNow_23 : decode cX11_faultNow 23 = .ok (.iload_n 1, 1) := by decide +kernel
theorem dX11_faultNow_24 : decode cX11_faultNow 24 = .ok (.iconst (-1), 1) := by decide +kernel
theorem dX11_faultNow_25 : decode cX11_faultNow 25 = .ok (.if_icmp .ne 10, 3) := by decide +kernel
theorem dX11_faultNow_28 : decode cX11_faultNow 28 = .ok (.aload_n 0, 1) := by decide +kernel
theorem dX11_faultNow_29 : decode cX11_faultNow 29 = .ok (.getfield 103, 3) := by decide +kernel
theorem dX11_faultNow_32 : decode cX11_faultNow 32 = .ok (.goto 4, 3) := by decide +kernel
theorem dX11_faultNow_35 : decode cX11_faultNow 35 = .ok (.iconst 0, 1) := by decide +kernel
theorem dX11_faultNow_36 : decode cX11_faultNow 36 = .ok (.putfield 103, 3) := by decide +kernel
theorem dX11_faultNow_39 : decode cX11_faultNow 39 = .ok (.aload_n 0, 1) := by decide +kernel
theorem dX11_faultNow_40 : decode cX11_faultNow 40 = .ok (.iload_n 1, 1) := by decide +kernel
theorem dX11_faultNow_41 : decode cX11_faultNow 41 = .ok (.iconst (-1), 1) := by decide +kernel
theorem dX11_faultNow_42 : decode cX11_faultNow 42 = .ok (.if_icmp .ne 10, 3) := by decide +kernel
theorem dX11_faultNow_45 : decode cX11_faultNow 45 = .ok (.aload_n 0, 1) := by decide +kernel
theorem dX11_faultNow_46 : decode cX11_faultNow 46 = .ok (.getfield 100, 3) := by decide +kernel
theorem dX11_faultNow_49 : decode cX11_faultNow 49 = .ok (.goto 4, 3) := by decide +kernel
theorem dX11_faultNow_52 : decode cX11_faultNow 52 = .ok (.iconst 0, 1) := by decide +kernel
theorem dX11_faultNow_53 : decode cX11_faultNow 53 = .ok (.putfield 100, 3) := by decide +kernel
theorem dX11_faultNow_56 : decode cX11_faultNow 56 = .ok (.iload_n 1, 1) := by decide +kernel
theorem dX11_faultNow_57 : decode cX11_faultNow 57 = .ok (.ireturn, 1) := by decide +kernel
theorem dX11_fault_0 : decode cX11_fault 0 = .ok (.aload_n 0, 1) := by decide +kernel
theorem dX11_fault_1 : decode cX11_fault 1 = .ok (.invokevirtual 118, 3) := by decide +kernel
theorem dX11_fault_4 : decode cX11_fault 4 = .ok (.ireturn, 1) := by decide +kernel
theorem dX11_reads_0 : decode cX11_reads 0 = .ok (.aload_n 0, 1) := by decide +kernel
theorem dX11_reads_1 : decode cX11_reads 1 = .ok (.invokevirtual 118, 3) := by decide +kernel
theorem dX11_reads_4 : decode cX11_reads 4 = .ok (.istore_n 1, 1) := by decide +kernel
theorem dX11_reads_5 : decode cX11_reads 5 = .ok (.return_, 1) := by decide +kernel
theorem dX11_isBar_0 : decode cX11_isBar 0 = .ok (.aload_n 0, 1) := by decide +kernel
theorem dX11_isBar_1 : decode cX11_isBar 1 = .ok (.invokevirtual 121, 3) := by decide +kernel
theorem dX11_isBar_4 : decode cX11_isBar 4 = .ok (.iload_n 1, 1) := by decide +kernel
theorem dX11_isBar_5 : decode cX11_isBar 5 = .ok (.iconst 0, 1) := by decide +kernel
theorem dX11_isBar_6 : decode cX11_isBar 6 = .ok (.aload_n 0, 1) := by decide +kernel
theorem dX11_isBar_7 : decode cX11_isBar 7 = .ok (.getfield 97, 3) := by decide +kernel
theorem dX11_isBar_10 : decode cX11_isBar 10 = .ok (.iconst 1, 1) := by decide +kernel
theorem dX11_isBar_11 : decode cX11_isBar 11 = .ok (.isub, 1) := by decide +kernel
theorem dX11_isBar_12 : decode cX11_isBar 12 = .ok (.invokestatic 89, 3) := by decide +kernel
theorem dX11_isBar_15 : decode cX11_isBar 15 = .ok (.ireturn, 1) := by decide +kernel
theorem dX11_barOf_0 : decode cX11_barOf 0 = .ok (.iload_n 2, 1) := by decide +kernel
theorem dX11_barOf_1 : decode cX11_barOf 1 = .ok (.ifCond .ne 12, 3) := by decide +kernel
theorem dX11_barOf_4 : decode cX11_barOf 4 = .ok (.aload_n 0, 1) := by decide +kernel
theorem dX11_barOf_5 : decode cX11_barOf 5 = .ok (.getfield 13, 3) := by decide +kernel
theorem dX11_barOf_8 : decode cX11_barOf 8 = .ok (.iload_n 1, 1) := by decide +kernel
theorem dX11_barOf_9 : decode cX11_barOf 9 = .ok (.iaload, 1) := by decide +kernel
theorem dX11_barOf_10 : decode cX11_barOf 10 = .ok (.goto 23, 3) := by decide +kernel
theorem dX11_barOf_13 : decode cX11_barOf 13 = .ok (.iload_n 2, 1) := by decide +kernel
theorem dX11_barOf_14 : decode cX11_barOf 14 = .ok (.iconst 1, 1) := by decide +kernel
theorem dX11_barOf_15 : decode cX11_barOf 15 = .ok (.if_icmp .ne 12, 3) := by decide +kernel
theorem dX11_barOf_18 : decode cX11_barOf 18 = .ok (.aload_n 0, 1) := by decide +kernel
theorem dX11_barOf_19 : decode cX11_barOf 19 = .ok (.getfield 16, 3) := by decide +kernel
theorem dX11_barOf_22 : decode cX11_barOf 22 = .ok (.iload_n 1, 1) := by decide +kernel
theorem dX11_barOf_23 : decode cX11_barOf 23 = .ok (.iaload, 1) := by decide +kernel
theorem dX11_barOf_24 : decode cX11_barOf 24 = .ok (.goto 9, 3) := by decide +kernel
theorem dX11_barOf_27 : decode cX11_barOf 27 = .ok (.aload_n 0, 1) := by decide +kernel
theorem dX11_barOf_28 : decode cX11_barOf 28 = .ok (.getfield 19, 3) := by decide +kernel
theorem dX11_barOf_31 : decode cX11_barOf 31 = .ok (.iload_n 1, 1) := by decide +kernel
theorem dX11_barOf_32 : decode cX11_barOf 32 = .ok (.iaload, 1) := by decide +kernel
theorem dX11_barOf_33 : decode cX11_barOf 33 = .ok (.ireturn, 1) := by decide +kernel
theorem dX11_bar_0 : decode cX11_bar 0 = .ok (.aload_n 0, 1) := by decide +kernel
theorem dX11_bar_1 : decode cX11_bar 1 = .ok (.iload_n 1, 1) := by decide +kernel
theorem dX11_bar_2 : decode cX11_bar 2 = .ok (.invokevirtual 124, 3) := by decide +kernel
theorem dX11_bar_5 : decode cX11_bar 5 = .ok (.ifCond .eq 21, 3) := by decide +kernel
theorem dX11_bar_8 : decode cX11_bar 8 = .ok (.iload_n 2, 1) := by decide +kernel
theorem dX11_bar_9 : decode cX11_bar 9 = .ok (.iconst 0, 1) := by decide +kernel
theorem dX11_bar_10 : decode cX11_bar 10 = .ok (.iconst 2, 1) := by decide +kernel
theorem dX11_bar_11 : decode cX11_bar 11 = .ok (.invokestatic 89, 3) := by decide +kernel
theorem dX11_bar_14 : decode cX11_bar 14 = .ok (.ifCond .eq 12, 3) := by decide +kernel
theorem dX11_bar_17 : decode cX11_bar 17 = .ok (.aload_n 0, 1) := by decide +kernel
theorem dX11_bar_18 : decode cX11_bar 18 = .ok (.iload_n 1, 1) := by decide +kernel
theorem dX11_bar_19 : decode cX11_bar 19 = .ok (.iload_n 2, 1) := by decide +kernel
theorem dX11_bar_20 : decode cX11_bar 20 = .ok (.invokevirtual 128, 3) := by decide +kernel
theorem dX11_bar_23 : decode cX11_bar 23 = .ok (.goto 5, 3) := by decide +kernel
theorem dX11_bar_26 : decode cX11_bar 26 = .ok (.bipush (-2), 2) := by decide +kernel
theorem dX11_bar_28 : decode cX11_bar 28 = .ok (.ireturn, 1) := by decide +kernel
theorem dX11_odds_0 : decode cX11_odds 0 = .ok (.iload_n 1, 1) := by decide +kernel
theorem dX11_odds_1 : decode cX11_odds 1 = .ok (.iconst 0, 1) := by decide +kernel
theorem dX11_odds_2 : decode cX11_odds 2 = .ok (.iconst 2, 1) := by decide +kernel
theorem dX11_odds_3 : decode cX11_odds 3 = .ok (.invokestatic 89, 3) := by decide +kernel
theorem dX11_odds_6 : decode cX11_odds 6 = .ok (.ifCond .eq 31, 3) := by decide +kernel
theorem dX11_odds_9 : decode cX11_odds 9 = .ok (.iload_n 2, 1) := by decide +kernel
theorem dX11_odds_10 : decode cX11_odds 10 = .ok (.iconst 0, 1) := by decide +kernel
theorem dX11_odds_11 : decode cX11_odds 11 = .ok (.bipush 16, 2) := by decide +kernel
theorem dX11_odds_13 : decode cX11_odds 13 = .ok (.invokestatic 89, 3) := by decide +kernel
theorem dX11_odds_16 : decode cX11_odds 16 = .ok (.ifCond .eq 21, 3) := by decide +kernel
theorem dX11_odds_19 : decode cX11_odds 19 = .ok (.iload_n 3, 1) := by decide +kernel
theorem dX11_odds_20 : decode cX11_odds 20 = .ok (.iconst 0, 1) := by decide +kernel
theorem dX11_odds_21 : decode cX11_odds 21 = .ok (.bipush 16, 2) := by decide +kernel
theorem dX11_odds_23 : decode cX11_odds 23 = .ok (.invokestatic 89, 3) := by decide +kernel
theorem dX11_odds_26 : decode cX11_odds 26 = .ok (.ifCond .eq 11, 3) := by decide +kernel
theorem dX11_odds_29 : decode cX11_odds 29 = .ok (.iload_n 2, 1) := by decide +kernel
theorem dX11_odds_30 : decode cX11_odds 30 = .ok (.iload_n 3, 1) := by decide +kernel
theorem dX11_odds_31 : decode cX11_odds 31 = .ok (.iadd, 1) := by decide +kernel
theorem dX11_odds_32 : decode cX11_odds 32 = .ok (.bipush 16, 2) := by decide +kernel
theorem dX11_odds_34 : decode cX11_odds 34 = .ok (.if_icmp .le 6, 3) := by decide +kernel
theorem dX11_odds_37 : decode cX11_odds 37 = .ok (.bipush (-2), 2) := by decide +kernel
theorem dX11_odds_39 : decode cX11_odds 39 = .ok (.ireturn, 1) := by decide +kernel
theorem dX11_odds_40 : decode cX11_odds 40 = .ok (.bipush 16, 2) := by decide +kernel
theorem dX11_odds_42 : decode cX11_odds 42 = .ok (.aload_n 0, 1) := by decide +kernel
theorem dX11_odds_43 : decode cX11_odds 43 = .ok (.getfield 25, 3) := by decide +kernel
theorem dX11_odds_46 : decode cX11_odds 46 = .ok (.iload_n 1, 1) := by decide +kernel
theorem dX11_odds_47 : decode cX11_odds 47 = .ok (.iaload, 1) := by decide +kernel
theorem dX11_odds_48 : decode cX11_odds 48 = .ok (.imul, 1) := by decide +kernel
theorem dX11_odds_49 : decode cX11_odds 49 = .ok (.aload_n 0, 1) := by decide +kernel
theorem dX11_odds_50 : decode cX11_odds 50 = .ok (.getfield 28, 3) := by decide +kernel
theorem dX11_odds_53 : decode cX11_odds 53 = .ok (.iload_n 1, 1) := by decide +kernel
theorem dX11_odds_54 : decode cX11_odds 54 = .ok (.iaload, 1) := by decide +kernel
theorem dX11_odds_55 : decode cX11_odds 55 = .ok (.iadd, 1) := by decide +kernel
theorem dX11_odds_56 : decode cX11_odds 56 = .ok (.istore 4, 2) := by decide +kernel
theorem dX11_odds_58 : decode cX11_odds 58 = .ok (.aload_n 0, 1) := by decide +kernel
theorem dX11_odds_59 : decode cX11_odds 59 = .ok (.getfield 25, 3) := by decide +kernel
theorem dX11_odds_62 : decode cX11_odds 62 = .ok (.iload_n 1, 1) := by decide +kernel
theorem dX11_odds_63 : decode cX11_odds 63 = .ok (.iload_n 2, 1) := by decide +kernel
theorem dX11_odds_64 : decode cX11_odds 64 = .ok (.iastore, 1) := by decide +kernel
theorem dX11_odds_65 : decode cX11_odds 65 = .ok (.aload_n 0, 1) := by decide +kernel
theorem dX11_odds_66 : decode cX11_odds 66 = .ok (.getfield 28, 3) := by decide +kernel
theorem dX11_odds_69 : decode cX11_odds 69 = .ok (.iload_n 1, 1) := by decide +kernel
theorem dX11_odds_70 : decode cX11_odds 70 = .ok (.iload_n 3, 1) := by decide +kernel
theorem dX11_odds_71 : decode cX11_odds 71 = .ok (.iastore, 1) := by decide +kernel
theorem dX11_odds_72 : decode cX11_odds 72 = .ok (.iload 4, 2) := by decide +kernel
theorem dX11_odds_74 : decode cX11_odds 74 = .ok (.ireturn, 1) := by decide +kernel
theorem dX11_set_0 : decode cX11_set 0 = .ok (.iload_n 1, 1) := by decide +kernel
theorem dX11_set_1 : decode cX11_set 1 = .ok (.iconst 4, 1) := by decide +kernel
theorem dX11_set_2 : decode cX11_set 2 = .ok (.if_icmp .eq 8, 3) := by decide +kernel
theorem dX11_set_5 : decode cX11_set 5 = .ok (.iload_n 1, 1) := by decide +kernel
theorem dX11_set_6 : decode cX11_set 6 = .ok (.iconst 5, 1) := by decide +kernel
theorem dX11_set_7 : decode cX11_set 7 = .ok (.if_icmp .ne 8, 3) := by decide +kernel
theorem dX11_set_10 : decode cX11_set 10 = .ok (.bipush 99, 2) := by decide +kernel
theorem dX11_set_12 : decode cX11_set 12 = .ok (.goto 15, 3) := by decide +kernel
theorem dX11_set_15 : decode cX11_set 15 = .ok (.iload_n 1, 1) := by decide +kernel
theorem dX11_set_16 : decode cX11_set 16 = .ok (.bipush 6, 2) := by decide +kernel
theorem dX11_set_18 : decode cX11_set 18 = .ok (.if_icmp .le 7, 3) := by decide +kernel
theorem dX11_set_21 : decode cX11_set 21 = .ok (.iconst 4, 1) := by decide +kernel
theorem dX11_set_22 : decode cX11_set 22 = .ok (.goto 5, 3) := by decide +kernel
theorem dX11_set_25 : decode cX11_set 25 = .ok (.bipush 16, 2) := by decide +kernel
theorem dX11_set_27 : decode cX11_set 27 = .ok (.istore_n 3, 1) := by decide +kernel
theorem dX11_set_28 : decode cX11_set 28 = .ok (.iload_n 1, 1) := by decide +kernel
theorem dX11_set_29 : decode cX11_set 29 = .ok (.iconst 0, 1) := by decide +kernel
theorem dX11_set_30 : decode cX11_set 30 = .ok (.bipush 8, 2) := by decide +kernel
theorem dX11_set_32 : decode cX11_set 32 = .ok (.invokestatic 89, 3) := by decide +kernel
theorem dX11_set_35 : decode cX11_set 35 = .ok (.ifCond .eq 12, 3) := by decide +kernel
theorem dX11_set_38 : decode cX11_set 38 = .ok (.iload_n 2, 1) := by decide +kernel
theorem dX11_set_39 : decode cX11_set 39 = .ok (.iconst 0, 1) := by decide +kernel
theorem dX11_set_40 : decode cX11_set 40 = .ok (.iload_n 3, 1) := by decide +kernel
theorem dX11_set_41 : decode cX11_set 41 = .ok (.invokestatic 89, 3) := by decide +kernel
theorem dX11_set_44 : decode cX11_set 44 = .ok (.ifCond .ne 6, 3) := by decide +kernel
theorem dX11_set_47 : decode cX11_set 47 = .ok (.bipush (-2), 2) := by decide +kernel
theorem dX11_set_49 : decode cX11_set 49 = .ok (.ireturn, 1) := by decide +kernel
theorem dX11_set_50 : decode cX11_set 50 = .ok (.aload_n 0, 1) := by decide +kernel
theorem dX11_set_51 : decode cX11_set 51 = .ok (.getfield 31, 3) := by decide +kernel
theorem dX11_set_54 : decode cX11_set 54 = .ok (.iload_n 1, 1) := by decide +kernel
theorem dX11_set_55 : decode cX11_set 55 = .ok (.iaload, 1) := by decide +kernel
theorem dX11_set_56 : decode cX11_set 56 = .ok (.istore 4, 2) := by decide +kernel
theorem dX11_set_58 : decode cX11_set 58 = .ok (.aload_n 0, 1) := by decide +kernel
theorem dX11_set_59 : decode cX11_set 59 = .ok (.getfield 31, 3) := by decide +kernel
theorem dX11_set_62 : decode cX11_set 62 = .ok (.iload_n 1, 1) := by decide +kernel
theorem dX11_set_63 : decode cX11_set 63 = .ok (.iload_n 2, 1) := by decide +kernel
theorem dX11_set_64 : decode cX11_set 64 = .ok (.iastore, 1) := by decide +kernel
theorem dX11_set_65 : decode cX11_set 65 = .ok (.iload 4, 2) := by decide +kernel
theorem dX11_set_67 : decode cX11_set 67 = .ok (.ireturn, 1) := by decide +kernel
theorem dX11_isNumber_0 : decode cX11_isNumber 0 = .ok (.iload_n 0, 1) := by decide +kernel
theorem dX11_isNumber_1 : decode cX11_isNumber 1 = .ok (.iconst 1, 1) := by decide +kernel
theorem dX11_isNumber_2 : decode cX11_isNumber 2 = .ok (.bipush 110, 2) := by decide +kernel
theorem dX11_isNumber_4 : decode cX11_isNumber 4 = .ok (.invokestatic 89, 3) := by decide +kernel
theorem dX11_isNumber_7 : decode cX11_isNumber 7 = .ok (.ireturn, 1) := by decide +kernel
theorem dX11_read_0 : decode cX11_read 0 = .ok (.iload_n 1, 1) := by decide +kernel
theorem dX11_read_1 : decode cX11_read 1 = .ok (.invokestatic 132, 3) := by decide +kernel
theorem dX11_read_4 : decode cX11_read 4 = .ok (.ifCond .ne 6, 3) := by decide +kernel
theorem dX11_read_7 : decode cX11_read 7 = .ok (.bipush (-2), 2) := by decide +kernel
theorem dX11_read_9 : decode cX11_read 9 = .ok (.ireturn, 1) := by decide +kernel
theorem dX11_read_10 : decode cX11_read 10 = .ok (.aload_n 0, 1) := by decide +kernel
theorem dX11_read_11 : decode cX11_read 11 = .ok (.getfield 71, 3) := by decide +kernel
theorem dX11_read_14 : decode cX11_read 14 = .ok (.iload_n 1, 1) := by decide +kernel
theorem dX11_read_15 : decode cX11_read 15 = .ok (.baload, 1) := by decide +kernel
theorem dX11_read_16 : decode cX11_read 16 = .ok (.ifCond .ne 9, 3) := by decide +kernel
theorem dX11_read_19 : decode cX11_read 19 = .ok (.aload_n 0, 1) := by decide +kernel
theorem dX11_read_20 : decode cX11_read 20 = .ok (.iconst 1, 1) := by decide +kernel
theorem dX11_read_21 : decode cX11_read 21 = .ok (.invokevirtual 135, 3) := by decide +kernel
theorem dX11_read_24 : decode cX11_read 24 = .ok (.ireturn, 1) := by decide +kernel
theorem dX11_read_25 : decode cX11_read 25 = .ok (.iconst 0, 1) := by decide +kernel
theorem dX11_read_26 : decode cX11_read 26 = .ok (.istore_n 2, 1) := by decide +kernel
theorem dX11_read_27 : decode cX11_read 27 = .ok (.iload_n 2, 1) := by decide +kernel
theorem dX11_read_28 : decode cX11_read 28 = .ok (.aload_n 0, 1) := by decide +kernel
theorem dX11_read_29 : decode cX11_read 29 = .ok (.getfield 78, 3) := by decide +kernel
theorem dX11_read_32 : decode cX11_read 32 = .ok (.iload_n 1, 1) := by decide +kernel
theorem dX11_read_33 : decode cX11_read 33 = .ok (.iaload, 1) := by decide +kernel
theorem dX11_read_34 : decode cX11_read 34 = .ok (.if_icmp .ge 49, 3) := by decide +kernel
theorem dX11_read_37 : decode cX11_read 37 = .ok (.iload_n 2, 1) := by decide +kernel
theorem dX11_read_38 : decode cX11_read 38 = .ok (.bipush 20, 2) := by decide +kernel
theorem dX11_read_40 : decode cX11_read 40 = .ok (.if_icmp .ge 43, 3) := by decide +kernel
theorem dX11_read_43 : decode cX11_read 43 = .ok (.aload_n 0, 1) := by decide +kernel
theorem dX11_read_44 : decode cX11_read 44 = .ok (.getfield 81, 3) := by decide +kernel
theorem dX11_read_47 : decode cX11_read 47 = .ok (.bipush 48, 2) := by decide +kernel
theorem dX11_read_49 : decode cX11_read 49 = .ok (.iload_n 1, 1) := by decide +kernel
theorem dX11_read_50 : decode cX11_read 50 = .ok (.imul, 1) := by decide +kernel
theorem dX11_read_51 : decode cX11_read 51 = .ok (.iload_n 2, 1) := by decide +kernel
theorem dX11_read_52 : decode cX11_read 52 = .ok (.iadd, 1) := by decide +kernel
theorem dX11_read_53 : decode cX11_read 53 = .ok (.iaload, 1) := by decide +kernel
theorem dX11_read_54 : decode cX11_read 54 = .ok (.invokestatic 138, 3) := by decide +kernel
theorem dX11_read_57 : decode cX11_read 57 = .ok (.ifCond .eq 26, 3) := by decide +kernel
theorem dX11_read_60 : decode cX11_read 60 = .ok (.aload_n 0, 1) := by decide +kernel
theorem dX11_read_61 : decode cX11_read 61 = .ok (.getfield 34, 3) := by decide +kernel
theorem dX11_read_64 : decode cX11_read 64 = .ok (.iload_n 2, 1) := by decide +kernel
theorem dX11_read_65 : decode cX11_read 65 = .ok (.aload_n 0, 1) := by decide +kernel
theorem dX11_read_66 : decode cX11_read 66 = .ok (.getfield 81, 3) := by decide +kernel
theorem dX11_read_69 : decode cX11_read 69 = .ok (.bipush 48, 2) := by decide +kernel
theorem dX11_read_71 : decode cX11_read 71 = .ok (.iload_n 1, 1) := by decide +kernel
theorem dX11_read_72 : decode cX11_read 72 = .ok (.imul, 1) := by decide +kernel
theorem dX11_read_73 : decode cX11_read 73 = .ok (.iload_n 2, 1) := by decide +kernel
theorem dX11_read_74 : decode cX11_read 74 = .ok (.iadd, 1) := by decide +kernel
theorem dX11_read_75 : decode cX11_read 75 = .ok (.iaload, 1) := by decide +kernel
theorem dX11_read_76 : decode cX11_read 76 = .ok (.iastore, 1) := by decide +kernel
theorem dX11_read_77 : decode cX11_read 77 = .ok (.iinc 2 1, 3) := by decide +kernel
theorem dX11_read_80 : decode cX11_read 80 = .ok (.goto (-53), 3) := by decide +kernel
theorem dX11_read_83 : decode cX11_read 83 = .ok (.aload_n 0, 1) := by decide +kernel
theorem dX11_read_84 : decode cX11_read 84 = .ok (.iload_n 2, 1) := by decide +kernel
theorem dX11_read_85 : decode cX11_read 85 = .ok (.putfield 141, 3) := by decide +kernel
theorem dX11_read_88 : decode cX11_read 88 = .ok (.iload_n 2, 1) := by decide +kernel
theorem dX11_read_89 : decode cX11_read 89 = .ok (.ireturn, 1) := by decide +kernel
theorem dX11_notesMore_0 : decode cX11_notesMore 0 = .ok (.aload_n 0, 1) := by decide +kernel
theorem dX11_notesMore_1 : decode cX11_notesMore 1 = .ok (.getfield 144, 3) := by decide +kernel
theorem dX11_notesMore_4 : decode cX11_notesMore 4 = .ok (.iconst 4, 1) := by decide +kernel
theorem dX11_notesMore_5 : decode cX11_notesMore 5 = .ok (.if_icmp .ne 6, 3) := by decide +kernel
theorem dX11_notesMore_8 : decode cX11_notesMore 8 = .ok (.bipush (-4), 2) := by decide +kernel
theorem dX11_notesMore_10 : decode cX11_notesMore 10 = .ok (.ireturn, 1) := by decide +kernel
theorem dX11_notesMore_11 : decode cX11_notesMore 11 = .ok (.aload_n 0, 1) := by decide +kernel
theorem dX11_notesMore_12 : decode cX11_notesMore 12 = .ok (.getfield 37, 3) := by decide +kernel
theorem dX11_notesMore_15 : decode cX11_notesMore 15 = .ok (.aload_n 0, 1) := by decide +kernel
theorem dX11_notesMore_16 : decode cX11_notesMore 16 = .ok (.getfield 144, 3) := by decide +kernel
theorem dX11_notesMore_19 : decode cX11_notesMore 19 = .ok (.iload_n 1, 1) := by decide +kernel
theorem dX11_notesMore_20 : decode cX11_notesMore 20 = .ok (.iastore, 1) := by decide +kernel
theorem dX11_notesMore_21 : decode cX11_notesMore 21 = .ok (.aload_n 0, 1) := by decide +kernel
theorem dX11_notesMore_22 : decode cX11_notesMore 22 = .ok (.getfield 40, 3) := by decide +kernel
theorem dX11_notesMore_25 : decode cX11_notesMore 25 = .ok (.aload_n 0, 1) := by decide +kernel
theorem dX11_notesMore_26 : decode cX11_notesMore 26 = .ok (.getfield 144, 3) := by decide +kernel
theorem dX11_notesMore_29 : decode cX11_notesMore 29 = .ok (.iload_n 2, 1) := by decide +kernel
theorem dX11_notesMore_30 : decode cX11_notesMore 30 = .ok (.iastore, 1) := by decide +kernel
theorem dX11_notesMore_31 : decode cX11_notesMore 31 = .ok (.aload_n 0, 1) := by decide +kernel
theorem dX11_notesMore_32 : decode cX11_notesMore 32 = .ok (.getfield 43, 3) := by decide +kernel
theorem dX11_notesMore_35 : decode cX11_notesMore 35 = .ok (.aload_n 0, 1) := by decide +kernel
theorem dX11_notesMore_36 : decode cX11_notesMore 36 = .ok (.getfield 144, 3) := by decide +kernel
theorem dX11_notesMore_39 : decode cX11_notesMore 39 = .ok (.iload_n 3, 1) := by decide +kernel
theorem dX11_notesMore_40 : decode cX11_notesMore 40 = .ok (.iastore, 1) := by decide +kernel
theorem dX11_notesMore_41 : decode cX11_notesMore 41 = .ok (.aload_n 0, 1) := by decide +kernel
theorem dX11_notesMore_42 : decode cX11_notesMore 42 = .ok (.dup, 1) := by decide +kernel
theorem dX11_notesMore_43 : decode cX11_notesMore 43 = .ok (.getfield 144, 3) := by decide +kernel
theorem dX11_notesMore_46 : decode cX11_notesMore 46 = .ok (.iconst 1, 1) := by decide +kernel
theorem dX11_notesMore_47 : decode cX11_notesMore 47 = .ok (.iadd, 1) := by decide +kernel
theorem dX11_notesMore_48 : decode cX11_notesMore 48 = .ok (.putfield 144, 3) := by decide +kernel
theorem dX11_notesMore_51 : decode cX11_notesMore 51 = .ok (.aload_n 0, 1) := by decide +kernel
theorem dX11_notesMore_52 : decode cX11_notesMore 52 = .ok (.getfield 144, 3) := by decide +kernel
theorem dX11_notesMore_55 : decode cX11_notesMore 55 = .ok (.ireturn, 1) := by decide +kernel
theorem dX11_hear_0 : decode cX11_hear 0 = .ok (.iload_n 1, 1) := by decide +kernel
theorem dX11_hear_1 : decode cX11_hear 1 = .ok (.invokestatic 138, 3) := by decide +kernel
theorem dX11_hear_4 : decode cX11_hear 4 = .ok (.ifCond .eq 22, 3) := by decide +kernel
theorem dX11_hear_7 : decode cX11_hear 7 = .ok (.iload_n 2, 1) := by decide +kernel
theorem dX11_hear_8 : decode cX11_hear 8 = .ok (.iconst 0, 1) := by decide +kernel
theorem dX11_hear_9 : decode cX11_hear 9 = .ok (.iconst 3, 1) := by decide +kernel
theorem dX11_hear_10 : decode cX11_hear 10 = .ok (.invokestatic 89, 3) := by decide +kernel
theorem dX11_hear_13 : decode cX11_hear 13 = .ok (.ifCond .eq 13, 3) := by decide +kernel
theorem dX11_hear_16 : decode cX11_hear 16 = .ok (.aload_n 0, 1) := by decide +kernel
theorem dX11_hear_17 : decode cX11_hear 17 = .ok (.iload_n 1, 1) := by decide +kernel
theorem dX11_hear_18 : decode cX11_hear 18 = .ok (.iload_n 2, 1) := by decide +kernel
theorem dX11_hear_19 : decode cX11_hear 19 = .ok (.iconst (-1), 1) := by decide +kernel
theorem dX11_hear_20 : decode cX11_hear 20 = .ok (.invokevirtual 147, 3) := by decide +kernel
theorem dX11_hear_23 : decode cX11_hear 23 = .ok (.goto 5, 3) := by decide +kernel
theorem dX11_hear_26 : decode cX11_hear 26 = .ok (.bipush (-2), 2) := by decide +kernel
theorem dX11_hear_28 : decode cX11_hear 28 = .ok (.ireturn, 1) := by decide +kernel
theorem dX11_shown_0 : decode cX11_shown 0 = .ok (.iload_n 1, 1) := by decide +kernel
theorem dX11_shown_1 : decode cX11_shown 1 = .ok (.invokestatic 138, 3) := by decide +kernel
theorem dX11_shown_4 : decode cX11_shown 4 = .ok (.ifCond .eq 23, 3) := by decide +kernel
theorem dX11_shown_7 : decode cX11_shown 7 = .ok (.iload_n 2, 1) := by decide +kernel
theorem dX11_shown_8 : decode cX11_shown 8 = .ok (.iconst 0, 1) := by decide +kernel
theorem dX11_shown_9 : decode cX11_shown 9 = .ok (.bipush 98, 2) := by decide +kernel
theorem dX11_shown_11 : decode cX11_shown 11 = .ok (.invokestatic 89, 3) := by decide +kernel
theorem dX11_shown_14 : decode cX11_shown 14 = .ok (.ifCond .eq 13, 3) := by decide +kernel
theorem dX11_shown_17 : decode cX11_shown 17 = .ok (.aload_n 0, 1) := by decide +kernel
theorem dX11_shown_18 : decode cX11_shown 18 = .ok (.iload_n 1, 1) := by decide +kernel
theorem dX11_shown_19 : decode cX11_shown 19 = .ok (.iconst (-1), 1) := by decide +kernel
theorem dX11_shown_20 : decode cX11_shown 20 = .ok (.iload_n 2, 1) := by decide +kernel
theorem dX11_shown_21 : decode cX11_shown 21 = .ok (.invokevirtual 147, 3) := by decide +kernel
theorem dX11_shown_24 : decode cX11_shown 24 = .ok (.goto 5, 3) := by decide +kernel
theorem dX11_shown_27 : decode cX11_shown 27 = .ok (.bipush (-2), 2) := by decide +kernel
theorem dX11_shown_29 : decode cX11_shown 29 = .ok (.ireturn, 1) := by decide +kernel
theorem dX11_forget_0 : decode cX11_forget 0 = .ok (.aload_n 0, 1) := by decide +kernel
theorem dX11_forget_1 : decode cX11_forget 1 = .ok (.getfield 144, 3) := by decide +kernel
theorem dX11_forget_4 : decode cX11_forget 4 = .ok (.istore_n 1, 1) := by decide +kernel
theorem dX11_forget_5 : decode cX11_forget 5 = .ok (.aload_n 0, 1) := by decide +kernel
theorem dX11_forget_6 : decode cX11_forget 6 = .ok (.iconst 0, 1) := by decide +kernel
theorem dX11_forget_7 : decode cX11_forget 7 = .ok (.putfield 144, 3) := by decide +kernel
theorem dX11_forget_10 : decode cX11_forget 10 = .ok (.iload_n 1, 1) := by decide +kernel
theorem dX11_forget_11 : decode cX11_forget 11 = .ok (.ireturn, 1) := by decide +kernel
theorem dX11_notesWeigh_0 : decode cX11_notesWeigh 0 = .ok (.lconst 1, 1) := by decide +kernel
theorem dX11_notesWeigh_1 : decode cX11_notesWeigh 1 = .ok (.lstore_n 3, 1) := by decide +kernel
theorem dX11_notesWeigh_2 : decode cX11_notesWeigh 2 = .ok (.iconst 0, 1) := by decide +kernel
theorem dX11_notesWeigh_3 : decode cX11_notesWeigh 3 = .ok (.istore 5, 2) := by decide +kernel
theorem dX11_notesWeigh_5 : decode cX11_notesWeigh 5 = .ok (.iload 5, 2) := by decide +kernel
theorem dX11_notesWeigh_7 : decode cX11_notesWeigh 7 = .ok (.aload_n 0, 1) := by decide +kernel
theorem dX11_notesWeigh_8 : decode cX11_notesWeigh 8 = .ok (.getfield 144, 3) := by decide +kernel
theorem dX11_notesWeigh_11 : decode cX11_notesWeigh 11 = .ok (.if_icmp .ge 135, 3) := by decide +kernel
theorem dX11_notesWeigh_14 : decode cX11_notesWeigh 14 = .ok (.aload_n 0, 1) := by decide +kernel
theorem dX11_notesWeigh_15 : decode cX11_notesWeigh 15 = .ok (.getfield 37, 3) := by decide +kernel
theorem dX11_notesWeigh_18 : decode cX11_notesWeigh 18 = .ok (.iload 5, 2) := by decide +kernel
theorem dX11_notesWeigh_20 : decode cX11_notesWeigh 20 = .ok (.iaload, 1) := by decide +kernel
theorem dX11_notesWeigh_21 : decode cX11_notesWeigh 21 = .ok (.iload_n 1, 1) := by decide +kernel
theorem dX11_notesWeigh_22 : decode cX11_notesWeigh 22 = .ok (.if_icmp .ne 51, 3) := by decide +kernel
theorem dX11_notesWeigh_25 : decode cX11_notesWeigh 25 = .ok (.aload_n 0, 1) := by decide +kernel
theorem dX11_notesWeigh_26 : decode cX11_notesWeigh 26 = .ok (.getfield 40, 3) := by decide +kernel
theorem dX11_notesWeigh_29 : decode cX11_notesWeigh 29 = .ok (.iload 5, 2) := by decide +kernel
theorem dX11_notesWeigh_31 : decode cX11_notesWeigh 31 = .ok (.iaload, 1) := by decide +kernel
theorem dX11_notesWeigh_32 : decode cX11_notesWeigh 32 = .ok (.iconst (-1), 1) := by decide +kernel
theorem dX11_notesWeigh_33 : decode cX11_notesWeigh 33 = .ok (.if_icmp .ne 40, 3) := by decide +kernel
theorem dX11_notesWeigh_36 : decode cX11_notesWeigh 36 = .ok (.lload_n 3, 1) := by decide +kernel
theorem dX11_notesWeigh_37 : decode cX11_notesWeigh 37 = .ok (.aload_n 0, 1) := by decide +kernel
theorem dX11_notesWeigh_38 : decode cX11_notesWeigh 38 = .ok (.getfield 43, 3) := by decide +kernel
theorem dX11_notesWeigh_41 : decode cX11_notesWeigh 41 = .ok (.iload 5, 2) := by decide +kernel
theorem dX11_notesWeigh_43 : decode cX11_notesWeigh 43 = .ok (.iaload, 1) := by decide +kernel
theorem dX11_notesWeigh_44 : decode cX11_notesWeigh 44 = .ok (.iload_n 2, 1) := by decide +kernel
theorem dX11_notesWeigh_45 : decode cX11_notesWeigh 45 = .ok (.if_icmp .ne 13, 3) := by decide +kernel
theorem dX11_notesWeigh_48 : decode cX11_notesWeigh 48 = .ok (.aload_n 0, 1) := by decide +kernel
theorem dX11_notesWeigh_49 : decode cX11_notesWeigh 49 = .ok (.getfield 31, 3) := by decide +kernel
theorem dX11_notesWeigh_52 : decode cX11_notesWeigh 52 = .ok (.iconst 3, 1) := by decide +kernel
theorem dX11_notesWeigh_53 : decode cX11_notesWeigh 53 = .ok (.iaload, 1) := by decide +kernel
theorem dX11_notesWeigh_54 : decode cX11_notesWeigh 54 = .ok (.i2l, 1) := by decide +kernel
theorem dX11_notesWeigh_55 : decode cX11_notesWeigh 55 = .ok (.goto 13, 3) := by decide +kernel
theorem dX11_notesWeigh_58 : decode cX11_notesWeigh 58 = .ok (.bipush 16, 2) := by decide +kernel
theorem dX11_notesWeigh_60 : decode cX11_notesWeigh 60 = .ok (.aload_n 0, 1) := by decide +kernel
theorem dX11_notesWeigh_61 : decode cX11_notesWeigh 61 = .ok (.getfield 31, 3) := by decide +kernel
theorem dX11_notesWeigh_64 : decode cX11_notesWeigh 64 = .ok (.iconst 3, 1) := by decide +kernel
theorem dX11_notesWeigh_65 : decode cX11_notesWeigh 65 = .ok (.iaload, 1) := by decide +kernel
theorem dX11_notesWeigh_66 : decode cX11_notesWeigh 66 = .ok (.isub, 1) := by decide +kernel
theorem dX11_notesWeigh_67 : decode cX11_notesWeigh 67 = .ok (.i2l, 1) := by decide +kernel
theorem dX11_notesWeigh_68 : decode cX11_notesWeigh 68 = .ok (.lmul, 1) := by decide +kernel
theorem dX11_notesWeigh_69 : decode cX11_notesWeigh 69 = .ok (.lstore_n 3, 1) := by decide +kernel
theorem dX11_notesWeigh_70 : decode cX11_notesWeigh 70 = .ok (.goto 70, 3) := by decide +kernel
theorem dX11_notesWeigh_73 : decode cX11_notesWeigh 73 = .ok (.aload_n 0, 1) := by decide +kernel
theorem dX11_notesWeigh_74 : decode cX11_notesWeigh 74 = .ok (.getfield 37, 3) := by decide +kernel
theorem dX11_notesWeigh_77 : decode cX11_notesWeigh 77 = .ok (.iload 5, 2) := by decide +kernel
theorem dX11_notesWeigh_79 : decode cX11_notesWeigh 79 = .ok (.iaload, 1) := by decide +kernel
theorem dX11_notesWeigh_80 : decode cX11_notesWeigh 80 = .ok (.iload_n 1, 1) := by decide +kernel
theorem dX11_notesWeigh_81 : decode cX11_notesWeigh 81 = .ok (.if_icmp .ne 59, 3) := by decide +kernel
theorem dX11_notesWeigh_84 : decode cX11_notesWeigh 84 = .ok (.lload_n 3, 1) := by decide +kernel
theorem dX11_notesWeigh_85 : decode cX11_notesWeigh 85 = .ok (.aload_n 0, 1) := by decide +kernel
theorem dX11_notesWeigh_86 : decode cX11_notesWeigh 86 = .ok (.getfield 13, 3) := by decide +kernel
theorem dX11_notesWeigh_89 : decode cX11_notesWeigh 89 = .ok (.iload_n 2, 1) := by decide +kernel
theorem dX11_notesWeigh_90 : decode cX11_notesWeigh 90 = .ok (.iaload, 1) := by decide +kernel
theorem dX11_notesWeigh_91 : decode cX11_notesWeigh 91 = .ok (.iconst 4, 1) := by decide +kernel
theorem dX11_notesWeigh_92 : decode cX11_notesWeigh 92 = .ok (.if_icmp .eq 13, 3) := by decide +kernel
theorem dX11_notesWeigh_95 : decode cX11_notesWeigh 95 = .ok (.aload_n 0, 1) := by decide +kernel
theorem dX11_notesWeigh_96 : decode cX11_notesWeigh 96 = .ok (.getfield 31, 3) := by decide +kernel
theorem dX11_notesWeigh_99 : decode cX11_notesWeigh 99 = .ok (.iconst 2, 1) := by decide +kernel
theorem dX11_notesWeigh_100 : decode cX11_notesWeigh 100 = .ok (.iaload, 1) := by decide +kernel
theorem dX11_notesWeigh_101 : decode cX11_notesWeigh 101 = .ok (.i2l, 1) := by decide +kernel
theorem dX11_notesWeigh_102 : decode cX11_notesWeigh 102 = .ok (.goto 36, 3) := by decide +kernel
theorem dX11_notesWeigh_105 : decode cX11_notesWeigh 105 = .ok (.aload_n 0, 1) := by decide +kernel
theorem dX11_notesWeigh_106 : decode cX11_notesWeigh 106 = .ok (.getfield 16, 3) := by decide +kernel
theorem dX11_notesWeigh_109 : decode cX11_notesWeigh 109 = .ok (.iload_n 2, 1) := by decide +kernel
theorem dX11_notesWeigh_110 : decode cX11_notesWeigh 110 = .ok (.iaload, 1) := by decide +kernel
theorem dX11_notesWeigh_111 : decode cX11_notesWeigh 111 = .ok (.aload_n 0, 1) := by decide +kernel
theorem dX11_notesWeigh_112 : decode cX11_notesWeigh 112 = .ok (.getfield 40, 3) := by decide +kernel
theorem dX11_notesWeigh_115 : decode cX11_notesWeigh 115 = .ok (.iload 5, 2) := by decide +kernel
theorem dX11_notesWeigh_117 : decode cX11_notesWeigh 117 = .ok (.iaload, 1) := by decide +kernel
theorem dX11_notesWeigh_118 : decode cX11_notesWeigh 118 = .ok (.if_icmp .ne 13, 3) := by decide +kernel
theorem dX11_notesWeigh_121 : decode cX11_notesWeigh 121 = .ok (.aload_n 0, 1) := by decide +kernel
theorem dX11_notesWeigh_122 : decode cX11_notesWeigh 122 = .ok (.getfield 31, 3) := by decide +kernel
theorem dX11_notesWeigh_125 : decode cX11_notesWeigh 125 = .ok (.iconst 0, 1) := by decide +kernel
theorem dX11_notesWeigh_126 : decode cX11_notesWeigh 126 = .ok (.iaload, 1) := by decide +kernel
theorem dX11_notesWeigh_127 : decode cX11_notesWeigh 127 = .ok (.i2l, 1) := by decide +kernel
theorem dX11_notesWeigh_128 : decode cX11_notesWeigh 128 = .ok (.goto 10, 3) := by decide +kernel
theorem dX11_notesWeigh_131 : decode cX11_notesWeigh 131 = .ok (.aload_n 0, 1) := by decide +kernel
theorem dX11_notesWeigh_132 : decode cX11_notesWeigh 132 = .ok (.getfield 31, 3) := by decide +kernel
theorem dX11_notesWeigh_135 : decode cX11_notesWeigh 135 = .ok (.iconst 1, 1) := by decide +kernel
theorem dX11_notesWeigh_136 : decode cX11_notesWeigh 136 = .ok (.iaload, 1) := by decide +kernel
theorem dX11_notesWeigh_137 : decode cX11_notesWeigh 137 = .ok (.i2l, 1) := by decide +kernel
theorem dX11_notesWeigh_138 : decode cX11_notesWeigh 138 = .ok (.lmul, 1) := by decide +kernel
theorem dX11_notesWeigh_139 : decode cX11_notesWeigh 139 = .ok (.lstore_n 3, 1) := by decide +kernel
theorem dX11_notesWeigh_140 : decode cX11_notesWeigh 140 = .ok (.iinc 5 1, 3) := by decide +kernel
theorem dX11_notesWeigh_143 : decode cX11_notesWeigh 143 = .ok (.goto (-138), 3) := by decide +kernel
theorem dX11_notesWeigh_146 : decode cX11_notesWeigh 146 = .ok (.lload_n 3, 1) := by decide +kernel
theorem dX11_notesWeigh_147 : decode cX11_notesWeigh 147 = .ok (.lreturn, 1) := by decide +kernel
theorem dX11_saysOdds_0 : decode cX11_saysOdds 0 = .ok (.aload_n 0, 1) := by decide +kernel
theorem dX11_saysOdds_1 : decode cX11_saysOdds 1 = .ok (.getfield 13, 3) := by decide +kernel
theorem dX11_saysOdds_4 : decode cX11_saysOdds 4 = .ok (.iload_n 1, 1) := by decide +kernel
theorem dX11_saysOdds_5 : decode cX11_saysOdds 5 = .ok (.iaload, 1) := by decide +kernel
theorem dX11_saysOdds_6 : decode cX11_saysOdds 6 = .ok (.istore_n 3, 1) := by decide +kernel
theorem dX11_saysOdds_7 : decode cX11_saysOdds 7 = .ok (.iload_n 3, 1) := by decide +kernel
theorem dX11_saysOdds_8 : decode cX11_saysOdds 8 = .ok (.iconst 2, 1) := by decide +kernel
theorem dX11_saysOdds_9 : decode cX11_saysOdds 9 = .ok (.if_icmp .le 14, 3) := by decide +kernel
theorem dX11_saysOdds_12 : decode cX11_saysOdds 12 = .ok (.iload_n 2, 1) := by decide +kernel
theorem dX11_saysOdds_13 : decode cX11_saysOdds 13 = .ok (.iconst 1, 1) := by decide +kernel
theorem dX11_saysOdds_14 : decode cX11_saysOdds 14 = .ok (.if_icmp .ne 7, 3) := by decide +kernel
theorem dX11_saysOdds_17 : decode cX11_saysOdds 17 = .ok (.iconst 1, 1) := by decide +kernel
theorem dX11_saysOdds_18 : decode cX11_saysOdds 18 = .ok (.goto 4, 3) := by decide +kernel
theorem dX11_saysOdds_21 : decode cX11_saysOdds 21 = .ok (.iconst 0, 1) := by decide +kernel
theorem dX11_saysOdds_22 : decode cX11_saysOdds 22 = .ok (.ireturn, 1) := by decide +kernel
theorem dX11_saysOdds_23 : decode cX11_saysOdds 23 = .ok (.iload_n 2, 1) := by decide +kernel
theorem dX11_saysOdds_24 : decode cX11_saysOdds 24 = .ok (.ifCond .ne 12, 3) := by decide +kernel
theorem dX11_saysOdds_27 : decode cX11_saysOdds 27 = .ok (.aload_n 0, 1) := by decide +kernel
theorem dX11_saysOdds_28 : decode cX11_saysOdds 28 = .ok (.getfield 25, 3) := by decide +kernel
theorem dX11_saysOdds_31 : decode cX11_saysOdds 31 = .ok (.iload_n 3, 1) := by decide +kernel
theorem dX11_saysOdds_32 : decode cX11_saysOdds 32 = .ok (.iaload, 1) := by decide +kernel
theorem dX11_saysOdds_33 : decode cX11_saysOdds 33 = .ok (.goto 33, 3) := by decide +kernel
theorem dX11_saysOdds_36 : decode cX11_saysOdds 36 = .ok (.iload_n 2, 1) := by decide +kernel
theorem dX11_saysOdds_37 : decode cX11_saysOdds 37 = .ok (.iconst 2, 1) := by decide +kernel
theorem dX11_saysOdds_38 : decode cX11_saysOdds 38 = .ok (.if_icmp .ne 12, 3) := by decide +kernel
theorem dX11_saysOdds_41 : decode cX11_saysOdds 41 = .ok (.aload_n 0, 1) := by decide +kernel
theorem dX11_saysOdds_42 : decode cX11_saysOdds 42 = .ok (.getfield 28, 3) := by decide +kernel
theorem dX11_saysOdds_45 : decode cX11_saysOdds 45 = .ok (.iload_n 3, 1) := by decide +kernel
theorem dX11_saysOdds_46 : decode cX11_saysOdds 46 = .ok (.iaload, 1) := by decide +kernel
theorem dX11_saysOdds_47 : decode cX11_saysOdds 47 = .ok (.goto 19, 3) := by decide +kernel
theorem dX11_saysOdds_50 : decode cX11_saysOdds 50 = .ok (.bipush 16, 2) := by decide +kernel
theorem dX11_saysOdds_52 : decode cX11_saysOdds 52 = .ok (.aload_n 0, 1) := by decide +kernel
theorem dX11_saysOdds_53 : decode cX11_saysOdds 53 = .ok (.getfield 25, 3) := by decide +kernel
theorem dX11_saysOdds_56 : decode cX11_saysOdds 56 = .ok (.iload_n 3, 1) := by decide +kernel
theorem dX11_saysOdds_57 : decode cX11_saysOdds 57 = .ok (.iaload, 1) := by decide +kernel
theorem dX11_saysOdds_58 : decode cX11_saysOdds 58 = .ok (.isub, 1) := by decide +kernel
theorem dX11_saysOdds_59 : decode cX11_saysOdds 59 = .ok (.aload_n 0, 1) := by decide +kernel
theorem dX11_saysOdds_60 : decode cX11_saysOdds 60 = .ok (.getfield 28, 3) := by decide +kernel
theorem dX11_saysOdds_63 : decode cX11_saysOdds 63 = .ok (.iload_n 3, 1) := by decide +kernel
theorem dX11_saysOdds_64 : decode cX11_saysOdds 64 = .ok (.iaload, 1) := by decide +kernel
theorem dX11_saysOdds_65 : decode cX11_saysOdds 65 = .ok (.isub, 1) := by decide +kernel
theorem dX11_saysOdds_66 : decode cX11_saysOdds 66 = .ok (.ireturn, 1) := by decide +kernel
theorem dX11_findsWhere_0 : decode cX11_findsWhere 0 = .ok (.aload_n 0, 1) := by decide +kernel
theorem dX11_findsWhere_1 : decode cX11_findsWhere 1 = .ok (.invokevirtual 121, 3) := by decide +kernel
theorem dX11_findsWhere_4 : decode cX11_findsWhere 4 = .ok (.lconst 1, 1) := by decide +kernel
theorem dX11_findsWhere_5 : decode cX11_findsWhere 5 = .ok (.lstore_n 2, 1) := by decide +kernel
theorem dX11_findsWhere_6 : decode cX11_findsWhere 6 = .ok (.iconst 0, 1) := by decide +kernel
theorem dX11_findsWhere_7 : decode cX11_findsWhere 7 = .ok (.istore 4, 2) := by decide +kernel
theorem dX11_findsWhere_9 : decode cX11_findsWhere 9 = .ok (.iload 4, 2) := by decide +kernel
theorem dX11_findsWhere_11 : decode cX11_findsWhere 11 = .ok (.aload_n 0, 1) := by decide +kernel
theorem dX11_findsWhere_12 : decode cX11_findsWhere 12 = .ok (.getfield 103, 3) := by decide +kernel
theorem dX11_findsWhere_15 : decode cX11_findsWhere 15 = .ok (.if_icmp .ge 15, 3) := by decide +kernel
theorem dX11_findsWhere_18 : decode cX11_findsWhere 18 = .ok (.lload_n 2, 1) := by decide +kernel
theorem dX11_findsWhere_19 : decode cX11_findsWhere 19 = .ok (.ldc2_w 151, 3) := by decide +kernel
theorem dX11_findsWhere_22 : decode cX11_findsWhere 22 = .ok (.lmul, 1) := by decide +kernel
theorem dX11_findsWhere_23 : decode cX11_findsWhere 23 = .ok (.lstore_n 2, 1) := by decide +kernel
theorem dX11_findsWhere_24 : decode cX11_findsWhere 24 = .ok (.iinc 4 1, 3) := by decide +kernel
theorem dX11_findsWhere_27 : decode cX11_findsWhere 27 = .ok (.goto (-18), 3) := by decide +kernel
theorem dX11_findsWhere_30 : decode cX11_findsWhere 30 = .ok (.iconst 0, 1) := by decide +kernel
theorem dX11_findsWhere_31 : decode cX11_findsWhere 31 = .ok (.istore 4, 2) := by decide +kernel
theorem dX11_findsWhere_33 : decode cX11_findsWhere 33 = .ok (.iload 4, 2) := by decide +kernel
theorem dX11_findsWhere_35 : decode cX11_findsWhere 35 = .ok (.bipush 112, 2) := by decide +kernel
theorem dX11_findsWhere_37 : decode cX11_findsWhere 37 = .ok (.if_icmp .ge 26, 3) := by decide +kernel
theorem dX11_findsWhere_40 : decode cX11_findsWhere 40 = .ok (.aload_n 0, 1) := by decide +kernel
theorem dX11_findsWhere_41 : decode cX11_findsWhere 41 = .ok (.getfield 46, 3) := by decide +kernel
theorem dX11_findsWhere_44 : decode cX11_findsWhere 44 = .ok (.iload 4, 2) := by decide +kernel
theorem dX11_findsWhere_46 : decode cX11_findsWhere 46 = .ok (.iload 4, 2) := by decide +kernel
theorem dX11_findsWhere_48 : decode cX11_findsWhere 48 = .ok (.ifCond .ne 7, 3) := by decide +kernel
theorem dX11_findsWhere_51 : decode cX11_findsWhere 51 = .ok (.lconst 1, 1) := by decide +kernel
theorem dX11_findsWhere_52 : decode cX11_findsWhere 52 = .ok (.goto 4, 3) := by decide +kernel
theorem dX11_findsWhere_55 : decode cX11_findsWhere 55 = .ok (.lconst 0, 1) := by decide +kernel
theorem dX11_findsWhere_56 : decode cX11_findsWhere 56 = .ok (.lastore, 1) := by decide +kernel
theorem dX11_findsWhere_57 : decode cX11_findsWhere 57 = .ok (.iinc 4 1, 3) := by decide +kernel
theorem dX11_findsWhere_60 : decode cX11_findsWhere 60 = .ok (.goto (-27), 3) := by decide +kernel
theorem dX11_findsWhere_63 : decode cX11_findsWhere 63 = .ok (.aload_n 0, 1) := by decide +kernel
theorem dX11_findsWhere_64 : decode cX11_findsWhere 64 = .ok (.lconst 0, 1) := by decide +kernel
theorem dX11_findsWhere_65 : decode cX11_findsWhere 65 = .ok (.putfield 153, 3) := by decide +kernel
theorem dX11_findsWhere_68 : decode cX11_findsWhere 68 = .ok (.iconst 0, 1) := by decide +kernel
theorem dX11_findsWhere_69 : decode cX11_findsWhere 69 = .ok (.istore 4, 2) := by decide +kernel
theorem dX11_findsWhere_71 : decode cX11_findsWhere 71 = .ok (.iload 4, 2) := by decide +kernel
theorem dX11_findsWhere_73 : decode cX11_findsWhere 73 = .ok (.aload_n 0, 1) := by decide +kernel
theorem dX11_findsWhere_74 : decode cX11_findsWhere 74 = .ok (.getfield 97, 3) := by decide +kernel
theorem dX11_findsWhere_77 : decode cX11_findsWhere 77 = .ok (.if_icmp .ge 260, 3) := by decide +kernel
theorem dX11_findsWhere_80 : decode cX11_findsWhere 80 = .ok (.lload_n 2, 1) := by decide +kernel
theorem dX11_findsWhere_81 : decode cX11_findsWhere 81 = .ok (.aload_n 0, 1) := by decide +kernel
theorem dX11_findsWhere_82 : decode cX11_findsWhere 82 = .ok (.getfield 13, 3) := by decide +kernel
theorem dX11_findsWhere_85 : decode cX11_findsWhere 85 = .ok (.iload 4, 2) := by decide +kernel
theorem dX11_findsWhere_87 : decode cX11_findsWhere 87 = .ok (.iaload, 1) := by decide +kernel
theorem dX11_findsWhere_88 : decode cX11_findsWhere 88 = .ok (.iconst 3, 1) := by decide +kernel
theorem dX11_findsWhere_89 : decode cX11_findsWhere 89 = .ok (.if_icmp .ge 9, 3) := by decide +kernel
theorem dX11_findsWhere_92 : decode cX11_findsWhere 92 = .ok (.ldc2_w 151, 3) := by decide +kernel
theorem dX11_findsWhere_95 : decode cX11_findsWhere 95 = .ok (.goto 4, 3) := by decide +kernel
theorem dX11_findsWhere_98 : decode cX11_findsWhere 98 = .ok (.lconst 1, 1) := by decide +kernel
theorem dX11_findsWhere_99 : decode cX11_findsWhere 99 = .ok (.ldiv, 1) := by decide +kernel
theorem dX11_findsWhere_100 : decode cX11_findsWhere 100 = .ok (.lstore_n 2, 1) := by decide +kernel
theorem dX11_findsWhere_101 : decode cX11_findsWhere 101 = .ok (.aload_n 0, 1) := by decide +kernel
theorem dX11_findsWhere_102 : decode cX11_findsWhere 102 = .ok (.getfield 53, 3) := by decide +kernel
theorem dX11_findsWhere_105 : decode cX11_findsWhere 105 = .ok (.iload 4, 2) := by decide +kernel
theorem dX11_findsWhere_107 : decode cX11_findsWhere 107 = .ok (.lconst 0, 1) := by decide +kernel
theorem dX11_findsWhere_108 : decode cX11_findsWhere 108 = .ok (.lastore, 1) := by decide +kernel
theorem dX11_findsWhere_109 : decode cX11_findsWhere 109 = .ok (.iconst 0, 1) := by decide +kernel
theorem dX11_findsWhere_110 : decode cX11_findsWhere 110 = .ok (.istore 5, 2) := by decide +kernel
theorem dX11_findsWhere_112 : decode cX11_findsWhere 112 = .ok (.iload 5, 2) := by decide +kernel
theorem dX11_findsWhere_114 : decode cX11_findsWhere 114 = .ok (.bipush 112, 2) := by decide +kernel
theorem dX11_findsWhere_116 : decode cX11_findsWhere 116 = .ok (.if_icmp .ge 17, 3) := by decide +kernel
theorem dX11_findsWhere_119 : decode cX11_findsWhere 119 = .ok (.aload_n 0, 1) := by decide +kernel
theorem dX11_findsWhere_120 : decode cX11_findsWhere 120 = .ok (.getfield 50, 3) := by decide +kernel
theorem dX11_findsWhere_123 : decode cX11_findsWhere 123 = .ok (.iload 5, 2) := by decide +kernel
theorem dX11_findsWhere_125 : decode cX11_findsWhere 125 = .ok (.lconst 0, 1) := by decide +kernel
theorem dX11_findsWhere_126 : decode cX11_findsWhere 126 = .ok (.lastore, 1) := by decide +kernel
theorem dX11_findsWhere_127 : decode cX11_findsWhere 127 = .ok (.iinc 5 1, 3) := by decide +kernel
theorem dX11_findsWhere_130 : decode cX11_findsWhere 130 = .ok (.goto (-18), 3) := by decide +kernel
theorem dX11_findsWhere_133 : decode cX11_findsWhere 133 = .ok (.iconst 0, 1) := by decide +kernel
theorem dX11_findsWhere_134 : decode cX11_findsWhere 134 = .ok (.istore 5, 2) := by decide +kernel
theorem dX11_findsWhere_136 : decode cX11_findsWhere 136 = .ok (.iload 5, 2) := by decide +kernel
theorem dX11_findsWhere_138 : decode cX11_findsWhere 138 = .ok (.iload_n 1, 1) := by decide +kernel
theorem dX11_findsWhere_139 : decode cX11_findsWhere 139 = .ok (.if_icmp .ge 135, 3) := by decide +kernel
theorem dX11_findsWhere_142 : decode cX11_findsWhere 142 = .ok (.iconst 0, 1) := by decide +kernel
theorem dX11_findsWhere_143 : decode cX11_findsWhere 143 = .ok (.istore 6, 2) := by decide +kernel
theorem dX11_findsWhere_145 : decode cX11_findsWhere 145 = .ok (.iload 6, 2) := by decide +kernel
theorem dX11_findsWhere_147 : decode cX11_findsWhere 147 = .ok (.iconst 3, 1) := by decide +kernel
theorem dX11_findsWhere_148 : decode cX11_findsWhere 148 = .ok (.if_icmp .ge 120, 3) := by decide +kernel
theorem dX11_findsWhere_151 : decode cX11_findsWhere 151 = .ok (.aload_n 0, 1) := by decide +kernel
theorem dX11_findsWhere_152 : decode cX11_findsWhere 152 = .ok (.getfield 46, 3) := by decide +kernel
theorem dX11_findsWhere_155 : decode cX11_findsWhere 155 = .ok (.iload 5, 2) := by decide +kernel
theorem dX11_findsWhere_157 : decode cX11_findsWhere 157 = .ok (.laload, 1) := by decide +kernel
theorem dX11_findsWhere_158 : decode cX11_findsWhere 158 = .ok (.lconst 0, 1) := by decide +kernel
theorem dX11_findsWhere_159 : decode cX11_findsWhere 159 = .ok (.lcmp, 1) := by decide +kernel
theorem dX11_findsWhere_160 : decode cX11_findsWhere 160 = .ok (.ifCond .le 108, 3) := by decide +kernel
theorem dX11_findsWhere_163 : decode cX11_findsWhere 163 = .ok (.aload_n 0, 1) := by decide +kernel
theorem dX11_findsWhere_164 : decode cX11_findsWhere 164 = .ok (.getfield 46, 3) := by decide +kernel
theorem dX11_findsWhere_167 : decode cX11_findsWhere 167 = .ok (.iload 5, 2) := by decide +kernel
theorem dX11_findsWhere_169 : decode cX11_findsWhere 169 = .ok (.laload, 1) := by decide +kernel
theorem dX11_findsWhere_170 : decode cX11_findsWhere 170 = .ok (.aload_n 0, 1) := by decide +kernel
theorem dX11_findsWhere_171 : decode cX11_findsWhere 171 = .ok (.iload 4, 2) := by decide +kernel
theorem dX11_findsWhere_173 : decode cX11_findsWhere 173 = .ok (.iload 6, 2) := by decide +kernel
theorem dX11_findsWhere_175 : decode cX11_findsWhere 175 = .ok (.invokevirtual 157, 3) := by decide +kernel
theorem dX11_findsWhere_178 : decode cX11_findsWhere 178 = .ok (.i2l, 1) := by decide +kernel
theorem dX11_findsWhere_179 : decode cX11_findsWhere 179 = .ok (.lmul, 1) := by decide +kernel
theorem dX11_findsWhere_180 : decode cX11_findsWhere 180 = .ok (.lstore 7, 2) := by decide +kernel
theorem dX11_findsWhere_182 : decode cX11_findsWhere 182 = .ok (.iconst 1, 1) := by decide +kernel
theorem dX11_findsWhere_183 : decode cX11_findsWhere 183 = .ok (.istore 9, 2) := by decide +kernel
theorem dX11_findsWhere_185 : decode cX11_findsWhere 185 = .ok (.iload 9, 2) := by decide +kernel
theorem dX11_findsWhere_187 : decode cX11_findsWhere 187 = .ok (.iload 6, 2) := by decide +kernel
theorem dX11_findsWhere_189 : decode cX11_findsWhere 189 = .ok (.if_icmp .gt 34, 3) := by decide +kernel
theorem dX11_findsWhere_192 : decode cX11_findsWhere 192 = .ok (.iload 5, 2) := by decide +kernel
theorem dX11_findsWhere_194 : decode cX11_findsWhere 194 = .ok (.iload 9, 2) := by decide +kernel
theorem dX11_findsWhere_196 : decode cX11_findsWhere 196 = .ok (.iadd, 1) := by decide +kernel
theorem dX11_findsWhere_197 : decode cX11_findsWhere 197 = .ok (.iload_n 1, 1) := by decide +kernel
theorem dX11_findsWhere_198 : decode cX11_findsWhere 198 = .ok (.if_icmp .gt 25, 3) := by decide +kernel
theorem dX11_findsWhere_201 : decode cX11_findsWhere 201 = .ok (.lload 7, 2) := by decide +kernel
theorem dX11_findsWhere_203 : decode cX11_findsWhere 203 = .ok (.aload_n 0, 1) := by decide +kernel
theorem dX11_findsWhere_204 : decode cX11_findsWhere 204 = .ok (.iload 5, 2) := by decide +kernel
theorem dX11_findsWhere_206 : decode cX11_findsWhere 206 = .ok (.iload 9, 2) := by decide +kernel
theorem dX11_findsWhere_208 : decode cX11_findsWhere 208 = .ok (.iadd, 1) := by decide +kernel
theorem dX11_findsWhere_209 : decode cX11_findsWhere 209 = .ok (.iload 4, 2) := by decide +kernel
theorem dX11_findsWhere_211 : decode cX11_findsWhere 211 = .ok (.invokevirtual 160, 3) := by decide +kernel
theorem dX11_findsWhere_214 : decode cX11_findsWhere 214 = .ok (.lmul, 1) := by decide +kernel
theorem dX11_findsWhere_215 : decode cX11_findsWhere 215 = .ok (.lstore 7, 2) := by decide +kernel
theorem dX11_findsWhere_217 : decode cX11_findsWhere 217 = .ok (.iinc 9 1, 3) := by decide +kernel
theorem dX11_findsWhere_220 : decode cX11_findsWhere 220 = .ok (.goto (-35), 3) := by decide +kernel
theorem dX11_findsWhere_223 : decode cX11_findsWhere 223 = .ok (.iload 5, 2) := by decide +kernel
theorem dX11_findsWhere_225 : decode cX11_findsWhere 225 = .ok (.iload 6, 2) := by decide +kernel
theorem dX11_findsWhere_227 : decode cX11_findsWhere 227 = .ok (.iadd, 1) := by decide +kernel
theorem dX11_findsWhere_228 : decode cX11_findsWhere 228 = .ok (.iload_n 1, 1) := by decide +kernel
theorem dX11_findsWhere_229 : decode cX11_findsWhere 229 = .ok (.if_icmp .lt 18, 3) := by decide +kernel
theorem dX11_findsWhere_232 : decode cX11_findsWhere 232 = .ok (.aload_n 0, 1) := by decide +kernel
theorem dX11_findsWhere_233 : decode cX11_findsWhere 233 = .ok (.getfield 53, 3) := by decide +kernel
theorem dX11_findsWhere_236 : decode cX11_findsWhere 236 = .ok (.iload 4, 2) := by decide +kernel
theorem dX11_findsWhere_238 : decode cX11_findsWhere 238 = .ok (.dup2, 1) := by decide +kernel
theorem dX11_findsWhere_239 : decode cX11_findsWhere 239 = .ok (.laload, 1) := by decide +kernel
theorem dX11_findsWhere_240 : decode cX11_findsWhere 240 = .ok (.lload 7, 2) := by decide +kernel
theorem dX11_findsWhere_242 : decode cX11_findsWhere 242 = .ok (.ladd, 1) := by decide +kernel
theorem dX11_findsWhere_243 : decode cX11_findsWhere 243 = .ok (.lastore, 1) := by decide +kernel
theorem dX11_findsWhere_244 : decode cX11_findsWhere 244 = .ok (.goto 18, 3) := by decide +kernel
theorem dX11_findsWhere_247 : decode cX11_findsWhere 247 = .ok (.aload_n 0, 1) := by decide +kernel
theorem dX11_findsWhere_248 : decode cX11_findsWhere 248 = .ok (.getfield 50, 3) := by decide +kernel
theorem dX11_findsWhere_251 : decode cX11_findsWhere 251 = .ok (.iload 5, 2) := by decide +kernel
theorem dX11_findsWhere_253 : decode cX11_findsWhere 253 = .ok (.iload 6, 2) := by decide +kernel
theorem dX11_findsWhere_255 : decode cX11_findsWhere 255 = .ok (.iadd, 1) := by decide +kernel
theorem dX11_findsWhere_256 : decode cX11_findsWhere 256 = .ok (.dup2, 1) := by decide +kernel
theorem dX11_findsWhere_257 : decode cX11_findsWhere 257 = .ok (.laload, 1) := by decide +kernel
theorem dX11_findsWhere_258 : decode cX11_findsWhere 258 = .ok (.lload 7, 2) := by decide +kernel
theorem dX11_findsWhere_260 : decode cX11_findsWhere 260 = .ok (.ladd, 1) := by decide +kernel
theorem dX11_findsWhere_261 : decode cX11_findsWhere 261 = .ok (.lastore, 1) := by decide +kernel
theorem dX11_findsWhere_262 : decode cX11_findsWhere 262 = .ok (.iinc 6 1, 3) := by decide +kernel
theorem dX11_findsWhere_265 : decode cX11_findsWhere 265 = .ok (.goto (-120), 3) := by decide +kernel
theorem dX11_findsWhere_268 : decode cX11_findsWhere 268 = .ok (.iinc 5 1, 3) := by decide +kernel
theorem dX11_findsWhere_271 : decode cX11_findsWhere 271 = .ok (.goto (-135), 3) := by decide +kernel
theorem dX11_findsWhere_274 : decode cX11_findsWhere 274 = .ok (.iconst 0, 1) := by decide +kernel
theorem dX11_findsWhere_275 : decode cX11_findsWhere 275 = .ok (.istore 5, 2) := by decide +kernel
theorem dX11_findsWhere_277 : decode cX11_findsWhere 277 = .ok (.iload 5, 2) := by decide +kernel
theorem dX11_findsWhere_279 : decode cX11_findsWhere 279 = .ok (.bipush 112, 2) := by decide +kernel
theorem dX11_findsWhere_281 : decode cX11_findsWhere 281 = .ok (.if_icmp .ge 23, 3) := by decide +kernel
theorem dX11_findsWhere_284 : decode cX11_findsWhere 284 = .ok (.aload_n 0, 1) := by decide +kernel
theorem dX11_findsWhere_285 : decode cX11_findsWhere 285 = .ok (.getfield 46, 3) := by decide +kernel
theorem dX11_findsWhere_288 : decode cX11_findsWhere 288 = .ok (.iload 5, 2) := by decide +kernel
theorem dX11_findsWhere_290 : decode cX11_findsWhere 290 = .ok (.aload_n 0, 1) := by decide +kernel
theorem dX11_findsWhere_291 : decode cX11_findsWhere 291 = .ok (.getfield 50, 3) := by decide +kernel
theorem dX11_findsWhere_294 : decode cX11_findsWhere 294 = .ok (.iload 5, 2) := by decide +kernel
theorem dX11_findsWhere_296 : decode cX11_findsWhere 296 = .ok (.laload, 1) := by decide +kernel
theorem dX11_findsWhere_297 : decode cX11_findsWhere 297 = .ok (.lastore, 1) := by decide +kernel
theorem dX11_findsWhere_298 : decode cX11_findsWhere 298 = .ok (.iinc 5 1, 3) := by decide +kernel
theorem dX11_findsWhere_301 : decode cX11_findsWhere 301 = .ok (.goto (-24), 3) := by decide +kernel
theorem dX11_findsWhere_304 : decode cX11_findsWhere 304 = .ok (.aload_n 0, 1) := by decide +kernel
theorem dX11_findsWhere_305 : decode cX11_findsWhere 305 = .ok (.getfield 53, 3) := by decide +kernel
theorem dX11_findsWhere_308 : decode cX11_findsWhere 308 = .ok (.iload 4, 2) := by decide +kernel
theorem dX11_findsWhere_310 : decode cX11_findsWhere 310 = .ok (.dup2, 1) := by decide +kernel
theorem dX11_findsWhere_311 : decode cX11_findsWhere 311 = .ok (.laload, 1) := by decide +kernel
theorem dX11_findsWhere_312 : decode cX11_findsWhere 312 = .ok (.lload_n 2, 1) := by decide +kernel
theorem dX11_findsWhere_313 : decode cX11_findsWhere 313 = .ok (.lmul, 1) := by decide +kernel
theorem dX11_findsWhere_314 : decode cX11_findsWhere 314 = .ok (.lastore, 1) := by decide +kernel
theorem dX11_findsWhere_315 : decode cX11_findsWhere 315 = .ok (.aload_n 0, 1) := by decide +kernel
theorem dX11_findsWhere_316 : decode cX11_findsWhere 316 = .ok (.dup, 1) := by decide +kernel
theorem dX11_findsWhere_317 : decode cX11_findsWhere 317 = .ok (.getfield 153, 3) := by decide +kernel
theorem dX11_findsWhere_320 : decode cX11_findsWhere 320 = .ok (.aload_n 0, 1) := by decide +kernel
theorem dX11_findsWhere_321 : decode cX11_findsWhere 321 = .ok (.getfield 53, 3) := by decide +kernel
theorem dX11_findsWhere_324 : decode cX11_findsWhere 324 = .ok (.iload 4, 2) := by decide +kernel
theorem dX11_findsWhere_326 : decode cX11_findsWhere 326 = .ok (.laload, 1) := by decide +kernel
theorem dX11_findsWhere_327 : decode cX11_findsWhere 327 = .ok (.ladd, 1) := by decide +kernel
theorem dX11_findsWhere_328 : decode cX11_findsWhere 328 = .ok (.putfield 153, 3) := by decide +kernel
theorem dX11_findsWhere_331 : decode cX11_findsWhere 331 = .ok (.iinc 4 1, 3) := by decide +kernel
theorem dX11_findsWhere_334 : decode cX11_findsWhere 334 = .ok (.goto (-263), 3) := by decide +kernel
theorem dX11_findsWhere_337 : decode cX11_findsWhere 337 = .ok (.return_, 1) := by decide +kernel
theorem dX11_whereOf_0 : decode cX11_whereOf 0 = .ok (.aload_n 0, 1) := by decide +kernel
theorem dX11_whereOf_1 : decode cX11_whereOf 1 = .ok (.iload_n 1, 1) := by decide +kernel
theorem dX11_whereOf_2 : decode cX11_whereOf 2 = .ok (.invokevirtual 164, 3) := by decide +kernel
theorem dX11_whereOf_5 : decode cX11_whereOf 5 = .ok (.aload_n 0, 1) := by decide +kernel
theorem dX11_whereOf_6 : decode cX11_whereOf 6 = .ok (.getfield 153, 3) := by decide +kernel
theorem dX11_whereOf_9 : decode cX11_whereOf 9 = .ok (.lconst 0, 1) := by decide +kernel
theorem dX11_whereOf_10 : decode cX11_whereOf 10 = .ok (.lcmp, 1) := by decide +kernel
theorem dX11_whereOf_11 : decode cX11_whereOf 11 = .ok (.ifCond .ne 11, 3) := by decide +kernel
theorem dX11_whereOf_14 : decode cX11_whereOf 14 = .ok (.bipush (-3), 2) := by decide +kernel
theorem dX11_whereOf_16 : decode cX11_whereOf 16 = .ok (.invokestatic 168, 3) := by decide +kernel
theorem dX11_whereOf_19 : decode cX11_whereOf 19 = .ok (.goto 17, 3) := by decide +kernel
theorem dX11_whereOf_22 : decode cX11_whereOf 22 = .ok (.aload_n 0, 1) := by decide +kernel
theorem dX11_whereOf_23 : decode cX11_whereOf 23 = .ok (.getfield 53, 3) := by decide +kernel
theorem dX11_whereOf_26 : decode cX11_whereOf 26 = .ok (.iload_n 2, 1) := by decide +kernel
theorem dX11_whereOf_27 : decode cX11_whereOf 27 = .ok (.laload, 1) := by decide +kernel
theorem dX11_whereOf_28 : decode cX11_whereOf 28 = .ok (.aload_n 0, 1) := by decide +kernel
theorem dX11_whereOf_29 : decode cX11_whereOf 29 = .ok (.getfield 153, 3) := by decide +kernel
theorem dX11_whereOf_32 : decode cX11_whereOf 32 = .ok (.iload_n 3, 1) := by decide +kernel
theorem dX11_whereOf_33 : decode cX11_whereOf 33 = .ok (.invokestatic 172, 3) := by decide +kernel
theorem dX11_whereOf_36 : decode cX11_whereOf 36 = .ok (.lreturn, 1) := by decide +kernel
theorem dX11_where_0 : decode cX11_where 0 = .ok (.iload_n 1, 1) := by decide +kernel
theorem dX11_where_1 : decode cX11_where 1 = .ok (.invokestatic 138, 3) := by decide +kernel
theorem dX11_where_4 : decode cX11_where 4 = .ok (.ifCond .eq 30, 3) := by decide +kernel
theorem dX11_where_7 : decode cX11_where 7 = .ok (.aload_n 0, 1) := by decide +kernel
theorem dX11_where_8 : decode cX11_where 8 = .ok (.iload_n 2, 1) := by decide +kernel
theorem dX11_where_9 : decode cX11_where 9 = .ok (.invokevirtual 124, 3) := by decide +kernel
theorem dX11_where_12 : decode cX11_where 12 = .ok (.ifCond .eq 22, 3) := by decide +kernel
theorem dX11_where_15 : decode cX11_where 15 = .ok (.iload_n 3, 1) := by decide +kernel
theorem dX11_where_16 : decode cX11_where 16 = .ok (.iconst 0, 1) := by decide +kernel
theorem dX11_where_17 : decode cX11_where 17 = .ok (.iconst 1, 1) := by decide +kernel
theorem dX11_where_18 : decode cX11_where 18 = .ok (.invokestatic 89, 3) := by decide +kernel
theorem dX11_where_21 : decode cX11_where 21 = .ok (.ifCond .eq 13, 3) := by decide +kernel
theorem dX11_where_24 : decode cX11_where 24 = .ok (.aload_n 0, 1) := by decide +kernel
theorem dX11_where_25 : decode cX11_where 25 = .ok (.iload_n 1, 1) := by decide +kernel
theorem dX11_where_26 : decode cX11_where 26 = .ok (.iload_n 2, 1) := by decide +kernel
theorem dX11_where_27 : decode cX11_where 27 = .ok (.iload_n 3, 1) := by decide +kernel
theorem dX11_where_28 : decode cX11_where 28 = .ok (.invokevirtual 176, 3) := by decide +kernel
theorem dX11_where_31 : decode cX11_where 31 = .ok (.goto 8, 3) := by decide +kernel
theorem dX11_where_34 : decode cX11_where 34 = .ok (.bipush (-2), 2) := by decide +kernel
theorem dX11_where_36 : decode cX11_where 36 = .ok (.invokestatic 168, 3) := by decide +kernel
theorem dX11_where_39 : decode cX11_where 39 = .ok (.lreturn, 1) := by decide +kernel
theorem dX11_likeliestOf_0 : decode cX11_likeliestOf 0 = .ok (.aload_n 0, 1) := by decide +kernel
theorem dX11_likeliestOf_1 : decode cX11_likeliestOf 1 = .ok (.iload_n 1, 1) := by decide +kernel
theorem dX11_likeliestOf_2 : decode cX11_likeliestOf 2 = .ok (.invokevirtual 164, 3) := by decide +kernel
theorem dX11_likeliestOf_5 : decode cX11_likeliestOf 5 = .ok (.aload_n 0, 1) := by decide +kernel
theorem dX11_likeliestOf_6 : decode cX11_likeliestOf 6 = .ok (.getfield 153, 3) := by decide +kernel
theorem dX11_likeliestOf_9 : decode cX11_likeliestOf 9 = .ok (.lconst 0, 1) := by decide +kernel
theorem dX11_likeliestOf_10 : decode cX11_likeliestOf 10 = .ok (.lcmp, 1) := by decide +kernel
theorem dX11_likeliestOf_11 : decode cX11_likeliestOf 11 = .ok (.ifCond .ne 6, 3) := by decide +kernel
theorem dX11_likeliestOf_14 : decode cX11_likeliestOf 14 = .ok (.bipush (-3), 2) := by decide +kernel
theorem dX11_likeliestOf_16 : decode cX11_likeliestOf 16 = .ok (.ireturn, 1) := by decide +kernel
theorem dX11_likeliestOf_17 : decode cX11_likeliestOf 17 = .ok (.iconst 0, 1) := by decide +kernel
theorem dX11_likeliestOf_18 : decode cX11_likeliestOf 18 = .ok (.istore_n 2, 1) := by decide +kernel
theorem dX11_likeliestOf_19 : decode cX11_likeliestOf 19 = .ok (.iconst 1, 1) := by decide +kernel
theorem dX11_likeliestOf_20 : decode cX11_likeliestOf 20 = .ok (.istore_n 3, 1) := by decide +kernel
theorem dX11_likeliestOf_21 : decode cX11_likeliestOf 21 = .ok (.iload_n 3, 1) := by decide +kernel
theorem dX11_likeliestOf_22 : decode cX11_likeliestOf 22 = .ok (.aload_n 0, 1) := by decide +kernel
theorem dX11_likeliestOf_23 : decode cX11_likeliestOf 23 = .ok (.getfield 97, 3) := by decide +kernel
theorem dX11_likeliestOf_26 : decode cX11_likeliestOf 26 = .ok (.if_icmp .ge 31, 3) := by decide +kernel
theorem dX11_likeliestOf_29 : decode cX11_likeliestOf 29 = .ok (.aload_n 0, 1) := by decide +kernel
theorem dX11_likeliestOf_30 : decode cX11_likeliestOf 30 = .ok (.getfield 53, 3) := by decide +kernel
theorem dX11_likeliestOf_33 : decode cX11_likeliestOf 33 = .ok (.iload_n 3, 1) := by decide +kernel
theorem dX11_likeliestOf_34 : decode cX11_likeliestOf 34 = .ok (.laload, 1) := by decide +kernel
theorem dX11_likeliestOf_35 : decode cX11_likeliestOf 35 = .ok (.aload_n 0, 1) := by decide +kernel
theorem dX11_likeliestOf_36 : decode cX11_likeliestOf 36 = .ok (.getfield 53, 3) := by decide +kernel
theorem dX11_likeliestOf_39 : decode cX11_likeliestOf 39 = .ok (.iload_n 2, 1) := by decide +kernel
theorem dX11_likeliestOf_40 : decode cX11_likeliestOf 40 = .ok (.laload, 1) := by decide +kernel
theorem dX11_likeliestOf_41 : decode cX11_likeliestOf 41 = .ok (.lcmp, 1) := by decide +kernel
theorem dX11_likeliestOf_42 : decode cX11_likeliestOf 42 = .ok (.ifCond .le 7, 3) := by decide +kernel
theorem dX11_likeliestOf_45 : decode cX11_likeliestOf 45 = .ok (.iload_n 3, 1) := by decide +kernel
theorem dX11_likeliestOf_46 : decode cX11_likeliestOf 46 = .ok (.goto 4, 3) := by decide +kernel
theorem dX11_likeliestOf_49 : decode cX11_likeliestOf 49 = .ok (.iload_n 2, 1) := by decide +kernel
theorem dX11_likeliestOf_50 : decode cX11_likeliestOf 50 = .ok (.istore_n 2, 1) := by decide +kernel
theorem dX11_likeliestOf_51 : decode cX11_likeliestOf 51 = .ok (.iinc 3 1, 3) := by decide +kernel
theorem dX11_likeliestOf_54 : decode cX11_likeliestOf 54 = .ok (.goto (-33), 3) := by decide +kernel
theorem dX11_likeliestOf_57 : decode cX11_likeliestOf 57 = .ok (.iload_n 2, 1) := by decide +kernel
theorem dX11_likeliestOf_58 : decode cX11_likeliestOf 58 = .ok (.ireturn, 1) := by decide +kernel
theorem dX11_likeliest_0 : decode cX11_likeliest 0 = .ok (.iload_n 1, 1) := by decide +kernel
theorem dX11_likeliest_1 : decode cX11_likeliest 1 = .ok (.invokestatic 138, 3) := by decide +kernel
theorem dX11_likeliest_4 : decode cX11_likeliest 4 = .ok (.ifCond .eq 11, 3) := by decide +kernel
theorem dX11_likeliest_7 : decode cX11_likeliest 7 = .ok (.aload_n 0, 1) := by decide +kernel
theorem dX11_likeliest_8 : decode cX11_likeliest 8 = .ok (.iload_n 1, 1) := by decide +kernel
theorem dX11_likeliest_9 : decode cX11_likeliest 9 = .ok (.invokevirtual 180, 3) := by decide +kernel
theorem dX11_likeliest_12 : decode cX11_likeliest 12 = .ok (.goto 5, 3) := by decide +kernel
theorem dX11_likeliest_15 : decode cX11_likeliest 15 = .ok (.bipush (-2), 2) := by decide +kernel
theorem dX11_likeliest_17 : decode cX11_likeliest 17 = .ok (.ireturn, 1) := by decide +kernel
theorem dX11_strikeOf_0 : decode cX11_strikeOf 0 = .ok (.aload_n 0, 1) := by decide +kernel
theorem dX11_strikeOf_1 : decode cX11_strikeOf 1 = .ok (.iload_n 1, 1) := by decide +kernel
theorem dX11_strikeOf_2 : decode cX11_strikeOf 2 = .ok (.invokevirtual 164, 3) := by decide +kernel
theorem dX11_strikeOf_5 : decode cX11_strikeOf 5 = .ok (.aload_n 0, 1) := by decide +kernel
theorem dX11_strikeOf_6 : decode cX11_strikeOf 6 = .ok (.getfield 153, 3) := by decide +kernel
theorem dX11_strikeOf_9 : decode cX11_strikeOf 9 = .ok (.lconst 0, 1) := by decide +kernel
theorem dX11_strikeOf_10 : decode cX11_strikeOf 10 = .ok (.lcmp, 1) := by decide +kernel
theorem dX11_strikeOf_11 : decode cX11_strikeOf 11 = .ok (.ifCond .ne 11, 3) := by decide +kernel
theorem dX11_strikeOf_14 : decode cX11_strikeOf 14 = .ok (.bipush (-3), 2) := by decide +kernel
theorem dX11_strikeOf_16 : decode cX11_strikeOf 16 = .ok (.invokestatic 168, 3) := by decide +kernel
theorem dX11_strikeOf_19 : decode cX11_strikeOf 19 = .ok (.goto 35, 3) := by decide +kernel
theorem dX11_strikeOf_22 : decode cX11_strikeOf 22 = .ok (.aload_n 0, 1) := by decide +kernel
theorem dX11_strikeOf_23 : decode cX11_strikeOf 23 = .ok (.getfield 31, 3) := by decide +kernel
theorem dX11_strikeOf_26 : decode cX11_strikeOf 26 = .ok (.iconst 4, 1) := by decide +kernel
theorem dX11_strikeOf_27 : decode cX11_strikeOf 27 = .ok (.iaload, 1) := by decide +kernel
theorem dX11_strikeOf_28 : decode cX11_strikeOf 28 = .ok (.i2l, 1) := by decide +kernel
theorem dX11_strikeOf_29 : decode cX11_strikeOf 29 = .ok (.aload_n 0, 1) := by decide +kernel
theorem dX11_strikeOf_30 : decode cX11_strikeOf 30 = .ok (.getfield 153, 3) := by decide +kernel
theorem dX11_strikeOf_33 : decode cX11_strikeOf 33 = .ok (.aload_n 0, 1) := by decide +kernel
theorem dX11_strikeOf_34 : decode cX11_strikeOf 34 = .ok (.getfield 53, 3) := by decide +kernel
theorem dX11_strikeOf_37 : decode cX11_strikeOf 37 = .ok (.aload_n 0, 1) := by decide +kernel
theorem dX11_strikeOf_38 : decode cX11_strikeOf 38 = .ok (.getfield 97, 3) := by decide +kernel
theorem dX11_strikeOf_41 : decode cX11_strikeOf 41 = .ok (.iconst 1, 1) := by decide +kernel
theorem dX11_strikeOf_42 : decode cX11_strikeOf 42 = .ok (.isub, 1) := by decide +kernel
theorem dX11_strikeOf_43 : decode cX11_strikeOf 43 = .ok (.laload, 1) := by decide +kernel
theorem dX11_strikeOf_44 : decode cX11_strikeOf 44 = .ok (.lsub, 1) := by decide +kernel
theorem dX11_strikeOf_45 : decode cX11_strikeOf 45 = .ok (.lmul, 1) := by decide +kernel
theorem dX11_strikeOf_46 : decode cX11_strikeOf 46 = .ok (.aload_n 0, 1) := by decide +kernel
theorem dX11_strikeOf_47 : decode cX11_strikeOf 47 = .ok (.getfield 153, 3) := by decide +kernel
theorem dX11_strikeOf_50 : decode cX11_strikeOf 50 = .ok (.iload_n 2, 1) := by decide +kernel
theorem dX11_strikeOf_51 : decode cX11_strikeOf 51 = .ok (.invokestatic 172, 3) := by decide +kernel
theorem dX11_strikeOf_54 : decode cX11_strikeOf 54 = .ok (.lreturn, 1) := by decide +kernel
theorem dX11_strike_0 : decode cX11_strike 0 = .ok (.iload_n 1, 1) := by decide +kernel
theorem dX11_strike_1 : decode cX11_strike 1 = .ok (.invokestatic 138, 3) := by decide +kernel
theorem dX11_strike_4 : decode cX11_strike 4 = .ok (.ifCond .eq 21, 3) := by decide +kernel
theorem dX11_strike_7 : decode cX11_strike 7 = .ok (.iload_n 2, 1) := by decide +kernel
theorem dX11_strike_8 : decode cX11_strike 8 = .ok (.iconst 0, 1) := by decide +kernel
theorem dX11_strike_9 : decode cX11_strike 9 = .ok (.iconst 1, 1) := by decide +kernel
theorem dX11_strike_10 : decode cX11_strike 10 = .ok (.invokestatic 89, 3) := by decide +kernel
theorem dX11_strike_13 : decode cX11_strike 13 = .ok (.ifCond .eq 12, 3) := by decide +kernel
theorem dX11_strike_16 : decode cX11_strike 16 = .ok (.aload_n 0, 1) := by decide +kernel
theorem dX11_strike_17 : decode cX11_strike 17 = .ok (.iload_n 1, 1) := by decide +kernel
theorem dX11_strike_18 : decode cX11_strike 18 = .ok (.iload_n 2, 1) := by decide +kernel
theorem dX11_strike_19 : decode cX11_strike 19 = .ok (.invokevirtual 183, 3) := by decide +kernel
theorem dX11_strike_22 : decode cX11_strike 22 = .ok (.goto 8, 3) := by decide +kernel
theorem dX11_strike_25 : decode cX11_strike 25 = .ok (.bipush (-2), 2) := by decide +kernel
theorem dX11_strike_27 : decode cX11_strike 27 = .ok (.invokestatic 168, 3) := by decide +kernel
theorem dX11_strike_30 : decode cX11_strike 30 = .ok (.lreturn, 1) := by decide +kernel
theorem dX11_isLess_0 : decode cX11_isLess 0 = .ok (.lload_n 0, 1) := by decide +kernel
theorem dX11_isLess_1 : decode cX11_isLess 1 = .ok (.lstore 8, 2) := by decide +kernel
theorem dX11_isLess_3 : decode cX11_isLess 3 = .ok (.lload_n 2, 1) := by decide +kernel
theorem dX11_isLess_4 : decode cX11_isLess 4 = .ok (.lstore 10, 2) := by decide +kernel
theorem dX11_isLess_6 : decode cX11_isLess 6 = .ok (.lload 4, 2) := by decide +kernel
theorem dX11_isLess_8 : decode cX11_isLess 8 = .ok (.lstore 12, 2) := by decide +kernel
theorem dX11_isLess_10 : decode cX11_isLess 10 = .ok (.lload 6, 2) := by decide +kernel
theorem dX11_isLess_12 : decode cX11_isLess 12 = .ok (.lstore 14, 2) := by decide +kernel
theorem dX11_isLess_14 : decode cX11_isLess 14 = .ok (.iconst 0, 1) := by decide +kernel
theorem dX11_isLess_15 : decode cX11_isLess 15 = .ok (.istore 16, 2) := by decide +kernel
theorem dX11_isLess_17 : decode cX11_isLess 17 = .ok (.lload 8, 2) := by decide +kernel
theorem dX11_isLess_19 : decode cX11_isLess 19 = .ok (.lload 10, 2) := by decide +kernel
theorem dX11_isLess_21 : decode cX11_isLess 21 = .ok (.ldiv, 1) := by decide +kernel
theorem dX11_isLess_22 : decode cX11_isLess 22 = .ok (.lstore 17, 2) := by decide +kernel
theorem dX11_isLess_24 : decode cX11_isLess 24 = .ok (.lload 12, 2) := by decide +kernel
theorem dX11_isLess_26 : decode cX11_isLess 26 = .ok (.lload 14, 2) := by decide +kernel
theorem dX11_isLess_28 : decode cX11_isLess 28 = .ok (.ldiv, 1) := by decide +kernel
theorem dX11_isLess_29 : decode cX11_isLess 29 = .ok (.lstore 19, 2) := by decide +kernel
theorem dX11_isLess_31 : decode cX11_isLess 31 = .ok (.lload 17, 2) := by decide +kernel
theorem dX11_isLess_33 : decode cX11_isLess 33 = .ok (.lload 19, 2) := by decide +kernel
theorem dX11_isLess_35 : decode cX11_isLess 35 = .ok (.lcmp, 1) := by decide +kernel
theorem dX11_isLess_36 : decode cX11_isLess 36 = .ok (.ifCond .eq 27, 3) := by decide +kernel
theorem dX11_isLess_39 : decode cX11_isLess 39 = .ok (.lload 17, 2) := by decide +kernel
theorem dX11_isLess_41 : decode cX11_isLess 41 = .ok (.lload 19, 2) := by decide +kernel
theorem dX11_isLess_43 : decode cX11_isLess 43 = .ok (.lcmp, 1) := by decide +kernel
theorem dX11_isLess_44 : decode cX11_isLess 44 = .ok (.ifCond .ge 7, 3) := by decide +kernel
theorem dX11_isLess_47 : decode cX11_isLess 47 = .ok (.iconst 1, 1) := by decide +kernel
theorem dX11_isLess_48 : decode cX11_isLess 48 = .ok (.goto 4, 3) := by decide +kernel
theorem dX11_isLess_51 : decode cX11_isLess 51 = .ok (.iconst 0, 1) := by decide +kernel
theorem dX11_isLess_52 : decode cX11_isLess 52 = .ok (.iload 16, 2) := by decide +kernel
theorem dX11_isLess_54 : decode cX11_isLess 54 = .ok (.if_icmp .eq 7, 3) := by decide +kernel
theorem dX11_isLess_57 : decode cX11_isLess 57 = .ok (.iconst 1, 1) := by decide +kernel
theorem dX11_isLess_58 : decode cX11_isLess 58 = .ok (.goto 4, 3) := by decide +kernel
theorem dX11_isLess_61 : decode cX11_isLess 61 = .ok (.iconst 0, 1) := by decide +kernel
theorem dX11_isLess_62 : decode cX11_isLess 62 = .ok (.ireturn, 1) := by decide +kernel
theorem dX11_isLess_63 : decode cX11_isLess 63 = .ok (.lload 8, 2) := by decide +kernel
theorem dX11_isLess_65 : decode cX11_isLess 65 = .ok (.lload 10, 2) := by decide +kernel
theorem dX11_isLess_67 : decode cX11_isLess 67 = .ok (.lrem, 1) := by decide +kernel
theorem dX11_isLess_68 : decode cX11_isLess 68 = .ok (.lstore 8, 2) := by decide +kernel
theorem dX11_isLess_70 : decode cX11_isLess 70 = .ok (.lload 12, 2) := by decide +kernel
theorem dX11_isLess_72 : decode cX11_isLess 72 = .ok (.lload 14, 2) := by decide +kernel
theorem dX11_isLess_74 : decode cX11_isLess 74 = .ok (.lrem, 1) := by decide +kernel
theorem dX11_isLess_75 : decode cX11_isLess 75 = .ok (.lstore 12, 2) := by decide +kernel
theorem dX11_isLess_77 : decode cX11_isLess 77 = .ok (.lload 8, 2) := by decide +kernel
theorem dX11_isLess_79 : decode cX11_isLess 79 = .ok (.lconst 0, 1) := by decide +kernel
theorem dX11_isLess_80 : decode cX11_isLess 80 = .ok (.lcmp, 1) := by decide +kernel
theorem dX11_isLess_81 : decode cX11_isLess 81 = .ok (.ifCond .eq 10, 3) := by decide +kernel
theorem dX11_isLess_84 : decode cX11_isLess 84 = .ok (.lload 12, 2) := by decide +kernel
theorem dX11_isLess_86 : decode cX11_isLess 86 = .ok (.lconst 0, 1) := by decide +kernel
theorem dX11_isLess_87 : decode cX11_isLess 87 = .ok (.lcmp, 1) := by decide +kernel
theorem dX11_isLess_88 : decode cX11_isLess 88 = .ok (.ifCond .ne 50, 3) := by decide +kernel
theorem dX11_isLess_91 : decode cX11_isLess 91 = .ok (.iload 16, 2) := by decide +kernel
theorem dX11_isLess_93 : decode cX11_isLess 93 = .ok (.ifCond .eq 25, 3) := by decide +kernel
theorem dX11_isLess_96 : decode cX11_isLess 96 = .ok (.lload 12, 2) := by decide +kernel
theorem dX11_isLess_98 : decode cX11_isLess 98 = .ok (.lconst 0, 1) := by decide +kernel
theorem dX11_isLess_99 : decode cX11_isLess 99 = .ok (.lcmp, 1) := by decide +kernel
theorem dX11_isLess_100 : decode cX11_isLess 100 = .ok (.ifCond .ne 14, 3) := by decide +kernel
theorem dX11_isLess_103 : decode cX11_isLess 103 = .ok (.lload 8, 2) := by decide +kernel
theorem dX11_isLess_105 : decode cX11_isLess 105 = .ok (.lconst 0, 1) := by decide +kernel
theorem dX11_isLess_106 : decode cX11_isLess 106 = .ok (.lcmp, 1) := by decide +kernel
theorem dX11_isLess_107 : decode cX11_isLess 107 = .ok (.ifCond .le 7, 3) := by decide +kernel
theorem dX11_isLess_110 : decode cX11_isLess 110 = .ok (.iconst 1, 1) := by decide +kernel
theorem dX11_isLess_111 : decode cX11_isLess 111 = .ok (.goto 26, 3) := by decide +kernel
theorem dX11_isLess_114 : decode cX11_isLess 114 = .ok (.iconst 0, 1) := by decide +kernel
theorem dX11_isLess_115 : decode cX11_isLess 115 = .ok (.goto 22, 3) := by decide +kernel
theorem dX11_isLess_118 : decode cX11_isLess 118 = .ok (.lload 8, 2) := by decide +kernel
theorem dX11_isLess_120 : decode cX11_isLess 120 = .ok (.lconst 0, 1) := by decide +kernel
theorem dX11_isLess_121 : decode cX11_isLess 121 = .ok (.lcmp, 1) := by decide +kernel
theorem dX11_isLess_122 : decode cX11_isLess 122 = .ok (.ifCond .ne 14, 3) := by decide +kernel
theorem dX11_isLess_125 : decode cX11_isLess 125 = .ok (.lload 12, 2) := by decide +kernel
theorem dX11_isLess_127 : decode cX11_isLess 127 = .ok (.lconst 0, 1) := by decide +kernel
theorem dX11_isLess_128 : decode cX11_isLess 128 = .ok (.lcmp, 1) := by decide +kernel
theorem dX11_isLess_129 : decode cX11_isLess 129 = .ok (.ifCond .le 7, 3) := by decide +kernel
theorem dX11_isLess_132 : decode cX11_isLess 132 = .ok (.iconst 1, 1) := by decide +kernel
theorem dX11_isLess_133 : decode cX11_isLess 133 = .ok (.goto 4, 3) := by decide +kernel
theorem dX11_isLess_136 : decode cX11_isLess 136 = .ok (.iconst 0, 1) := by decide +kernel
theorem dX11_isLess_137 : decode cX11_isLess 137 = .ok (.ireturn, 1) := by decide +kernel
theorem dX11_isLess_138 : decode cX11_isLess 138 = .ok (.lload 8, 2) := by decide +kernel
theorem dX11_isLess_140 : decode cX11_isLess 140 = .ok (.lstore 21, 2) := by decide +kernel
theorem dX11_isLess_142 : decode cX11_isLess 142 = .ok (.lload 10, 2) := by decide +kernel
theorem dX11_isLess_144 : decode cX11_isLess 144 = .ok (.lstore 8, 2) := by decide +kernel
theorem dX11_isLess_146 : decode cX11_isLess 146 = .ok (.lload 21, 2) := by decide +kernel
theorem dX11_isLess_148 : decode cX11_isLess 148 = .ok (.lstore 10, 2) := by decide +kernel
theorem dX11_isLess_150 : decode cX11_isLess 150 = .ok (.lload 12, 2) := by decide +kernel
theorem dX11_isLess_152 : decode cX11_isLess 152 = .ok (.lstore 21, 2) := by decide +kernel
theorem dX11_isLess_154 : decode cX11_isLess 154 = .ok (.lload 14, 2) := by decide +kernel
theorem dX11_isLess_156 : decode cX11_isLess 156 = .ok (.lstore 12, 2) := by decide +kernel
theorem dX11_isLess_158 : decode cX11_isLess 158 = .ok (.lload 21, 2) := by decide +kernel
theorem dX11_isLess_160 : decode cX11_isLess 160 = .ok (.lstore 14, 2) := by decide +kernel
theorem dX11_isLess_162 : decode cX11_isLess 162 = .ok (.iload 16, 2) := by decide +kernel
theorem dX11_isLess_164 : decode cX11_isLess 164 = .ok (.ifCond .ne 7, 3) := by decide +kernel
theorem dX11_isLess_167 : decode cX11_isLess 167 = .ok (.iconst 1, 1) := by decide +kernel
theorem dX11_isLess_168 : decode cX11_isLess 168 = .ok (.goto 4, 3) := by decide +kernel
theorem dX11_isLess_171 : decode cX11_isLess 171 = .ok (.iconst 0, 1) := by decide +kernel
theorem dX11_isLess_172 : decode cX11_isLess 172 = .ok (.istore 16, 2) := by decide +kernel
theorem dX11_isLess_174 : decode cX11_isLess 174 = .ok (.goto (-157), 3) := by decide +kernel
theorem dX11_lineNow_0 : decode cX11_lineNow 0 = .ok (.iconst (-1), 1) := by decide +kernel
theorem dX11_lineNow_1 : decode cX11_lineNow 1 = .ok (.istore_n 1, 1) := by decide +kernel
theorem dX11_lineNow_2 : decode cX11_lineNow 2 = .ok (.lconst 0, 1) := by decide +kernel
theorem dX11_lineNow_3 : decode cX11_lineNow 3 = .ok (.lstore_n 2, 1) := by decide +kernel
theorem dX11_lineNow_4 : decode cX11_lineNow 4 = .ok (.lconst 1, 1) := by decide +kernel
theorem dX11_lineNow_5 : decode cX11_lineNow 5 = .ok (.lstore 4, 2) := by decide +kernel
theorem dX11_lineNow_7 : decode cX11_lineNow 7 = .ok (.iconst 1, 1) := by decide +kernel
theorem dX11_lineNow_8 : decode cX11_lineNow 8 = .ok (.istore 6, 2) := by decide +kernel
theorem dX11_lineNow_10 : decode cX11_lineNow 10 = .ok (.iload 6, 2) := by decide +kernel
theorem dX11_lineNow_12 : decode cX11_lineNow 12 = .ok (.bipush 110, 2) := by decide +kernel
theorem dX11_lineNow_14 : decode cX11_lineNow 14 = .ok (.if_icmp .gt 82, 3) := by decide +kernel
theorem dX11_lineNow_17 : decode cX11_lineNow 17 = .ok (.aload_n 0, 1) := by decide +kernel
theorem dX11_lineNow_18 : decode cX11_lineNow 18 = .ok (.iload 6, 2) := by decide +kernel
theorem dX11_lineNow_20 : decode cX11_lineNow 20 = .ok (.invokevirtual 164, 3) := by decide +kernel
theorem dX11_lineNow_23 : decode cX11_lineNow 23 = .ok (.aload_n 0, 1) := by decide +kernel
theorem dX11_lineNow_24 : decode cX11_lineNow 24 = .ok (.getfield 153, 3) := by decide +kernel
theorem dX11_lineNow_27 : decode cX11_lineNow 27 = .ok (.lconst 0, 1) := by decide +kernel
theorem dX11_lineNow_28 : decode cX11_lineNow 28 = .ok (.lcmp, 1) := by decide +kernel
theorem dX11_lineNow_29 : decode cX11_lineNow 29 = .ok (.ifCond .le 61, 3) := by decide +kernel
theorem dX11_lineNow_32 : decode cX11_lineNow 32 = .ok (.aload_n 0, 1) := by decide +kernel
theorem dX11_lineNow_33 : decode cX11_lineNow 33 = .ok (.getfield 31, 3) := by decide +kernel
theorem dX11_lineNow_36 : decode cX11_lineNow 36 = .ok (.iconst 4, 1) := by decide +kernel
theorem dX11_lineNow_37 : decode cX11_lineNow 37 = .ok (.iaload, 1) := by decide +kernel
theorem dX11_lineNow_38 : decode cX11_lineNow 38 = .ok (.i2l, 1) := by decide +kernel
theorem dX11_lineNow_39 : decode cX11_lineNow 39 = .ok (.aload_n 0, 1) := by decide +kernel
theorem dX11_lineNow_40 : decode cX11_lineNow 40 = .ok (.getfield 153, 3) := by decide +kernel
theorem dX11_lineNow_43 : decode cX11_lineNow 43 = .ok (.aload_n 0, 1) := by decide +kernel
theorem dX11_lineNow_44 : decode cX11_lineNow 44 = .ok (.getfield 53, 3) := by decide +kernel
theorem dX11_lineNow_47 : decode cX11_lineNow 47 = .ok (.aload_n 0, 1) := by decide +kernel
theorem dX11_lineNow_48 : decode cX11_lineNow 48 = .ok (.getfield 97, 3) := by decide +kernel
theorem dX11_lineNow_51 : decode cX11_lineNow 51 = .ok (.iconst 1, 1) := by decide +kernel
theorem dX11_lineNow_52 : decode cX11_lineNow 52 = .ok (.isub, 1) := by decide +kernel
theorem dX11_lineNow_53 : decode cX11_lineNow 53 = .ok (.laload, 1) := by decide +kernel
theorem dX11_lineNow_54 : decode cX11_lineNow 54 = .ok (.lsub, 1) := by decide +kernel
theorem dX11_lineNow_55 : decode cX11_lineNow 55 = .ok (.lmul, 1) := by decide +kernel
theorem dX11_lineNow_56 : decode cX11_lineNow 56 = .ok (.lstore 7, 2) := by decide +kernel
theorem dX11_lineNow_58 : decode cX11_lineNow 58 = .ok (.iload_n 1, 1) := by decide +kernel
theorem dX11_lineNow_59 : decode cX11_lineNow 59 = .ok (.iconst (-1), 1) := by decide +kernel
theorem dX11_lineNow_60 : decode cX11_lineNow 60 = .ok (.if_icmp .eq 18, 3) := by decide +kernel
theorem dX11_lineNow_63 : decode cX11_lineNow 63 = .ok (.lload 7, 2) := by decide +kernel
theorem dX11_lineNow_65 : decode cX11_lineNow 65 = .ok (.aload_n 0, 1) := by decide +kernel
theorem dX11_lineNow_66 : decode cX11_lineNow 66 = .ok (.getfield 153, 3) := by decide +kernel
theorem dX11_lineNow_69 : decode cX11_lineNow 69 = .ok (.lload_n 2, 1) := by decide +kernel
theorem dX11_lineNow_70 : decode cX11_lineNow 70 = .ok (.lload 4, 2) := by decide +kernel
theorem dX11_lineNow_72 : decode cX11_lineNow 72 = .ok (.invokestatic 186, 3) := by decide +kernel
theorem dX11_lineNow_75 : decode cX11_lineNow 75 = .ok (.ifCond .eq 15, 3) := by decide +kernel
theorem dX11_lineNow_78 : decode cX11_lineNow 78 = .ok (.iload 6, 2) := by decide +kernel
theorem dX11_lineNow_80 : decode cX11_lineNow 80 = .ok (.istore_n 1, 1) := by decide +kernel
theorem dX11_lineNow_81 : decode cX11_lineNow 81 = .ok (.lload 7, 2) := by decide +kernel
theorem dX11_lineNow_83 : decode cX11_lineNow 83 = .ok (.lstore_n 2, 1) := by decide +kernel
theorem dX11_lineNow_84 : decode cX11_lineNow 84 = .ok (.aload_n 0, 1) := by decide +kernel
theorem dX11_lineNow_85 : decode cX11_lineNow 85 = .ok (.getfield 153, 3) := by decide +kernel
theorem dX11_lineNow_88 : decode cX11_lineNow 88 = .ok (.lstore 4, 2) := by decide +kernel
theorem dX11_lineNow_90 : decode cX11_lineNow 90 = .ok (.iinc 6 1, 3) := by decide +kernel
theorem dX11_lineNow_93 : decode cX11_lineNow 93 = .ok (.goto (-83), 3) := by decide +kernel
theorem dX11_lineNow_96 : decode cX11_lineNow 96 = .ok (.iload_n 1, 1) := by decide +kernel
theorem dX11_lineNow_97 : decode cX11_lineNow 97 = .ok (.iconst (-1), 1) := by decide +kernel
theorem dX11_lineNow_98 : decode cX11_lineNow 98 = .ok (.if_icmp .eq 22, 3) := by decide +kernel
theorem dX11_lineNow_101 : decode cX11_lineNow 101 = .ok (.lload_n 2, 1) := by decide +kernel
theorem dX11_lineNow_102 : decode cX11_lineNow 102 = .ok (.aload_n 0, 1) := by decide +kernel
theorem dX11_lineNow_103 : decode cX11_lineNow 103 = .ok (.getfield 31, 3) := by decide +kernel
theorem dX11_lineNow_106 : decode cX11_lineNow 106 = .ok (.iconst 5, 1) := by decide +kernel
theorem dX11_lineNow_107 : decode cX11_lineNow 107 = .ok (.iaload, 1) := by decide +kernel
theorem dX11_lineNow_108 : decode cX11_lineNow 108 = .ok (.i2l, 1) := by decide +kernel
theorem dX11_lineNow_109 : decode cX11_lineNow 109 = .ok (.lload 4, 2) := by decide +kernel
theorem dX11_lineNow_111 : decode cX11_lineNow 111 = .ok (.lmul, 1) := by decide +kernel
theorem dX11_lineNow_112 : decode cX11_lineNow 112 = .ok (.lcmp, 1) := by decide +kernel
theorem dX11_lineNow_113 : decode cX11_lineNow 113 = .ok (.ifCond .ge 7, 3) := by decide +kernel
theorem dX11_lineNow_116 : decode cX11_lineNow 116 = .ok (.iload_n 1, 1) := by decide +kernel
theorem dX11_lineNow_117 : decode cX11_lineNow 117 = .ok (.goto 4, 3) := by decide +kernel
theorem dX11_lineNow_120 : decode cX11_lineNow 120 = .ok (.iconst (-1), 1) := by decide +kernel
theorem dX11_lineNow_121 : decode cX11_lineNow 121 = .ok (.ireturn, 1) := by decide +kernel
theorem dX11_line_0 : decode cX11_line 0 = .ok (.aload_n 0, 1) := by decide +kernel
theorem dX11_line_1 : decode cX11_line 1 = .ok (.invokevirtual 190, 3) := by decide +kernel
theorem dX11_line_4 : decode cX11_line 4 = .ok (.ireturn, 1) := by decide +kernel
theorem dX11_findsSlips_0 : decode cX11_findsSlips 0 = .ok (.iconst 0, 1) := by decide +kernel
theorem dX11_findsSlips_1 : decode cX11_findsSlips 1 = .ok (.istore 4, 2) := by decide +kernel
theorem dX11_findsSlips_3 : decode cX11_findsSlips 3 = .ok (.iload 4, 2) := by decide +kernel
theorem dX11_findsSlips_5 : decode cX11_findsSlips 5 = .ok (.bipush 21, 2) := by decide +kernel
theorem dX11_findsSlips_7 : decode cX11_findsSlips 7 = .ok (.if_icmp .ge 28, 3) := by decide +kernel
theorem dX11_findsSlips_10 : decode cX11_findsSlips 10 = .ok (.aload_n 0, 1) := by decide +kernel
theorem dX11_findsSlips_11 : decode cX11_findsSlips 11 = .ok (.getfield 56, 3) := by decide +kernel
theorem dX11_findsSlips_14 : decode cX11_findsSlips 14 = .ok (.iload 4, 2) := by decide +kernel
theorem dX11_findsSlips_16 : decode cX11_findsSlips 16 = .ok (.iload 4, 2) := by decide +kernel
theorem dX11_findsSlips_18 : decode cX11_findsSlips 18 = .ok (.bipush 10, 2) := by decide +kernel
theorem dX11_findsSlips_20 : decode cX11_findsSlips 20 = .ok (.if_icmp .ne 7, 3) := by decide +kernel
theorem dX11_findsSlips_23 : decode cX11_findsSlips 23 = .ok (.lconst 1, 1) := by decide +kernel
theorem dX11_findsSlips_24 : decode cX11_findsSlips 24 = .ok (.goto 4, 3) := by decide +kernel
theorem dX11_findsSlips_27 : decode cX11_findsSlips 27 = .ok (.lconst 0, 1) := by decide +kernel
theorem dX11_findsSlips_28 : decode cX11_findsSlips 28 = .ok (.lastore, 1) := by decide +kernel
theorem dX11_findsSlips_29 : decode cX11_findsSlips 29 = .ok (.iinc 4 1, 3) := by decide +kernel
theorem dX11_findsSlips_32 : decode cX11_findsSlips 32 = .ok (.goto (-29), 3) := by decide +kernel
theorem dX11_findsSlips_35 : decode cX11_findsSlips 35 = .ok (.aload_n 0, 1) := by decide +kernel
theorem dX11_findsSlips_36 : decode cX11_findsSlips 36 = .ok (.lconst 1, 1) := by decide +kernel
theorem dX11_findsSlips_37 : decode cX11_findsSlips 37 = .ok (.putfield 193, 3) := by decide +kernel
theorem dX11_findsSlips_40 : decode cX11_findsSlips 40 = .ok (.iconst 0, 1) := by decide +kernel
theorem dX11_findsSlips_41 : decode cX11_findsSlips 41 = .ok (.istore 4, 2) := by decide +kernel
theorem dX11_findsSlips_43 : decode cX11_findsSlips 43 = .ok (.iload 4, 2) := by decide +kernel
theorem dX11_findsSlips_45 : decode cX11_findsSlips 45 = .ok (.iload_n 1, 1) := by decide +kernel
theorem dX11_findsSlips_46 : decode cX11_findsSlips 46 = .ok (.if_icmp .ge 157, 3) := by decide +kernel
theorem dX11_findsSlips_49 : decode cX11_findsSlips 49 = .ok (.aload_n 0, 1) := by decide +kernel
theorem dX11_findsSlips_50 : decode cX11_findsSlips 50 = .ok (.getfield 13, 3) := by decide +kernel
theorem dX11_findsSlips_53 : decode cX11_findsSlips 53 = .ok (.iload 4, 2) := by decide +kernel
theorem dX11_findsSlips_55 : decode cX11_findsSlips 55 = .ok (.iaload, 1) := by decide +kernel
theorem dX11_findsSlips_56 : decode cX11_findsSlips 56 = .ok (.iconst 3, 1) := by decide +kernel
theorem dX11_findsSlips_57 : decode cX11_findsSlips 57 = .ok (.if_icmp .ge 18, 3) := by decide +kernel
theorem dX11_findsSlips_60 : decode cX11_findsSlips 60 = .ok (.aload_n 0, 1) := by decide +kernel
theorem dX11_findsSlips_61 : decode cX11_findsSlips 61 = .ok (.aload_n 0, 1) := by decide +kernel
theorem dX11_findsSlips_62 : decode cX11_findsSlips 62 = .ok (.getfield 13, 3) := by decide +kernel
theorem dX11_findsSlips_65 : decode cX11_findsSlips 65 = .ok (.iload 4, 2) := by decide +kernel
theorem dX11_findsSlips_67 : decode cX11_findsSlips 67 = .ok (.iaload, 1) := by decide +kernel
theorem dX11_findsSlips_68 : decode cX11_findsSlips 68 = .ok (.iload_n 3, 1) := by decide +kernel
theorem dX11_findsSlips_69 : decode cX11_findsSlips 69 = .ok (.invokevirtual 196, 3) := by decide +kernel
theorem dX11_findsSlips_72 : decode cX11_findsSlips 72 = .ok (.goto 125, 3) := by decide +kernel
theorem dX11_findsSlips_75 : decode cX11_findsSlips 75 = .ok (.aload_n 0, 1) := by decide +kernel
theorem dX11_findsSlips_76 : decode cX11_findsSlips 76 = .ok (.getfield 13, 3) := by decide +kernel
theorem dX11_findsSlips_79 : decode cX11_findsSlips 79 = .ok (.iload 4, 2) := by decide +kernel
theorem dX11_findsSlips_81 : decode cX11_findsSlips 81 = .ok (.iaload, 1) := by decide +kernel
theorem dX11_findsSlips_82 : decode cX11_findsSlips 82 = .ok (.iconst 4, 1) := by decide +kernel
theorem dX11_findsSlips_83 : decode cX11_findsSlips 83 = .ok (.if_icmp .ne 114, 3) := by decide +kernel
theorem dX11_findsSlips_86 : decode cX11_findsSlips 86 = .ok (.iload_n 2, 1) := by decide +kernel
theorem dX11_findsSlips_87 : decode cX11_findsSlips 87 = .ok (.aload_n 0, 1) := by decide +kernel
theorem dX11_findsSlips_88 : decode cX11_findsSlips 88 = .ok (.getfield 19, 3) := by decide +kernel
theorem dX11_findsSlips_91 : decode cX11_findsSlips 91 = .ok (.iload 4, 2) := by decide +kernel
theorem dX11_findsSlips_93 : decode cX11_findsSlips 93 = .ok (.iaload, 1) := by decide +kernel
theorem dX11_findsSlips_94 : decode cX11_findsSlips 94 = .ok (.invokestatic 199, 3) := by decide +kernel
theorem dX11_findsSlips_97 : decode cX11_findsSlips 97 = .ok (.ifCond .eq 100, 3) := by decide +kernel
theorem dX11_findsSlips_100 : decode cX11_findsSlips 100 = .ok (.iconst 0, 1) := by decide +kernel
theorem dX11_findsSlips_101 : decode cX11_findsSlips 101 = .ok (.istore 5, 2) := by decide +kernel
theorem dX11_findsSlips_103 : decode cX11_findsSlips 103 = .ok (.iload 5, 2) := by decide +kernel
theorem dX11_findsSlips_105 : decode cX11_findsSlips 105 = .ok (.bipush 21, 2) := by decide +kernel
theorem dX11_findsSlips_107 : decode cX11_findsSlips 107 = .ok (.if_icmp .ge 78, 3) := by decide +kernel
theorem dX11_findsSlips_110 : decode cX11_findsSlips 110 = .ok (.aload_n 0, 1) := by decide +kernel
theorem dX11_findsSlips_111 : decode cX11_findsSlips 111 = .ok (.getfield 56, 3) := by decide +kernel
theorem dX11_findsSlips_114 : decode cX11_findsSlips 114 = .ok (.iload 5, 2) := by decide +kernel
theorem dX11_findsSlips_116 : decode cX11_findsSlips 116 = .ok (.iload 5, 2) := by decide +kernel
theorem dX11_findsSlips_118 : decode cX11_findsSlips 118 = .ok (.bipush 10, 2) := by decide +kernel
theorem dX11_findsSlips_120 : decode cX11_findsSlips 120 = .ok (.if_icmp .ne 39, 3) := by decide +kernel
theorem dX11_findsSlips_123 : decode cX11_findsSlips 123 = .ok (.ldc2_w 151, 3) := by decide +kernel
theorem dX11_findsSlips_126 : decode cX11_findsSlips 126 = .ok (.aload_n 0, 1) := by decide +kernel
theorem dX11_findsSlips_127 : decode cX11_findsSlips 127 = .ok (.getfield 56, 3) := by decide +kernel
theorem dX11_findsSlips_130 : decode cX11_findsSlips 130 = .ok (.iload 5, 2) := by decide +kernel
theorem dX11_findsSlips_132 : decode cX11_findsSlips 132 = .ok (.laload, 1) := by decide +kernel
theorem dX11_findsSlips_133 : decode cX11_findsSlips 133 = .ok (.lmul, 1) := by decide +kernel
theorem dX11_findsSlips_134 : decode cX11_findsSlips 134 = .ok (.aload_n 0, 1) := by decide +kernel
theorem dX11_findsSlips_135 : decode cX11_findsSlips 135 = .ok (.getfield 31, 3) := by decide +kernel
theorem dX11_findsSlips_138 : decode cX11_findsSlips 138 = .ok (.bipush 6, 2) := by decide +kernel
theorem dX11_findsSlips_140 : decode cX11_findsSlips 140 = .ok (.iaload, 1) := by decide +kernel
theorem dX11_findsSlips_141 : decode cX11_findsSlips 141 = .ok (.i2l, 1) := by decide +kernel
theorem dX11_findsSlips_142 : decode cX11_findsSlips 142 = .ok (.aload_n 0, 1) := by decide +kernel
theorem dX11_findsSlips_143 : decode cX11_findsSlips 143 = .ok (.getfield 193, 3) := by decide +kernel
theorem dX11_findsSlips_146 : decode cX11_findsSlips 146 = .ok (.aload_n 0, 1) := by decide +kernel
theorem dX11_findsSlips_147 : decode cX11_findsSlips 147 = .ok (.getfield 56, 3) := by decide +kernel
theorem dX11_findsSlips_150 : decode cX11_findsSlips 150 = .ok (.iload 5, 2) := by decide +kernel
theorem dX11_findsSlips_152 : decode cX11_findsSlips 152 = .ok (.laload, 1) := by decide +kernel
theorem dX11_findsSlips_153 : decode cX11_findsSlips 153 = .ok (.lsub, 1) := by decide +kernel
theorem dX11_findsSlips_154 : decode cX11_findsSlips 154 = .ok (.lmul, 1) := by decide +kernel
theorem dX11_findsSlips_155 : decode cX11_findsSlips 155 = .ok (.ladd, 1) := by decide +kernel
theorem dX11_findsSlips_156 : decode cX11_findsSlips 156 = .ok (.goto 22, 3) := by decide +kernel
theorem dX11_findsSlips_159 : decode cX11_findsSlips 159 = .ok (.bipush 16, 2) := by decide +kernel
theorem dX11_findsSlips_161 : decode cX11_findsSlips 161 = .ok (.aload_n 0, 1) := by decide +kernel
theorem dX11_findsSlips_162 : decode cX11_findsSlips 162 = .ok (.getfield 31, 3) := by decide +kernel
theorem dX11_findsSlips_165 : decode cX11_findsSlips 165 = .ok (.bipush 6, 2) := by decide +kernel
theorem dX11_findsSlips_167 : decode cX11_findsSlips 167 = .ok (.iaload, 1) := by decide +kernel
theorem dX11_findsSlips_168 : decode cX11_findsSlips 168 = .ok (.isub, 1) := by decide +kernel
theorem dX11_findsSlips_169 : decode cX11_findsSlips 169 = .ok (.i2l, 1) := by decide +kernel
theorem dX11_findsSlips_170 : decode cX11_findsSlips 170 = .ok (.aload_n 0, 1) := by decide +kernel
theorem dX11_findsSlips_171 : decode cX11_findsSlips 171 = .ok (.getfield 56, 3) := by decide +kernel
theorem dX11_findsSlips_174 : decode cX11_findsSlips 174 = .ok (.iload 5, 2) := by decide +kernel
theorem dX11_findsSlips_176 : decode cX11_findsSlips 176 = .ok (.laload, 1) := by decide +kernel
theorem dX11_findsSlips_177 : decode cX11_findsSlips 177 = .ok (.lmul, 1) := by decide +kernel
theorem dX11_findsSlips_178 : decode cX11_findsSlips 178 = .ok (.lastore, 1) := by decide +kernel
theorem dX11_findsSlips_179 : decode cX11_findsSlips 179 = .ok (.iinc 5 1, 3) := by decide +kernel
theorem dX11_findsSlips_182 : decode cX11_findsSlips 182 = .ok (.goto (-79), 3) := by decide +kernel
theorem dX11_findsSlips_185 : decode cX11_findsSlips 185 = .ok (.aload_n 0, 1) := by decide +kernel
theorem dX11_findsSlips_186 : decode cX11_findsSlips 186 = .ok (.dup, 1) := by decide +kernel
theorem dX11_findsSlips_187 : decode cX11_findsSlips 187 = .ok (.getfield 193, 3) := by decide +kernel
theorem dX11_findsSlips_190 : decode cX11_findsSlips 190 = .ok (.ldc2_w 151, 3) := by decide +kernel
theorem dX11_findsSlips_193 : decode cX11_findsSlips 193 = .ok (.lmul, 1) := by decide +kernel
theorem dX11_findsSlips_194 : decode cX11_findsSlips 194 = .ok (.putfield 193, 3) := by decide +kernel
theorem dX11_findsSlips_197 : decode cX11_findsSlips 197 = .ok (.iinc 4 1, 3) := by decide +kernel
theorem dX11_findsSlips_200 : decode cX11_findsSlips 200 = .ok (.goto (-157), 3) := by decide +kernel
theorem dX11_findsSlips_203 : decode cX11_findsSlips 203 = .ok (.return_, 1) := by decide +kernel
theorem dX11_missedIn_0 : decode cX11_missedIn 0 = .ok (.iload_n 2, 1) := by decide +kernel
theorem dX11_missedIn_1 : decode cX11_missedIn 1 = .ok (.iconst (-1), 1) := by decide +kernel
theorem dX11_missedIn_2 : decode cX11_missedIn 2 = .ok (.if_icmp .ne 10, 3) := by decide +kernel
theorem dX11_missedIn_5 : decode cX11_missedIn 5 = .ok (.aload_n 0, 1) := by decide +kernel
theorem dX11_missedIn_6 : decode cX11_missedIn 6 = .ok (.getfield 25, 3) := by decide +kernel
theorem dX11_missedIn_9 : decode cX11_missedIn 9 = .ok (.iload_n 1, 1) := by decide +kernel
theorem dX11_missedIn_10 : decode cX11_missedIn 10 = .ok (.iaload, 1) := by decide +kernel
theorem dX11_missedIn_11 : decode cX11_missedIn 11 = .ok (.ireturn, 1) := by decide +kernel
theorem dX11_missedIn_12 : decode cX11_missedIn 12 = .ok (.aload_n 0, 1) := by decide +kernel
theorem dX11_missedIn_13 : decode cX11_missedIn 13 = .ok (.getfield 25, 3) := by decide +kernel
theorem dX11_missedIn_16 : decode cX11_missedIn 16 = .ok (.iload_n 1, 1) := by decide +kernel
theorem dX11_missedIn_17 : decode cX11_missedIn 17 = .ok (.iaload, 1) := by decide +kernel
theorem dX11_missedIn_18 : decode cX11_missedIn 18 = .ok (.iload_n 2, 1) := by decide +kernel
theorem dX11_missedIn_19 : decode cX11_missedIn 19 = .ok (.aload_n 0, 1) := by decide +kernel
theorem dX11_missedIn_20 : decode cX11_missedIn 20 = .ok (.getfield 31, 3) := by decide +kernel
theorem dX11_missedIn_23 : decode cX11_missedIn 23 = .ok (.bipush 7, 2) := by decide +kernel
theorem dX11_missedIn_25 : decode cX11_missedIn 25 = .ok (.iaload, 1) := by decide +kernel
theorem dX11_missedIn_26 : decode cX11_missedIn 26 = .ok (.imul, 1) := by decide +kernel
theorem dX11_missedIn_27 : decode cX11_missedIn 27 = .ok (.iconst 4, 1) := by decide +kernel
theorem dX11_missedIn_28 : decode cX11_missedIn 28 = .ok (.idiv, 1) := by decide +kernel
theorem dX11_missedIn_29 : decode cX11_missedIn 29 = .ok (.isub, 1) := by decide +kernel
theorem dX11_missedIn_30 : decode cX11_missedIn 30 = .ok (.istore_n 3, 1) := by decide +kernel
theorem dX11_missedIn_31 : decode cX11_missedIn 31 = .ok (.iload_n 3, 1) := by decide +kernel
theorem dX11_missedIn_32 : decode cX11_missedIn 32 = .ok (.ifCond .ge 7, 3) := by decide +kernel
theorem dX11_missedIn_35 : decode cX11_missedIn 35 = .ok (.iconst 0, 1) := by decide +kernel
theorem dX11_missedIn_36 : decode cX11_missedIn 36 = .ok (.goto 4, 3) := by decide +kernel
theorem dX11_missedIn_39 : decode cX11_missedIn 39 = .ok (.iload_n 3, 1) := by decide +kernel
theorem dX11_missedIn_40 : decode cX11_missedIn 40 = .ok (.iload_n 2, 1) := by decide +kernel
theorem dX11_missedIn_41 : decode cX11_missedIn 41 = .ok (.aload_n 0, 1) := by decide +kernel
theorem dX11_missedIn_42 : decode cX11_missedIn 42 = .ok (.getfield 31, 3) := by decide +kernel
theorem dX11_missedIn_45 : decode cX11_missedIn 45 = .ok (.bipush 8, 2) := by decide +kernel
theorem dX11_missedIn_47 : decode cX11_missedIn 47 = .ok (.iaload, 1) := by decide +kernel
theorem dX11_missedIn_48 : decode cX11_missedIn 48 = .ok (.imul, 1) := by decide +kernel
theorem dX11_missedIn_49 : decode cX11_missedIn 49 = .ok (.bipush 8, 2) := by decide +kernel
theorem dX11_missedIn_51 : decode cX11_missedIn 51 = .ok (.idiv, 1) := by decide +kernel
theorem dX11_missedIn_52 : decode cX11_missedIn 52 = .ok (.iadd, 1) := by decide +kernel
theorem dX11_missedIn_53 : decode cX11_missedIn 53 = .ok (.istore 4, 2) := by decide +kernel
theorem dX11_missedIn_55 : decode cX11_missedIn 55 = .ok (.iload 4, 2) := by decide +kernel
theorem dX11_missedIn_57 : decode cX11_missedIn 57 = .ok (.bipush 16, 2) := by decide +kernel
theorem dX11_missedIn_59 : decode cX11_missedIn 59 = .ok (.aload_n 0, 1) := by decide +kernel
theorem dX11_missedIn_60 : decode cX11_missedIn 60 = .ok (.getfield 28, 3) := by decide +kernel
theorem dX11_missedIn_63 : decode cX11_missedIn 63 = .ok (.iload_n 1, 1) := by decide +kernel
theorem dX11_missedIn_64 : decode cX11_missedIn 64 = .ok (.iaload, 1) := by decide +kernel
theorem dX11_missedIn_65 : decode cX11_missedIn 65 = .ok (.isub, 1) := by decide +kernel
theorem dX11_missedIn_66 : decode cX11_missedIn 66 = .ok (.if_icmp .le 15, 3) := by decide +kernel
theorem dX11_missedIn_69 : decode cX11_missedIn 69 = .ok (.bipush 16, 2) := by decide +kernel
theorem dX11_missedIn_71 : decode cX11_missedIn 71 = .ok (.aload_n 0, 1) := by decide +kernel
theorem dX11_missedIn_72 : decode cX11_missedIn 72 = .ok (.getfield 28, 3) := by decide +kernel
theorem dX11_missedIn_75 : decode cX11_missedIn 75 = .ok (.iload_n 1, 1) := by decide +kernel
theorem dX11_missedIn_76 : decode cX11_missedIn 76 = .ok (.iaload, 1) := by decide +kernel
theorem dX11_missedIn_77 : decode cX11_missedIn 77 = .ok (.isub, 1) := by decide +kernel
theorem dX11_missedIn_78 : decode cX11_missedIn 78 = .ok (.goto 5, 3) := by decide +kernel
theorem dX11_missedIn_81 : decode cX11_missedIn 81 = .ok (.iload 4, 2) := by decide +kernel
theorem dX11_missedIn_83 : decode cX11_missedIn 83 = .ok (.ireturn, 1) := by decide +kernel
theorem dX11_slipLoose_0 : decode cX11_slipLoose 0 = .ok (.aload_n 0, 1) := by decide +kernel
theorem dX11_slipLoose_1 : decode cX11_slipLoose 1 = .ok (.iload_n 1, 1) := by decide +kernel
theorem dX11_slipLoose_2 : decode cX11_slipLoose 2 = .ok (.iload_n 2, 1) := by decide +kernel
theorem dX11_slipLoose_3 : decode cX11_slipLoose 3 = .ok (.invokevirtual 203, 3) := by decide +kernel
theorem dX11_slipLoose_6 : decode cX11_slipLoose 6 = .ok (.istore_n 3, 1) := by decide +kernel
theorem dX11_slipLoose_7 : decode cX11_slipLoose 7 = .ok (.aload_n 0, 1) := by decide +kernel
theorem dX11_slipLoose_8 : decode cX11_slipLoose 8 = .ok (.getfield 28, 3) := by decide +kernel
theorem dX11_slipLoose_11 : decode cX11_slipLoose 11 = .ok (.iload_n 1, 1) := by decide +kernel
theorem dX11_slipLoose_12 : decode cX11_slipLoose 12 = .ok (.iaload, 1) := by decide +kernel
theorem dX11_slipLoose_13 : decode cX11_slipLoose 13 = .ok (.istore 4, 2) := by decide +kernel
theorem dX11_slipLoose_15 : decode cX11_slipLoose 15 = .ok (.iconst 0, 1) := by decide +kernel
theorem dX11_slipLoose_16 : decode cX11_slipLoose 16 = .ok (.istore 5, 2) := by decide +kernel
theorem dX11_slipLoose_18 : decode cX11_slipLoose 18 = .ok (.iload 5, 2) := by decide +kernel
theorem dX11_slipLoose_20 : decode cX11_slipLoose 20 = .ok (.bipush 21, 2) := by decide +kernel
theorem dX11_slipLoose_22 : decode cX11_slipLoose 22 = .ok (.if_icmp .ge 87, 3) := by decide +kernel
theorem dX11_slipLoose_25 : decode cX11_slipLoose 25 = .ok (.iload 5, 2) := by decide +kernel
theorem dX11_slipLoose_27 : decode cX11_slipLoose 27 = .ok (.bipush 20, 2) := by decide +kernel
theorem dX11_slipLoose_29 : decode cX11_slipLoose 29 = .ok (.if_icmp .ge 18, 3) := by decide +kernel
theorem dX11_slipLoose_32 : decode cX11_slipLoose 32 = .ok (.aload_n 0, 1) := by decide +kernel
theorem dX11_slipLoose_33 : decode cX11_slipLoose 33 = .ok (.getfield 56, 3) := by decide +kernel
theorem dX11_slipLoose_36 : decode cX11_slipLoose 36 = .ok (.iload 5, 2) := by decide +kernel
theorem dX11_slipLoose_38 : decode cX11_slipLoose 38 = .ok (.iconst 1, 1) := by decide +kernel
theorem dX11_slipLoose_39 : decode cX11_slipLoose 39 = .ok (.iadd, 1) := by decide +kernel
theorem dX11_slipLoose_40 : decode cX11_slipLoose 40 = .ok (.laload, 1) := by decide +kernel
theorem dX11_slipLoose_41 : decode cX11_slipLoose 41 = .ok (.iload_n 3, 1) := by decide +kernel
theorem dX11_slipLoose_42 : decode cX11_slipLoose 42 = .ok (.i2l, 1) := by decide +kernel
theorem dX11_slipLoose_43 : decode cX11_slipLoose 43 = .ok (.lmul, 1) := by decide +kernel
theorem dX11_slipLoose_44 : decode cX11_slipLoose 44 = .ok (.goto 4, 3) := by decide +kernel
theorem dX11_slipLoose_47 : decode cX11_slipLoose 47 = .ok (.lconst 0, 1) := by decide +kernel
theorem dX11_slipLoose_48 : decode cX11_slipLoose 48 = .ok (.lstore 6, 2) := by decide +kernel
theorem dX11_slipLoose_50 : decode cX11_slipLoose 50 = .ok (.iload 5, 2) := by decide +kernel
theorem dX11_slipLoose_52 : decode cX11_slipLoose 52 = .ok (.ifCond .le 19, 3) := by decide +kernel
theorem dX11_slipLoose_55 : decode cX11_slipLoose 55 = .ok (.aload_n 0, 1) := by decide +kernel
theorem dX11_slipLoose_56 : decode cX11_slipLoose 56 = .ok (.getfield 56, 3) := by decide +kernel
theorem dX11_slipLoose_59 : decode cX11_slipLoose 59 = .ok (.iload 5, 2) := by decide +kernel
theorem dX11_slipLoose_61 : decode cX11_slipLoose 61 = .ok (.iconst 1, 1) := by decide +kernel
theorem dX11_slipLoose_62 : decode cX11_slipLoose 62 = .ok (.isub, 1) := by decide +kernel
theorem dX11_slipLoose_63 : decode cX11_slipLoose 63 = .ok (.laload, 1) := by decide +kernel
theorem dX11_slipLoose_64 : decode cX11_slipLoose 64 = .ok (.iload 4, 2) := by decide +kernel
theorem dX11_slipLoose_66 : decode cX11_slipLoose 66 = .ok (.i2l, 1) := by decide +kernel
theorem dX11_slipLoose_67 : decode cX11_slipLoose 67 = .ok (.lmul, 1) := by decide +kernel
theorem dX11_slipLoose_68 : decode cX11_slipLoose 68 = .ok (.goto 4, 3) := by decide +kernel
theorem dX11_slipLoose_71 : decode cX11_slipLoose 71 = .ok (.lconst 0, 1) := by decide +kernel
theorem dX11_slipLoose_72 : decode cX11_slipLoose 72 = .ok (.lstore 8, 2) := by decide +kernel
theorem dX11_slipLoose_74 : decode cX11_slipLoose 74 = .ok (.aload_n 0, 1) := by decide +kernel
theorem dX11_slipLoose_75 : decode cX11_slipLoose 75 = .ok (.getfield 59, 3) := by decide +kernel
theorem dX11_slipLoose_78 : decode cX11_slipLoose 78 = .ok (.iload 5, 2) := by decide +kernel
theorem dX11_slipLoose_80 : decode cX11_slipLoose 80 = .ok (.aload_n 0, 1) := by decide +kernel
theorem dX11_slipLoose_81 : decode cX11_slipLoose 81 = .ok (.getfield 56, 3) := by decide +kernel
theorem dX11_slipLoose_84 : decode cX11_slipLoose 84 = .ok (.iload 5, 2) := by decide +kernel
theorem dX11_slipLoose_86 : decode cX11_slipLoose 86 = .ok (.laload, 1) := by decide +kernel
theorem dX11_slipLoose_87 : decode cX11_slipLoose 87 = .ok (.bipush 16, 2) := by decide +kernel
theorem dX11_slipLoose_89 : decode cX11_slipLoose 89 = .ok (.iload_n 3, 1) := by decide +kernel
theorem dX11_slipLoose_90 : decode cX11_slipLoose 90 = .ok (.isub, 1) := by decide +kernel
theorem dX11_slipLoose_91 : decode cX11_slipLoose 91 = .ok (.iload 4, 2) := by decide +kernel
theorem dX11_slipLoose_93 : decode cX11_slipLoose 93 = .ok (.isub, 1) := by decide +kernel
theorem dX11_slipLoose_94 : decode cX11_slipLoose 94 = .ok (.i2l, 1) := by decide +kernel
theorem dX11_slipLoose_95 : decode cX11_slipLoose 95 = .ok (.lmul, 1) := by decide +kernel
theorem dX11_slipLoose_96 : decode cX11_slipLoose 96 = .ok (.lload 6, 2) := by decide +kernel
theorem dX11_slipLoose_98 : decode cX11_slipLoose 98 = .ok (.ladd, 1) := by decide +kernel
theorem dX11_slipLoose_99 : decode cX11_slipLoose 99 = .ok (.lload 8, 2) := by decide +kernel
theorem dX11_slipLoose_101 : decode cX11_slipLoose 101 = .ok (.ladd, 1) := by decide +kernel
theorem dX11_slipLoose_102 : decode cX11_slipLoose 102 = .ok (.lastore, 1) := by decide +kernel
theorem dX11_slipLoose_103 : decode cX11_slipLoose 103 = .ok (.iinc 5 1, 3) := by decide +kernel
theorem dX11_slipLoose_106 : decode cX11_slipLoose 106 = .ok (.goto (-88), 3) := by decide +kernel
theorem dX11_slipLoose_109 : decode cX11_slipLoose 109 = .ok (.iconst 0, 1) := by decide +kernel
theorem dX11_slipLoose_110 : decode cX11_slipLoose 110 = .ok (.istore 5, 2) := by decide +kernel
theorem dX11_slipLoose_112 : decode cX11_slipLoose 112 = .ok (.iload 5, 2) := by decide +kernel
theorem dX11_slipLoose_114 : decode cX11_slipLoose 114 = .ok (.bipush 21, 2) := by decide +kernel
theorem dX11_slipLoose_116 : decode cX11_slipLoose 116 = .ok (.if_icmp .ge 23, 3) := by decide +kernel
theorem dX11_slipLoose_119 : decode cX11_slipLoose 119 = .ok (.aload_n 0, 1) := by decide +kernel
theorem dX11_slipLoose_120 : decode cX11_slipLoose 120 = .ok (.getfield 56, 3) := by decide +kernel
theorem dX11_slipLoose_123 : decode cX11_slipLoose 123 = .ok (.iload 5, 2) := by decide +kernel
theorem dX11_slipLoose_125 : decode cX11_slipLoose 125 = .ok (.aload_n 0, 1) := by decide +kernel
theorem dX11_slipLoose_126 : decode cX11_slipLoose 126 = .ok (.getfield 59, 3) := by decide +kernel
theorem dX11_slipLoose_129 : decode cX11_slipLoose 129 = .ok (.iload 5, 2) := by decide +kernel
theorem dX11_slipLoose_131 : decode cX11_slipLoose 131 = .ok (.laload, 1) := by decide +kernel
theorem dX11_slipLoose_132 : decode cX11_slipLoose 132 = .ok (.lastore, 1) := by decide +kernel
theorem dX11_slipLoose_133 : decode cX11_slipLoose 133 = .ok (.iinc 5 1, 3) := by decide +kernel
theorem dX11_slipLoose_136 : decode cX11_slipLoose 136 = .ok (.goto (-24), 3) := by decide +kernel
theorem dX11_slipLoose_139 : decode cX11_slipLoose 139 = .ok (.aload_n 0, 1) := by decide +kernel
theorem dX11_slipLoose_140 : decode cX11_slipLoose 140 = .ok (.dup, 1) := by decide +kernel
theorem dX11_slipLoose_141 : decode cX11_slipLoose 141 = .ok (.getfield 193, 3) := by decide +kernel
theorem dX11_slipLoose_144 : decode cX11_slipLoose 144 = .ok (.ldc2_w 151, 3) := by decide +kernel
theorem dX11_slipLoose_147 : decode cX11_slipLoose 147 = .ok (.lmul, 1) := by decide +kernel
theorem dX11_slipLoose_148 : decode cX11_slipLoose 148 = .ok (.putfield 193, 3) := by decide +kernel
theorem dX11_slipLoose_151 : decode cX11_slipLoose 151 = .ok (.return_, 1) := by decide +kernel
theorem dX11_slipsOf_0 : decode cX11_slipsOf 0 = .ok (.aload_n 0, 1) := by decide +kernel
theorem dX11_slipsOf_1 : decode cX11_slipsOf 1 = .ok (.iload_n 1, 1) := by decide +kernel
theorem dX11_slipsOf_2 : decode cX11_slipsOf 2 = .ok (.iconst 0, 1) := by decide +kernel
theorem dX11_slipsOf_3 : decode cX11_slipsOf 3 = .ok (.iconst (-1), 1) := by decide +kernel
theorem dX11_slipsOf_4 : decode cX11_slipsOf 4 = .ok (.invokevirtual 206, 3) := by decide +kernel
theorem dX11_slipsOf_7 : decode cX11_slipsOf 7 = .ok (.aload_n 0, 1) := by decide +kernel
theorem dX11_slipsOf_8 : decode cX11_slipsOf 8 = .ok (.getfield 56, 3) := by decide +kernel
theorem dX11_slipsOf_11 : decode cX11_slipsOf 11 = .ok (.iload_n 2, 1) := by decide +kernel
theorem dX11_slipsOf_12 : decode cX11_slipsOf 12 = .ok (.bipush 10, 2) := by decide +kernel
theorem dX11_slipsOf_14 : decode cX11_slipsOf 14 = .ok (.iadd, 1) := by decide +kernel
theorem dX11_slipsOf_15 : decode cX11_slipsOf 15 = .ok (.laload, 1) := by decide +kernel
theorem dX11_slipsOf_16 : decode cX11_slipsOf 16 = .ok (.aload_n 0, 1) := by decide +kernel
theorem dX11_slipsOf_17 : decode cX11_slipsOf 17 = .ok (.getfield 193, 3) := by decide +kernel
theorem dX11_slipsOf_20 : decode cX11_slipsOf 20 = .ok (.iload_n 3, 1) := by decide +kernel
theorem dX11_slipsOf_21 : decode cX11_slipsOf 21 = .ok (.invokestatic 172, 3) := by decide +kernel
theorem dX11_slipsOf_24 : decode cX11_slipsOf 24 = .ok (.lreturn, 1) := by decide +kernel
theorem dX11_slips_0 : decode cX11_slips 0 = .ok (.aload_n 0, 1) := by decide +kernel
theorem dX11_slips_1 : decode cX11_slips 1 = .ok (.iload_n 1, 1) := by decide +kernel
theorem dX11_slips_2 : decode cX11_slips 2 = .ok (.invokevirtual 124, 3) := by decide +kernel
theorem dX11_slips_5 : decode cX11_slips 5 = .ok (.ifCond .eq 33, 3) := by decide +kernel
theorem dX11_slips_8 : decode cX11_slips 8 = .ok (.iload_n 2, 1) := by decide +kernel
theorem dX11_slips_9 : decode cX11_slips 9 = .ok (.bipush (-10), 2) := by decide +kernel
theorem dX11_slips_11 : decode cX11_slips 11 = .ok (.bipush 10, 2) := by decide +kernel
theorem dX11_slips_13 : decode cX11_slips 13 = .ok (.invokestatic 89, 3) := by decide +kernel
theorem dX11_slips_16 : decode cX11_slips 16 = .ok (.ifCond .eq 22, 3) := by decide +kernel
theorem dX11_slips_19 : decode cX11_slips 19 = .ok (.iload_n 3, 1) := by decide +kernel
theorem dX11_slips_20 : decode cX11_slips 20 = .ok (.iconst 0, 1) := by decide +kernel
theorem dX11_slips_21 : decode cX11_slips 21 = .ok (.iconst 1, 1) := by decide +kernel
theorem dX11_slips_22 : decode cX11_slips 22 = .ok (.invokestatic 89, 3) := by decide +kernel
theorem dX11_slips_25 : decode cX11_slips 25 = .ok (.ifCond .eq 13, 3) := by decide +kernel
theorem dX11_slips_28 : decode cX11_slips 28 = .ok (.aload_n 0, 1) := by decide +kernel
theorem dX11_slips_29 : decode cX11_slips 29 = .ok (.iload_n 1, 1) := by decide +kernel
theorem dX11_slips_30 : decode cX11_slips 30 = .ok (.iload_n 2, 1) := by decide +kernel
theorem dX11_slips_31 : decode cX11_slips 31 = .ok (.iload_n 3, 1) := by decide +kernel
theorem dX11_slips_32 : decode cX11_slips 32 = .ok (.invokevirtual 210, 3) := by decide +kernel
theorem dX11_slips_35 : decode cX11_slips 35 = .ok (.goto 8, 3) := by decide +kernel
theorem dX11_slips_38 : decode cX11_slips 38 = .ok (.bipush (-2), 2) := by decide +kernel
theorem dX11_slips_40 : decode cX11_slips 40 = .ok (.invokestatic 168, 3) := by decide +kernel
theorem dX11_slips_43 : decode cX11_slips 43 = .ok (.lreturn, 1) := by decide +kernel
theorem dX11_isSome_0 : decode cX11_isSome 0 = .ok (.aload_n 0, 1) := by decide +kernel
theorem dX11_isSome_1 : decode cX11_isSome 1 = .ok (.invokevirtual 121, 3) := by decide +kernel
theorem dX11_isSome_4 : decode cX11_isSome 4 = .ok (.iload_n 1, 1) := by decide +kernel
theorem dX11_isSome_5 : decode cX11_isSome 5 = .ok (.iconst 0, 1) := by decide +kernel
theorem dX11_isSome_6 : decode cX11_isSome 6 = .ok (.bipush 63, 2) := by decide +kernel
theorem dX11_isSome_8 : decode cX11_isSome 8 = .ok (.invokestatic 89, 3) := by decide +kernel
theorem dX11_isSome_11 : decode cX11_isSome 11 = .ok (.ifCond .eq 24, 3) := by decide +kernel
theorem dX11_isSome_14 : decode cX11_isSome 14 = .ok (.iload_n 1, 1) := by decide +kernel
theorem dX11_isSome_15 : decode cX11_isSome 15 = .ok (.iconst 1, 1) := by decide +kernel
theorem dX11_isSome_16 : decode cX11_isSome 16 = .ok (.aload_n 0, 1) := by decide +kernel
theorem dX11_isSome_17 : decode cX11_isSome 17 = .ok (.getfield 100, 3) := by decide +kernel
theorem dX11_isSome_20 : decode cX11_isSome 20 = .ok (.ishl, 1) := by decide +kernel
theorem dX11_isSome_21 : decode cX11_isSome 21 = .ok (.iconst 1, 1) := by decide +kernel
theorem dX11_isSome_22 : decode cX11_isSome 22 = .ok (.isub, 1) := by decide +kernel
theorem dX11_isSome_23 : decode cX11_isSome 23 = .ok (.iand, 1) := by decide +kernel
theorem dX11_isSome_24 : decode cX11_isSome 24 = .ok (.invokestatic 213, 3) := by decide +kernel
theorem dX11_isSome_27 : decode cX11_isSome 27 = .ok (.iconst 4, 1) := by decide +kernel
theorem dX11_isSome_28 : decode cX11_isSome 28 = .ok (.if_icmp .ge 7, 3) := by decide +kernel
theorem dX11_isSome_31 : decode cX11_isSome 31 = .ok (.iconst 1, 1) := by decide +kernel
theorem dX11_isSome_32 : decode cX11_isSome 32 = .ok (.goto 4, 3) := by decide +kernel
theorem dX11_isSome_35 : decode cX11_isSome 35 = .ok (.iconst 0, 1) := by decide +kernel
theorem dX11_isSome_36 : decode cX11_isSome 36 = .ok (.ireturn, 1) := by decide +kernel
theorem dX11_safeBy_0 : decode cX11_safeBy 0 = .ok (.aload_n 0, 1) := by decide +kernel
theorem dX11_safeBy_1 : decode cX11_safeBy 1 = .ok (.aload_n 0, 1) := by decide +kernel
theorem dX11_safeBy_2 : decode cX11_safeBy 2 = .ok (.getfield 97, 3) := by decide +kernel
theorem dX11_safeBy_5 : decode cX11_safeBy 5 = .ok (.iconst 1, 1) := by decide +kernel
theorem dX11_safeBy_6 : decode cX11_safeBy 6 = .ok (.isub, 1) := by decide +kernel
theorem dX11_safeBy_7 : decode cX11_safeBy 7 = .ok (.iload_n 1, 1) := by decide +kernel
theorem dX11_safeBy_8 : decode cX11_safeBy 8 = .ok (.iconst (-1), 1) := by decide +kernel
theorem dX11_safeBy_9 : decode cX11_safeBy 9 = .ok (.invokevirtual 206, 3) := by decide +kernel
theorem dX11_safeBy_12 : decode cX11_safeBy 12 = .ok (.aload_n 0, 1) := by decide +kernel
theorem dX11_safeBy_13 : decode cX11_safeBy 13 = .ok (.getfield 56, 3) := by decide +kernel
theorem dX11_safeBy_16 : decode cX11_safeBy 16 = .ok (.bipush 10, 2) := by decide +kernel
theorem dX11_safeBy_18 : decode cX11_safeBy 18 = .ok (.laload, 1) := by decide +kernel
theorem dX11_safeBy_19 : decode cX11_safeBy 19 = .ok (.lreturn, 1) := by decide +kernel
theorem dX11_safeOf_0 : decode cX11_safeOf 0 = .ok (.aload_n 0, 1) := by decide +kernel
theorem dX11_safeOf_1 : decode cX11_safeOf 1 = .ok (.getfield 97, 3) := by decide +kernel
theorem dX11_safeOf_4 : decode cX11_safeOf 4 = .ok (.ifCond .ne 9, 3) := by decide +kernel
theorem dX11_safeOf_7 : decode cX11_safeOf 7 = .ok (.bipush (-3), 2) := by decide +kernel
theorem dX11_safeOf_9 : decode cX11_safeOf 9 = .ok (.invokestatic 168, 3) := by decide +kernel
theorem dX11_safeOf_12 : decode cX11_safeOf 12 = .ok (.lreturn, 1) := by decide +kernel
theorem dX11_safeOf_13 : decode cX11_safeOf 13 = .ok (.aload_n 0, 1) := by decide +kernel
theorem dX11_safeOf_14 : decode cX11_safeOf 14 = .ok (.iload_n 1, 1) := by decide +kernel
theorem dX11_safeOf_15 : decode cX11_safeOf 15 = .ok (.invokevirtual 216, 3) := by decide +kernel
theorem dX11_safeOf_18 : decode cX11_safeOf 18 = .ok (.lstore_n 3, 1) := by decide +kernel
theorem dX11_safeOf_19 : decode cX11_safeOf 19 = .ok (.lload_n 3, 1) := by decide +kernel
theorem dX11_safeOf_20 : decode cX11_safeOf 20 = .ok (.aload_n 0, 1) := by decide +kernel
theorem dX11_safeOf_21 : decode cX11_safeOf 21 = .ok (.getfield 193, 3) := by decide +kernel
theorem dX11_safeOf_24 : decode cX11_safeOf 24 = .ok (.iload_n 2, 1) := by decide +kernel
theorem dX11_safeOf_25 : decode cX11_safeOf 25 = .ok (.invokestatic 172, 3) := by decide +kernel
theorem dX11_safeOf_28 : decode cX11_safeOf 28 = .ok (.lreturn, 1) := by decide +kernel
theorem dX11_safe_0 : decode cX11_safe 0 = .ok (.aload_n 0, 1) := by decide +kernel
theorem dX11_safe_1 : decode cX11_safe 1 = .ok (.iload_n 1, 1) := by decide +kernel
theorem dX11_safe_2 : decode cX11_safe 2 = .ok (.invokevirtual 219, 3) := by decide +kernel
theorem dX11_safe_5 : decode cX11_safe 5 = .ok (.ifCond .eq 21, 3) := by decide +kernel
theorem dX11_safe_8 : decode cX11_safe 8 = .ok (.iload_n 2, 1) := by decide +kernel
theorem dX11_safe_9 : decode cX11_safe 9 = .ok (.iconst 0, 1) := by decide +kernel
theorem dX11_safe_10 : decode cX11_safe 10 = .ok (.iconst 1, 1) := by decide +kernel
theorem dX11_safe_11 : decode cX11_safe 11 = .ok (.invokestatic 89, 3) := by decide +kernel
theorem dX11_safe_14 : decode cX11_safe 14 = .ok (.ifCond .eq 12, 3) := by decide +kernel
theorem dX11_safe_17 : decode cX11_safe 17 = .ok (.aload_n 0, 1) := by decide +kernel
theorem dX11_safe_18 : decode cX11_safe 18 = .ok (.iload_n 1, 1) := by decide +kernel
theorem dX11_safe_19 : decode cX11_safe 19 = .ok (.iload_n 2, 1) := by decide +kernel
theorem dX11_safe_20 : decode cX11_safe 20 = .ok (.invokevirtual 222, 3) := by decide +kernel
theorem dX11_safe_23 : decode cX11_safe 23 = .ok (.goto 8, 3) := by decide +kernel
theorem dX11_safe_26 : decode cX11_safe 26 = .ok (.bipush (-2), 2) := by decide +kernel
theorem dX11_safe_28 : decode cX11_safe 28 = .ok (.invokestatic 168, 3) := by decide +kernel
theorem dX11_safe_31 : decode cX11_safe 31 = .ok (.lreturn, 1) := by decide +kernel
theorem dX11_writeOf_0 : decode cX11_writeOf 0 = .ok (.aload_n 0, 1) := by decide +kernel
theorem dX11_writeOf_1 : decode cX11_writeOf 1 = .ok (.getfield 97, 3) := by decide +kernel
theorem dX11_writeOf_4 : decode cX11_writeOf 4 = .ok (.ifCond .ne 6, 3) := by decide +kernel
theorem dX11_writeOf_7 : decode cX11_writeOf 7 = .ok (.bipush (-3), 2) := by decide +kernel
theorem dX11_writeOf_9 : decode cX11_writeOf 9 = .ok (.ireturn, 1) := by decide +kernel
theorem dX11_writeOf_10 : decode cX11_writeOf 10 = .ok (.iconst (-1), 1) := by decide +kernel
theorem dX11_writeOf_11 : decode cX11_writeOf 11 = .ok (.istore_n 2, 1) := by decide +kernel
theorem dX11_writeOf_12 : decode cX11_writeOf 12 = .ok (.lconst 0, 1) := by decide +kernel
theorem dX11_writeOf_13 : decode cX11_writeOf 13 = .ok (.lstore_n 3, 1) := by decide +kernel
theorem dX11_writeOf_14 : decode cX11_writeOf 14 = .ok (.iconst 0, 1) := by decide +kernel
theorem dX11_writeOf_15 : decode cX11_writeOf 15 = .ok (.istore 5, 2) := by decide +kernel
theorem dX11_writeOf_17 : decode cX11_writeOf 17 = .ok (.iload 5, 2) := by decide +kernel
theorem dX11_writeOf_19 : decode cX11_writeOf 19 = .ok (.iconst 1, 1) := by decide +kernel
theorem dX11_writeOf_20 : decode cX11_writeOf 20 = .ok (.aload_n 0, 1) := by decide +kernel
theorem dX11_writeOf_21 : decode cX11_writeOf 21 = .ok (.getfield 100, 3) := by decide +kernel
theorem dX11_writeOf_24 : decode cX11_writeOf 24 = .ok (.ishl, 1) := by decide +kernel
theorem dX11_writeOf_25 : decode cX11_writeOf 25 = .ok (.if_icmp .ge 71, 3) := by decide +kernel
theorem dX11_writeOf_28 : decode cX11_writeOf 28 = .ok (.iload 5, 2) := by decide +kernel
theorem dX11_writeOf_30 : decode cX11_writeOf 30 = .ok (.invokestatic 213, 3) := by decide +kernel
theorem dX11_writeOf_33 : decode cX11_writeOf 33 = .ok (.iload_n 1, 1) := by decide +kernel
theorem dX11_writeOf_34 : decode cX11_writeOf 34 = .ok (.if_icmp .ne 12, 3) := by decide +kernel
theorem dX11_writeOf_37 : decode cX11_writeOf 37 = .ok (.aload_n 0, 1) := by decide +kernel
theorem dX11_writeOf_38 : decode cX11_writeOf 38 = .ok (.iload 5, 2) := by decide +kernel
theorem dX11_writeOf_40 : decode cX11_writeOf 40 = .ok (.invokevirtual 216, 3) := by decide +kernel
theorem dX11_writeOf_43 : decode cX11_writeOf 43 = .ok (.goto 6, 3) := by decide +kernel
theorem dX11_writeOf_46 : decode cX11_writeOf 46 = .ok (.ldc2_w 225, 3) := by decide +kernel
theorem dX11_writeOf_49 : decode cX11_writeOf 49 = .ok (.lstore 6, 2) := by decide +kernel
theorem dX11_writeOf_51 : decode cX11_writeOf 51 = .ok (.lload 6, 2) := by decide +kernel
theorem dX11_writeOf_53 : decode cX11_writeOf 53 = .ok (.lconst 0, 1) := by decide +kernel
theorem dX11_writeOf_54 : decode cX11_writeOf 54 = .ok (.lcmp, 1) := by decide +kernel
theorem dX11_writeOf_55 : decode cX11_writeOf 55 = .ok (.ifCond .lt 20, 3) := by decide +kernel
theorem dX11_writeOf_58 : decode cX11_writeOf 58 = .ok (.iload_n 2, 1) := by decide +kernel
theorem dX11_writeOf_59 : decode cX11_writeOf 59 = .ok (.iconst (-1), 1) := by decide +kernel
theorem dX11_writeOf_60 : decode cX11_writeOf 60 = .ok (.if_icmp .eq 10, 3) := by decide +kernel
theorem dX11_writeOf_63 : decode cX11_writeOf 63 = .ok (.lload 6, 2) := by decide +kernel
theorem dX11_writeOf_65 : decode cX11_writeOf 65 = .ok (.lload_n 3, 1) := by decide +kernel
theorem dX11_writeOf_66 : decode cX11_writeOf 66 = .ok (.lcmp, 1) := by decide +kernel
theorem dX11_writeOf_67 : decode cX11_writeOf 67 = .ok (.ifCond .le 8, 3) := by decide +kernel
theorem dX11_writeOf_70 : decode cX11_writeOf 70 = .ok (.iload 5, 2) := by decide +kernel
theorem dX11_writeOf_72 : decode cX11_writeOf 72 = .ok (.goto 4, 3) := by decide +kernel
theorem dX11_writeOf_75 : decode cX11_writeOf 75 = .ok (.iload_n 2, 1) := by decide +kernel
theorem dX11_writeOf_76 : decode cX11_writeOf 76 = .ok (.istore_n 2, 1) := by decide +kernel
theorem dX11_writeOf_77 : decode cX11_writeOf 77 = .ok (.iload_n 2, 1) := by decide +kernel
theorem dX11_writeOf_78 : decode cX11_writeOf 78 = .ok (.iload 5, 2) := by decide +kernel
theorem dX11_writeOf_80 : decode cX11_writeOf 80 = .ok (.if_icmp .ne 8, 3) := by decide +kernel
theorem dX11_writeOf_83 : decode cX11_writeOf 83 = .ok (.lload 6, 2) := by decide +kernel
theorem dX11_writeOf_85 : decode cX11_writeOf 85 = .ok (.goto 4, 3) := by decide +kernel
theorem dX11_writeOf_88 : decode cX11_writeOf 88 = .ok (.lload_n 3, 1) := by decide +kernel
theorem dX11_writeOf_89 : decode cX11_writeOf 89 = .ok (.lstore_n 3, 1) := by decide +kernel
theorem dX11_writeOf_90 : decode cX11_writeOf 90 = .ok (.iinc 5 1, 3) := by decide +kernel
theorem dX11_writeOf_93 : decode cX11_writeOf 93 = .ok (.goto (-76), 3) := by decide +kernel
theorem dX11_writeOf_96 : decode cX11_writeOf 96 = .ok (.iload_n 2, 1) := by decide +kernel
theorem dX11_writeOf_97 : decode cX11_writeOf 97 = .ok (.ireturn, 1) := by decide +kernel
theorem dX11_cuesNow_0 : decode cX11_cuesNow 0 = .ok (.aload_n 0, 1) := by decide +kernel
theorem dX11_cuesNow_1 : decode cX11_cuesNow 1 = .ok (.invokevirtual 121, 3) := by decide +kernel
theorem dX11_cuesNow_4 : decode cX11_cuesNow 4 = .ok (.aload_n 0, 1) := by decide +kernel
theorem dX11_cuesNow_5 : decode cX11_cuesNow 5 = .ok (.getfield 100, 3) := by decide +kernel
theorem dX11_cuesNow_8 : decode cX11_cuesNow 8 = .ok (.ireturn, 1) := by decide +kernel
theorem dX11_write_0 : decode cX11_write 0 = .ok (.aload_n 0, 1) := by decide +kernel
theorem dX11_write_1 : decode cX11_write 1 = .ok (.invokevirtual 227, 3) := by decide +kernel
theorem dX11_write_4 : decode cX11_write 4 = .ok (.istore_n 2, 1) := by decide +kernel
theorem dX11_write_5 : decode cX11_write 5 = .ok (.iload_n 1, 1) := by decide +kernel
theorem dX11_write_6 : decode cX11_write 6 = .ok (.iconst 0, 1) := by decide +kernel
theorem dX11_write_7 : decode cX11_write 7 = .ok (.iload_n 2, 1) := by decide +kernel
theorem dX11_write_8 : decode cX11_write 8 = .ok (.iconst 3, 1) := by decide +kernel
theorem dX11_write_9 : decode cX11_write 9 = .ok (.if_icmp .ge 7, 3) := by decide +kernel
theorem dX11_write_12 : decode cX11_write 12 = .ok (.iload_n 2, 1) := by decide +kernel
theorem dX11_write_13 : decode cX11_write 13 = .ok (.goto 4, 3) := by decide +kernel
theorem dX11_write_16 : decode cX11_write 16 = .ok (.iconst 3, 1) := by decide +kernel
theorem dX11_write_17 : decode cX11_write 17 = .ok (.invokestatic 89, 3) := by decide +kernel
theorem dX11_write_20 : decode cX11_write 20 = .ok (.ifCond .eq 11, 3) := by decide +kernel
theorem dX11_write_23 : decode cX11_write 23 = .ok (.aload_n 0, 1) := by decide +kernel
theorem dX11_write_24 : decode cX11_write 24 = .ok (.iload_n 1, 1) := by decide +kernel
theorem dX11_write_25 : decode cX11_write 25 = .ok (.invokevirtual 230, 3) := by decide +kernel
theorem dX11_write_28 : decode cX11_write 28 = .ok (.goto 5, 3) := by decide +kernel
theorem dX11_write_31 : decode cX11_write 31 = .ok (.bipush (-2), 2) := by decide +kernel
theorem dX11_write_33 : decode cX11_write 33 = .ok (.ireturn, 1) := by decide +kernel
theorem dX11_fewOf_0 : decode cX11_fewOf 0 = .ok (.aload_n 0, 1) := by decide +kernel
theorem dX11_fewOf_1 : decode cX11_fewOf 1 = .ok (.invokevirtual 121, 3) := by decide +kernel
theorem dX11_fewOf_4 : decode cX11_fewOf 4 = .ok (.aload_n 0, 1) := by decide +kernel
theorem dX11_fewOf_5 : decode cX11_fewOf 5 = .ok (.getfield 97, 3) := by decide +kernel
theorem dX11_fewOf_8 : decode cX11_fewOf 8 = .ok (.ifCond .ne 6, 3) := by decide +kernel
theorem dX11_fewOf_11 : decode cX11_fewOf 11 = .ok (.bipush (-3), 2) := by decide +kernel
theorem dX11_fewOf_13 : decode cX11_fewOf 13 = .ok (.ireturn, 1) := by decide +kernel
theorem dX11_fewOf_14 : decode cX11_fewOf 14 = .ok (.iconst (-1), 1) := by decide +kernel
theorem dX11_fewOf_15 : decode cX11_fewOf 15 = .ok (.istore_n 2, 1) := by decide +kernel
theorem dX11_fewOf_16 : decode cX11_fewOf 16 = .ok (.iconst 0, 1) := by decide +kernel
theorem dX11_fewOf_17 : decode cX11_fewOf 17 = .ok (.istore_n 3, 1) := by decide +kernel
theorem dX11_fewOf_18 : decode cX11_fewOf 18 = .ok (.iload_n 3, 1) := by decide +kernel
theorem dX11_fewOf_19 : decode cX11_fewOf 19 = .ok (.iconst 1, 1) := by decide +kernel
theorem dX11_fewOf_20 : decode cX11_fewOf 20 = .ok (.aload_n 0, 1) := by decide +kernel
theorem dX11_fewOf_21 : decode cX11_fewOf 21 = .ok (.getfield 100, 3) := by decide +kernel
theorem dX11_fewOf_24 : decode cX11_fewOf 24 = .ok (.ishl, 1) := by decide +kernel
theorem dX11_fewOf_25 : decode cX11_fewOf 25 = .ok (.if_icmp .ge 63, 3) := by decide +kernel
theorem dX11_fewOf_28 : decode cX11_fewOf 28 = .ok (.iload_n 3, 1) := by decide +kernel
theorem dX11_fewOf_29 : decode cX11_fewOf 29 = .ok (.invokestatic 213, 3) := by decide +kernel
theorem dX11_fewOf_32 : decode cX11_fewOf 32 = .ok (.iconst 4, 1) := by decide +kernel
theorem dX11_fewOf_33 : decode cX11_fewOf 33 = .ok (.if_icmp .ge 49, 3) := by decide +kernel
theorem dX11_fewOf_36 : decode cX11_fewOf 36 = .ok (.iload_n 2, 1) := by decide +kernel
theorem dX11_fewOf_37 : decode cX11_fewOf 37 = .ok (.iconst (-1), 1) := by decide +kernel
theorem dX11_fewOf_38 : decode cX11_fewOf 38 = .ok (.if_icmp .eq 14, 3) := by decide +kernel
theorem dX11_fewOf_41 : decode cX11_fewOf 41 = .ok (.iload_n 3, 1) := by decide +kernel
theorem dX11_fewOf_42 : decode cX11_fewOf 42 = .ok (.invokestatic 213, 3) := by decide +kernel
theorem dX11_fewOf_45 : decode cX11_fewOf 45 = .ok (.iload_n 2, 1) := by decide +kernel
theorem dX11_fewOf_46 : decode cX11_fewOf 46 = .ok (.invokestatic 213, 3) := by decide +kernel
theorem dX11_fewOf_49 : decode cX11_fewOf 49 = .ok (.if_icmp .ge 33, 3) := by decide +kernel
theorem dX11_fewOf_52 : decode cX11_fewOf 52 = .ok (.aload_n 0, 1) := by decide +kernel
theorem dX11_fewOf_53 : decode cX11_fewOf 53 = .ok (.iload_n 3, 1) := by decide +kernel
theorem dX11_fewOf_54 : decode cX11_fewOf 54 = .ok (.invokevirtual 216, 3) := by decide +kernel
theorem dX11_fewOf_57 : decode cX11_fewOf 57 = .ok (.lstore 4, 2) := by decide +kernel
theorem dX11_fewOf_59 : decode cX11_fewOf 59 = .ok (.ldc2_w 151, 3) := by decide +kernel
theorem dX11_fewOf_62 : decode cX11_fewOf 62 = .ok (.lload 4, 2) := by decide +kernel
theorem dX11_fewOf_64 : decode cX11_fewOf 64 = .ok (.lmul, 1) := by decide +kernel
theorem dX11_fewOf_65 : decode cX11_fewOf 65 = .ok (.iload_n 1, 1) := by decide +kernel
theorem dX11_fewOf_66 : decode cX11_fewOf 66 = .ok (.i2l, 1) := by decide +kernel
theorem dX11_fewOf_67 : decode cX11_fewOf 67 = .ok (.aload_n 0, 1) := by decide +kernel
theorem dX11_fewOf_68 : decode cX11_fewOf 68 = .ok (.getfield 193, 3) := by decide +kernel
theorem dX11_fewOf_71 : decode cX11_fewOf 71 = .ok (.lmul, 1) := by decide +kernel
theorem dX11_fewOf_72 : decode cX11_fewOf 72 = .ok (.lcmp, 1) := by decide +kernel
theorem dX11_fewOf_73 : decode cX11_fewOf 73 = .ok (.ifCond .lt 7, 3) := by decide +kernel
theorem dX11_fewOf_76 : decode cX11_fewOf 76 = .ok (.iload_n 3, 1) := by decide +kernel
theorem dX11_fewOf_77 : decode cX11_fewOf 77 = .ok (.goto 4, 3) := by decide +kernel
theorem dX11_fewOf_80 : decode cX11_fewOf 80 = .ok (.iload_n 2, 1) := by decide +kernel
theorem dX11_fewOf_81 : decode cX11_fewOf 81 = .ok (.istore_n 2, 1) := by decide +kernel
theorem dX11_fewOf_82 : decode cX11_fewOf 82 = .ok (.iinc 3 1, 3) := by decide +kernel
theorem dX11_fewOf_85 : decode cX11_fewOf 85 = .ok (.goto (-67), 3) := by decide +kernel
theorem dX11_fewOf_88 : decode cX11_fewOf 88 = .ok (.iload_n 2, 1) := by decide +kernel
theorem dX11_fewOf_89 : decode cX11_fewOf 89 = .ok (.ireturn, 1) := by decide +kernel
theorem dX11_few_0 : decode cX11_few 0 = .ok (.iload_n 1, 1) := by decide +kernel
theorem dX11_few_1 : decode cX11_few 1 = .ok (.iconst 0, 1) := by decide +kernel
theorem dX11_few_2 : decode cX11_few 2 = .ok (.bipush 16, 2) := by decide +kernel
theorem dX11_few_4 : decode cX11_few 4 = .ok (.invokestatic 89, 3) := by decide +kernel
theorem dX11_few_7 : decode cX11_few 7 = .ok (.ifCond .eq 11, 3) := by decide +kernel
theorem dX11_few_10 : decode cX11_few 10 = .ok (.aload_n 0, 1) := by decide +kernel
theorem dX11_few_11 : decode cX11_few 11 = .ok (.iload_n 1, 1) := by decide +kernel
theorem dX11_few_12 : decode cX11_few 12 = .ok (.invokevirtual 233, 3) := by decide +kernel
theorem dX11_few_15 : decode cX11_few 15 = .ok (.goto 5, 3) := by decide +kernel
theorem dX11_few_18 : decode cX11_few 18 = .ok (.bipush (-2), 2) := by decide +kernel
theorem dX11_few_20 : decode cX11_few 20 = .ok (.ireturn, 1) := by decide +kernel
theorem dX11_anewOf_0 : decode cX11_anewOf 0 = .ok (.iconst 0, 1) := by decide +kernel
theorem dX11_anewOf_1 : decode cX11_anewOf 1 = .ok (.istore_n 2, 1) := by decide +kernel
theorem dX11_anewOf_2 : decode cX11_anewOf 2 = .ok (.iconst 0, 1) := by decide +kernel
theorem dX11_anewOf_3 : decode cX11_anewOf 3 = .ok (.istore_n 3, 1) := by decide +kernel
theorem dX11_anewOf_4 : decode cX11_anewOf 4 = .ok (.iload_n 3, 1) := by decide +kernel
theorem dX11_anewOf_5 : decode cX11_anewOf 5 = .ok (.aload_n 0, 1) := by decide +kernel
theorem dX11_anewOf_6 : decode cX11_anewOf 6 = .ok (.getfield 100, 3) := by decide +kernel
theorem dX11_anewOf_9 : decode cX11_anewOf 9 = .ok (.if_icmp .ge 42, 3) := by decide +kernel
theorem dX11_anewOf_12 : decode cX11_anewOf 12 = .ok (.iload_n 2, 1) := by decide +kernel
theorem dX11_anewOf_13 : decode cX11_anewOf 13 = .ok (.aload_n 0, 1) := by decide +kernel
theorem dX11_anewOf_14 : decode cX11_anewOf 14 = .ok (.getfield 16, 3) := by decide +kernel
theorem dX11_anewOf_17 : decode cX11_anewOf 17 = .ok (.aload_n 0, 1) := by decide +kernel
theorem dX11_anewOf_18 : decode cX11_anewOf 18 = .ok (.getfield 22, 3) := by decide +kernel
theorem dX11_anewOf_21 : decode cX11_anewOf 21 = .ok (.iload_n 3, 1) := by decide +kernel
theorem dX11_anewOf_22 : decode cX11_anewOf 22 = .ok (.iaload, 1) := by decide +kernel
theorem dX11_anewOf_23 : decode cX11_anewOf 23 = .ok (.iaload, 1) := by decide +kernel
theorem dX11_anewOf_24 : decode cX11_anewOf 24 = .ok (.aload_n 0, 1) := by decide +kernel
theorem dX11_anewOf_25 : decode cX11_anewOf 25 = .ok (.getfield 16, 3) := by decide +kernel
theorem dX11_anewOf_28 : decode cX11_anewOf 28 = .ok (.aload_n 0, 1) := by decide +kernel
theorem dX11_anewOf_29 : decode cX11_anewOf 29 = .ok (.getfield 22, 3) := by decide +kernel
theorem dX11_anewOf_32 : decode cX11_anewOf 32 = .ok (.iload_n 1, 1) := by decide +kernel
theorem dX11_anewOf_33 : decode cX11_anewOf 33 = .ok (.iaload, 1) := by decide +kernel
theorem dX11_anewOf_34 : decode cX11_anewOf 34 = .ok (.iaload, 1) := by decide +kernel
theorem dX11_anewOf_35 : decode cX11_anewOf 35 = .ok (.if_icmp .ne 7, 3) := by decide +kernel
theorem dX11_anewOf_38 : decode cX11_anewOf 38 = .ok (.iconst 1, 1) := by decide +kernel
theorem dX11_anewOf_39 : decode cX11_anewOf 39 = .ok (.goto 4, 3) := by decide +kernel
theorem dX11_anewOf_42 : decode cX11_anewOf 42 = .ok (.iconst 0, 1) := by decide +kernel
theorem dX11_anewOf_43 : decode cX11_anewOf 43 = .ok (.iadd, 1) := by decide +kernel
theorem dX11_anewOf_44 : decode cX11_anewOf 44 = .ok (.istore_n 2, 1) := by decide +kernel
theorem dX11_anewOf_45 : decode cX11_anewOf 45 = .ok (.iinc 3 1, 3) := by decide +kernel
theorem dX11_anewOf_48 : decode cX11_anewOf 48 = .ok (.goto (-44), 3) := by decide +kernel
theorem dX11_anewOf_51 : decode cX11_anewOf 51 = .ok (.aload_n 0, 1) := by decide +kernel
theorem dX11_anewOf_52 : decode cX11_anewOf 52 = .ok (.getfield 31, 3) := by decide +kernel
theorem dX11_anewOf_55 : decode cX11_anewOf 55 = .ok (.iconst 0, 1) := by decide +kernel
theorem dX11_anewOf_56 : decode cX11_anewOf 56 = .ok (.iaload, 1) := by decide +kernel
theorem dX11_anewOf_57 : decode cX11_anewOf 57 = .ok (.iload_n 2, 1) := by decide +kernel
theorem dX11_anewOf_58 : decode cX11_anewOf 58 = .ok (.imul, 1) := by decide +kernel
theorem dX11_anewOf_59 : decode cX11_anewOf 59 = .ok (.aload_n 0, 1) := by decide +kernel
theorem dX11_anewOf_60 : decode cX11_anewOf 60 = .ok (.getfield 31, 3) := by decide +kernel
theorem dX11_anewOf_63 : decode cX11_anewOf 63 = .ok (.iconst 1, 1) := by decide +kernel
theorem dX11_anewOf_64 : decode cX11_anewOf 64 = .ok (.iaload, 1) := by decide +kernel
theorem dX11_anewOf_65 : decode cX11_anewOf 65 = .ok (.aload_n 0, 1) := by decide +kernel
theorem dX11_anewOf_66 : decode cX11_anewOf 66 = .ok (.getfield 100, 3) := by decide +kernel
theorem dX11_anewOf_69 : decode cX11_anewOf 69 = .ok (.iload_n 2, 1) := by decide +kernel
theorem dX11_anewOf_70 : decode cX11_anewOf 70 = .ok (.isub, 1) := by decide +kernel
theorem dX11_anewOf_71 : decode cX11_anewOf 71 = .ok (.imul, 1) := by decide +kernel
theorem dX11_anewOf_72 : decode cX11_anewOf 72 = .ok (.iadd, 1) := by decide +kernel
theorem dX11_anewOf_73 : decode cX11_anewOf 73 = .ok (.i2l, 1) := by decide +kernel
theorem dX11_anewOf_74 : decode cX11_anewOf 74 = .ok (.lstore_n 3, 1) := by decide +kernel
theorem dX11_anewOf_75 : decode cX11_anewOf 75 = .ok (.aload_n 0, 1) := by decide +kernel
theorem dX11_anewOf_76 : decode cX11_anewOf 76 = .ok (.aload_n 0, 1) := by decide +kernel
theorem dX11_anewOf_77 : decode cX11_anewOf 77 = .ok (.getfield 22, 3) := by decide +kernel
theorem dX11_anewOf_80 : decode cX11_anewOf 80 = .ok (.iload_n 1, 1) := by decide +kernel
theorem dX11_anewOf_81 : decode cX11_anewOf 81 = .ok (.iaload, 1) := by decide +kernel
theorem dX11_anewOf_82 : decode cX11_anewOf 82 = .ok (.iconst 0, 1) := by decide +kernel
theorem dX11_anewOf_83 : decode cX11_anewOf 83 = .ok (.iconst (-1), 1) := by decide +kernel
theorem dX11_anewOf_84 : decode cX11_anewOf 84 = .ok (.invokevirtual 206, 3) := by decide +kernel
theorem dX11_anewOf_87 : decode cX11_anewOf 87 = .ok (.lload_n 3, 1) := by decide +kernel
theorem dX11_anewOf_88 : decode cX11_anewOf 88 = .ok (.lconst 0, 1) := by decide +kernel
theorem dX11_anewOf_89 : decode cX11_anewOf 89 = .ok (.lcmp, 1) := by decide +kernel
theorem dX11_anewOf_90 : decode cX11_anewOf 90 = .ok (.ifCond .le 32, 3) := by decide +kernel
theorem dX11_anewOf_93 : decode cX11_anewOf 93 = .ok (.aload_n 0, 1) := by decide +kernel
theorem dX11_anewOf_94 : decode cX11_anewOf 94 = .ok (.getfield 31, 3) := by decide +kernel
theorem dX11_anewOf_97 : decode cX11_anewOf 97 = .ok (.iconst 0, 1) := by decide +kernel
theorem dX11_anewOf_98 : decode cX11_anewOf 98 = .ok (.iaload, 1) := by decide +kernel
theorem dX11_anewOf_99 : decode cX11_anewOf 99 = .ok (.i2l, 1) := by decide +kernel
theorem dX11_anewOf_100 : decode cX11_anewOf 100 = .ok (.aload_n 0, 1) := by decide +kernel
theorem dX11_anewOf_101 : decode cX11_anewOf 101 = .ok (.getfield 193, 3) := by decide +kernel
theorem dX11_anewOf_104 : decode cX11_anewOf 104 = .ok (.lmul, 1) := by decide +kernel
theorem dX11_anewOf_105 : decode cX11_anewOf 105 = .ok (.aload_n 0, 1) := by decide +kernel
theorem dX11_anewOf_106 : decode cX11_anewOf 106 = .ok (.getfield 56, 3) := by decide +kernel
theorem dX11_anewOf_109 : decode cX11_anewOf 109 = .ok (.bipush 10, 2) := by decide +kernel
theorem dX11_anewOf_111 : decode cX11_anewOf 111 = .ok (.laload, 1) := by decide +kernel
theorem dX11_anewOf_112 : decode cX11_anewOf 112 = .ok (.lload_n 3, 1) := by decide +kernel
theorem dX11_anewOf_113 : decode cX11_anewOf 113 = .ok (.lmul, 1) := by decide +kernel
theorem dX11_anewOf_114 : decode cX11_anewOf 114 = .ok (.lcmp, 1) := by decide +kernel
theorem dX11_anewOf_115 : decode cX11_anewOf 115 = .ok (.ifCond .le 7, 3) := by decide +kernel
theorem dX11_anewOf_118 : decode cX11_anewOf 118 = .ok (.iconst 1, 1) := by decide +kernel
theorem dX11_anewOf_119 : decode cX11_anewOf 119 = .ok (.goto 4, 3) := by decide +kernel
theorem dX11_anewOf_122 : decode cX11_anewOf 122 = .ok (.iconst 0, 1) := by decide +kernel
theorem dX11_anewOf_123 : decode cX11_anewOf 123 = .ok (.ireturn, 1) := by decide +kernel
theorem dX11_anew_0 : decode cX11_anew 0 = .ok (.iload_n 1, 1) := by decide +kernel
theorem dX11_anew_1 : decode cX11_anew 1 = .ok (.iconst 0, 1) := by decide +kernel
theorem dX11_anew_2 : decode cX11_anew 2 = .ok (.aload_n 0, 1) := by decide +kernel
theorem dX11_anew_3 : decode cX11_anew 3 = .ok (.invokevirtual 227, 3) := by decide +kernel
theorem dX11_anew_6 : decode cX11_anew 6 = .ok (.iconst 1, 1) := by decide +kernel
theorem dX11_anew_7 : decode cX11_anew 7 = .ok (.isub, 1) := by decide +kernel
theorem dX11_anew_8 : decode cX11_anew 8 = .ok (.invokestatic 89, 3) := by decide +kernel
theorem dX11_anew_11 : decode cX11_anew 11 = .ok (.ifCond .eq 11, 3) := by decide +kernel
theorem dX11_anew_14 : decode cX11_anew 14 = .ok (.aload_n 0, 1) := by decide +kernel
theorem dX11_anew_15 : decode cX11_anew 15 = .ok (.iload_n 1, 1) := by decide +kernel
theorem dX11_anew_16 : decode cX11_anew 16 = .ok (.invokevirtual 236, 3) := by decide +kernel
theorem dX11_anew_19 : decode cX11_anew 19 = .ok (.goto 5, 3) := by decide +kernel
theorem dX11_anew_22 : decode cX11_anew 22 = .ok (.bipush (-2), 2) := by decide +kernel
theorem dX11_anew_24 : decode cX11_anew 24 = .ok (.ireturn, 1) := by decide +kernel
theorem dX11_joint_0 : decode cX11_joint 0 = .ok (.iload_n 1, 1) := by decide +kernel
theorem dX11_joint_1 : decode cX11_joint 1 = .ok (.iconst 0, 1) := by decide +kernel
theorem dX11_joint_2 : decode cX11_joint 2 = .ok (.bipush 16, 2) := by decide +kernel
theorem dX11_joint_4 : decode cX11_joint 4 = .ok (.invokestatic 89, 3) := by decide +kernel
theorem dX11_joint_7 : decode cX11_joint 7 = .ok (.ifCond .eq 22, 3) := by decide +kernel
theorem dX11_joint_10 : decode cX11_joint 10 = .ok (.iload_n 2, 1) := by decide +kernel
theorem dX11_joint_11 : decode cX11_joint 11 = .ok (.iconst 0, 1) := by decide +kernel
theorem dX11_joint_12 : decode cX11_joint 12 = .ok (.bipush 16, 2) := by decide +kernel
theorem dX11_joint_14 : decode cX11_joint 14 = .ok (.invokestatic 89, 3) := by decide +kernel
theorem dX11_joint_17 : decode cX11_joint 17 = .ok (.ifCond .eq 12, 3) := by decide +kernel
theorem dX11_joint_20 : decode cX11_joint 20 = .ok (.iload_n 3, 1) := by decide +kernel
theorem dX11_joint_21 : decode cX11_joint 21 = .ok (.iconst 0, 1) := by decide +kernel
theorem dX11_joint_22 : decode cX11_joint 22 = .ok (.iconst 1, 1) := by decide +kernel
theorem dX11_joint_23 : decode cX11_joint 23 = .ok (.invokestatic 89, 3) := by decide +kernel
theorem dX11_joint_26 : decode cX11_joint 26 = .ok (.ifCond .ne 9, 3) := by decide +kernel
theorem dX11_joint_29 : decode cX11_joint 29 = .ok (.bipush (-2), 2) := by decide +kernel
theorem dX11_joint_31 : decode cX11_joint 31 = .ok (.invokestatic 168, 3) := by decide +kernel
theorem dX11_joint_34 : decode cX11_joint 34 = .ok (.lreturn, 1) := by decide +kernel
theorem dX11_joint_35 : decode cX11_joint 35 = .ok (.iload_n 1, 1) := by decide +kernel
theorem dX11_joint_36 : decode cX11_joint 36 = .ok (.iload_n 2, 1) := by decide +kernel
theorem dX11_joint_37 : decode cX11_joint 37 = .ok (.imul, 1) := by decide +kernel
theorem dX11_joint_38 : decode cX11_joint 38 = .ok (.istore 4, 2) := by decide +kernel
theorem dX11_joint_40 : decode cX11_joint 40 = .ok (.bipush 16, 2) := by decide +kernel
theorem dX11_joint_42 : decode cX11_joint 42 = .ok (.iload_n 1, 1) := by decide +kernel
theorem dX11_joint_43 : decode cX11_joint 43 = .ok (.isub, 1) := by decide +kernel
theorem dX11_joint_44 : decode cX11_joint 44 = .ok (.bipush 16, 2) := by decide +kernel
theorem dX11_joint_46 : decode cX11_joint 46 = .ok (.iload_n 2, 1) := by decide +kernel
theorem dX11_joint_47 : decode cX11_joint 47 = .ok (.isub, 1) := by decide +kernel
theorem dX11_joint_48 : decode cX11_joint 48 = .ok (.imul, 1) := by decide +kernel
theorem dX11_joint_49 : decode cX11_joint 49 = .ok (.istore 5, 2) := by decide +kernel
theorem dX11_joint_51 : decode cX11_joint 51 = .ok (.iload 4, 2) := by decide +kernel
theorem dX11_joint_53 : decode cX11_joint 53 = .ok (.iload 5, 2) := by decide +kernel
theorem dX11_joint_55 : decode cX11_joint 55 = .ok (.iadd, 1) := by decide +kernel
theorem dX11_joint_56 : decode cX11_joint 56 = .ok (.ifCond .ne 11, 3) := by decide +kernel
theorem dX11_joint_59 : decode cX11_joint 59 = .ok (.bipush (-3), 2) := by decide +kernel
theorem dX11_joint_61 : decode cX11_joint 61 = .ok (.invokestatic 168, 3) := by decide +kernel
theorem dX11_joint_64 : decode cX11_joint 64 = .ok (.goto 16, 3) := by decide +kernel
theorem dX11_joint_67 : decode cX11_joint 67 = .ok (.iload 4, 2) := by decide +kernel
theorem dX11_joint_69 : decode cX11_joint 69 = .ok (.i2l, 1) := by decide +kernel
theorem dX11_joint_70 : decode cX11_joint 70 = .ok (.iload 4, 2) := by decide +kernel
theorem dX11_joint_72 : decode cX11_joint 72 = .ok (.iload 5, 2) := by decide +kernel
theorem dX11_joint_74 : decode cX11_joint 74 = .ok (.iadd, 1) := by decide +kernel
theorem dX11_joint_75 : decode cX11_joint 75 = .ok (.i2l, 1) := by decide +kernel
theorem dX11_joint_76 : decode cX11_joint 76 = .ok (.iload_n 3, 1) := by decide +kernel
theorem dX11_joint_77 : decode cX11_joint 77 = .ok (.invokestatic 172, 3) := by decide +kernel
theorem dX11_joint_80 : decode cX11_joint 80 = .ok (.lreturn, 1) := by decide +kernel
theorem dX11_eveningBy_0 : decode cX11_eveningBy 0 = .ok (.aload_n 0, 1) := by decide +kernel
theorem dX11_eveningBy_1 : decode cX11_eveningBy 1 = .ok (.aload_n 0, 1) := by decide +kernel
theorem dX11_eveningBy_2 : decode cX11_eveningBy 2 = .ok (.getfield 97, 3) := by decide +kernel
theorem dX11_eveningBy_5 : decode cX11_eveningBy 5 = .ok (.iconst 1, 1) := by decide +kernel
theorem dX11_eveningBy_6 : decode cX11_eveningBy 6 = .ok (.isub, 1) := by decide +kernel
theorem dX11_eveningBy_7 : decode cX11_eveningBy 7 = .ok (.iconst 0, 1) := by decide +kernel
theorem dX11_eveningBy_8 : decode cX11_eveningBy 8 = .ok (.iload_n 1, 1) := by decide +kernel
theorem dX11_eveningBy_9 : decode cX11_eveningBy 9 = .ok (.invokevirtual 206, 3) := by decide +kernel
theorem dX11_eveningBy_12 : decode cX11_eveningBy 12 = .ok (.aload_n 0, 1) := by decide +kernel
theorem dX11_eveningBy_13 : decode cX11_eveningBy 13 = .ok (.getfield 56, 3) := by decide +kernel
theorem dX11_eveningBy_16 : decode cX11_eveningBy 16 = .ok (.bipush 10, 2) := by decide +kernel
theorem dX11_eveningBy_18 : decode cX11_eveningBy 18 = .ok (.laload, 1) := by decide +kernel
theorem dX11_eveningBy_19 : decode cX11_eveningBy 19 = .ok (.lreturn, 1) := by decide +kernel
theorem dX11_eveningOf_0 : decode cX11_eveningOf 0 = .ok (.aload_n 0, 1) := by decide +kernel
theorem dX11_eveningOf_1 : decode cX11_eveningOf 1 = .ok (.invokevirtual 121, 3) := by decide +kernel
theorem dX11_eveningOf_4 : decode cX11_eveningOf 4 = .ok (.aload_n 0, 1) := by decide +kernel
theorem dX11_eveningOf_5 : decode cX11_eveningOf 5 = .ok (.getfield 97, 3) := by decide +kernel
theorem dX11_eveningOf_8 : decode cX11_eveningOf 8 = .ok (.ifCond .ne 9, 3) := by decide +kernel
theorem dX11_eveningOf_11 : decode cX11_eveningOf 11 = .ok (.bipush (-3), 2) := by decide +kernel
theorem dX11_eveningOf_13 : decode cX11_eveningOf 13 = .ok (.invokestatic 168, 3) := by decide +kernel
theorem dX11_eveningOf_16 : decode cX11_eveningOf 16 = .ok (.lreturn, 1) := by decide +kernel
theorem dX11_eveningOf_17 : decode cX11_eveningOf 17 = .ok (.aload_n 0, 1) := by decide +kernel
theorem dX11_eveningOf_18 : decode cX11_eveningOf 18 = .ok (.iload_n 1, 1) := by decide +kernel
theorem dX11_eveningOf_19 : decode cX11_eveningOf 19 = .ok (.invokevirtual 239, 3) := by decide +kernel
theorem dX11_eveningOf_22 : decode cX11_eveningOf 22 = .ok (.lstore_n 3, 1) := by decide +kernel
theorem dX11_eveningOf_23 : decode cX11_eveningOf 23 = .ok (.lload_n 3, 1) := by decide +kernel
theorem dX11_eveningOf_24 : decode cX11_eveningOf 24 = .ok (.aload_n 0, 1) := by decide +kernel
theorem dX11_eveningOf_25 : decode cX11_eveningOf 25 = .ok (.getfield 193, 3) := by decide +kernel
theorem dX11_eveningOf_28 : decode cX11_eveningOf 28 = .ok (.iload_n 2, 1) := by decide +kernel
theorem dX11_eveningOf_29 : decode cX11_eveningOf 29 = .ok (.invokestatic 172, 3) := by decide +kernel
theorem dX11_eveningOf_32 : decode cX11_eveningOf 32 = .ok (.lreturn, 1) := by decide +kernel
theorem dX11_evening_0 : decode cX11_evening 0 = .ok (.iload_n 1, 1) := by decide +kernel
theorem dX11_evening_1 : decode cX11_evening 1 = .ok (.iconst 0, 1) := by decide +kernel
theorem dX11_evening_2 : decode cX11_evening 2 = .ok (.bipush 59, 2) := by decide +kernel
theorem dX11_evening_4 : decode cX11_evening 4 = .ok (.invokestatic 89, 3) := by decide +kernel
theorem dX11_evening_7 : decode cX11_evening 7 = .ok (.ifCond .eq 21, 3) := by decide +kernel
theorem dX11_evening_10 : decode cX11_evening 10 = .ok (.iload_n 2, 1) := by decide +kernel
theorem dX11_evening_11 : decode cX11_evening 11 = .ok (.iconst 0, 1) := by decide +kernel
theorem dX11_evening_12 : decode cX11_evening 12 = .ok (.iconst 1, 1) := by decide +kernel
theorem dX11_evening_13 : decode cX11_evening 13 = .ok (.invokestatic 89, 3) := by decide +kernel
theorem dX11_evening_16 : decode cX11_evening 16 = .ok (.ifCond .eq 12, 3) := by decide +kernel
theorem dX11_evening_19 : decode cX11_evening 19 = .ok (.aload_n 0, 1) := by decide +kernel
theorem dX11_evening_20 : decode cX11_evening 20 = .ok (.iload_n 1, 1) := by decide +kernel
theorem dX11_evening_21 : decode cX11_evening 21 = .ok (.iload_n 2, 1) := by decide +kernel
theorem dX11_evening_22 : decode cX11_evening 22 = .ok (.invokevirtual 242, 3) := by decide +kernel
theorem dX11_evening_25 : decode cX11_evening 25 = .ok (.goto 8, 3) := by decide +kernel
theorem dX11_evening_28 : decode cX11_evening 28 = .ok (.bipush (-2), 2) := by decide +kernel
theorem dX11_evening_30 : decode cX11_evening 30 = .ok (.invokestatic 168, 3) := by decide +kernel
theorem dX11_evening_33 : decode cX11_evening 33 = .ok (.lreturn, 1) := by decide +kernel
theorem dX11_primeOf_0 : decode cX11_primeOf 0 = .ok (.aload_n 0, 1) := by decide +kernel
theorem dX11_primeOf_1 : decode cX11_primeOf 1 = .ok (.invokevirtual 121, 3) := by decide +kernel
theorem dX11_primeOf_4 : decode cX11_primeOf 4 = .ok (.aload_n 0, 1) := by decide +kernel
theorem dX11_primeOf_5 : decode cX11_primeOf 5 = .ok (.getfield 97, 3) := by decide +kernel
theorem dX11_primeOf_8 : decode cX11_primeOf 8 = .ok (.ifCond .ne 6, 3) := by decide +kernel
theorem dX11_primeOf_11 : decode cX11_primeOf 11 = .ok (.bipush (-3), 2) := by decide +kernel
theorem dX11_primeOf_13 : decode cX11_primeOf 13 = .ok (.ireturn, 1) := by decide +kernel
theorem dX11_primeOf_14 : decode cX11_primeOf 14 = .ok (.iconst 0, 1) := by decide +kernel
theorem dX11_primeOf_15 : decode cX11_primeOf 15 = .ok (.istore_n 2, 1) := by decide +kernel
theorem dX11_primeOf_16 : decode cX11_primeOf 16 = .ok (.iconst 1, 1) := by decide +kernel
theorem dX11_primeOf_17 : decode cX11_primeOf 17 = .ok (.istore_n 3, 1) := by decide +kernel
theorem dX11_primeOf_18 : decode cX11_primeOf 18 = .ok (.iload_n 3, 1) := by decide +kernel
theorem dX11_primeOf_19 : decode cX11_primeOf 19 = .ok (.bipush 60, 2) := by decide +kernel
theorem dX11_primeOf_21 : decode cX11_primeOf 21 = .ok (.if_icmp .ge 29, 3) := by decide +kernel
theorem dX11_primeOf_24 : decode cX11_primeOf 24 = .ok (.aload_n 0, 1) := by decide +kernel
theorem dX11_primeOf_25 : decode cX11_primeOf 25 = .ok (.iload_n 3, 1) := by decide +kernel
theorem dX11_primeOf_26 : decode cX11_primeOf 26 = .ok (.invokevirtual 239, 3) := by decide +kernel
theorem dX11_primeOf_29 : decode cX11_primeOf 29 = .ok (.aload_n 0, 1) := by decide +kernel
theorem dX11_primeOf_30 : decode cX11_primeOf 30 = .ok (.iload_n 2, 1) := by decide +kernel
theorem dX11_primeOf_31 : decode cX11_primeOf 31 = .ok (.invokevirtual 239, 3) := by decide +kernel
theorem dX11_primeOf_34 : decode cX11_primeOf 34 = .ok (.lcmp, 1) := by decide +kernel
theorem dX11_primeOf_35 : decode cX11_primeOf 35 = .ok (.ifCond .le 7, 3) := by decide +kernel
theorem dX11_primeOf_38 : decode cX11_primeOf 38 = .ok (.iload_n 3, 1) := by decide +kernel
theorem dX11_primeOf_39 : decode cX11_primeOf 39 = .ok (.goto 4, 3) := by decide +kernel
theorem dX11_primeOf_42 : decode cX11_primeOf 42 = .ok (.iload_n 2, 1) := by decide +kernel
theorem dX11_primeOf_43 : decode cX11_primeOf 43 = .ok (.istore_n 2, 1) := by decide +kernel
theorem dX11_primeOf_44 : decode cX11_primeOf 44 = .ok (.iinc 3 1, 3) := by decide +kernel
theorem dX11_primeOf_47 : decode cX11_primeOf 47 = .ok (.goto (-29), 3) := by decide +kernel
theorem dX11_primeOf_50 : decode cX11_primeOf 50 = .ok (.iconst 0, 1) := by decide +kernel
theorem dX11_primeOf_51 : decode cX11_primeOf 51 = .ok (.istore_n 3, 1) := by decide +kernel
theorem dX11_primeOf_52 : decode cX11_primeOf 52 = .ok (.iload_n 2, 1) := by decide +kernel
theorem dX11_primeOf_53 : decode cX11_primeOf 53 = .ok (.iload_n 3, 1) := by decide +kernel
theorem dX11_primeOf_54 : decode cX11_primeOf 54 = .ok (.iadd, 1) := by decide +kernel
theorem dX11_primeOf_55 : decode cX11_primeOf 55 = .ok (.bipush 60, 2) := by decide +kernel
theorem dX11_primeOf_57 : decode cX11_primeOf 57 = .ok (.if_icmp .ge 25, 3) := by decide +kernel
theorem dX11_primeOf_60 : decode cX11_primeOf 60 = .ok (.aload_n 0, 1) := by decide +kernel
theorem dX11_primeOf_61 : decode cX11_primeOf 61 = .ok (.iload_n 2, 1) := by decide +kernel
theorem dX11_primeOf_62 : decode cX11_primeOf 62 = .ok (.iload_n 3, 1) := by decide +kernel
theorem dX11_primeOf_63 : decode cX11_primeOf 63 = .ok (.iadd, 1) := by decide +kernel
theorem dX11_primeOf_64 : decode cX11_primeOf 64 = .ok (.invokevirtual 239, 3) := by decide +kernel
theorem dX11_primeOf_67 : decode cX11_primeOf 67 = .ok (.aload_n 0, 1) := by decide +kernel
theorem dX11_primeOf_68 : decode cX11_primeOf 68 = .ok (.iload_n 2, 1) := by decide +kernel
theorem dX11_primeOf_69 : decode cX11_primeOf 69 = .ok (.invokevirtual 239, 3) := by decide +kernel
theorem dX11_primeOf_72 : decode cX11_primeOf 72 = .ok (.lcmp, 1) := by decide +kernel
theorem dX11_primeOf_73 : decode cX11_primeOf 73 = .ok (.ifCond .ne 9, 3) := by decide +kernel
theorem dX11_primeOf_76 : decode cX11_primeOf 76 = .ok (.iinc 3 1, 3) := by decide +kernel
theorem dX11_primeOf_79 : decode cX11_primeOf 79 = .ok (.goto (-27), 3) := by decide +kernel
theorem dX11_primeOf_82 : decode cX11_primeOf 82 = .ok (.iload_n 1, 1) := by decide +kernel
theorem dX11_primeOf_83 : decode cX11_primeOf 83 = .ok (.ifCond .ne 7, 3) := by decide +kernel
theorem dX11_primeOf_86 : decode cX11_primeOf 86 = .ok (.iload_n 2, 1) := by decide +kernel
theorem dX11_primeOf_87 : decode cX11_primeOf 87 = .ok (.goto 4, 3) := by decide +kernel
theorem dX11_primeOf_90 : decode cX11_primeOf 90 = .ok (.iload_n 3, 1) := by decide +kernel
theorem dX11_primeOf_91 : decode cX11_primeOf 91 = .ok (.ireturn, 1) := by decide +kernel
theorem dX11_prime_0 : decode cX11_prime 0 = .ok (.iload_n 1, 1) := by decide +kernel
theorem dX11_prime_1 : decode cX11_prime 1 = .ok (.iconst 0, 1) := by decide +kernel
theorem dX11_prime_2 : decode cX11_prime 2 = .ok (.iconst 1, 1) := by decide +kernel
theorem dX11_prime_3 : decode cX11_prime 3 = .ok (.invokestatic 89, 3) := by decide +kernel
theorem dX11_prime_6 : decode cX11_prime 6 = .ok (.ifCond .eq 11, 3) := by decide +kernel
theorem dX11_prime_9 : decode cX11_prime 9 = .ok (.aload_n 0, 1) := by decide +kernel
theorem dX11_prime_10 : decode cX11_prime 10 = .ok (.iload_n 1, 1) := by decide +kernel
theorem dX11_prime_11 : decode cX11_prime 11 = .ok (.invokevirtual 245, 3) := by decide +kernel
theorem dX11_prime_14 : decode cX11_prime 14 = .ok (.goto 5, 3) := by decide +kernel
theorem dX11_prime_17 : decode cX11_prime 17 = .ok (.bipush (-2), 2) := by decide +kernel
theorem dX11_prime_19 : decode cX11_prime 19 = .ok (.ireturn, 1) := by decide +kernel
theorem dX11_player_0 : decode cX11_player 0 = .ok (.iload_n 1, 1) := by decide +kernel
theorem dX11_player_1 : decode cX11_player 1 = .ok (.iconst 1, 1) := by decide +kernel
theorem dX11_player_2 : decode cX11_player 2 = .ok (.bipush 98, 2) := by decide +kernel
theorem dX11_player_4 : decode cX11_player 4 = .ok (.invokestatic 89, 3) := by decide +kernel
theorem dX11_player_7 : decode cX11_player 7 = .ok (.ifCond .eq 13, 3) := by decide +kernel
theorem dX11_player_10 : decode cX11_player 10 = .ok (.iload_n 2, 1) := by decide +kernel
theorem dX11_player_11 : decode cX11_player 11 = .ok (.iconst 1, 1) := by decide +kernel
theorem dX11_player_12 : decode cX11_player 12 = .ok (.bipush 99, 2) := by decide +kernel
theorem dX11_player_14 : decode cX11_player 14 = .ok (.invokestatic 89, 3) := by decide +kernel
theorem dX11_player_17 : decode cX11_player 17 = .ok (.ifCond .ne 6, 3) := by decide +kernel
theorem dX11_player_20 : decode cX11_player 20 = .ok (.bipush (-2), 2) := by decide +kernel
theorem dX11_player_22 : decode cX11_player 22 = .ok (.ireturn, 1) := by decide +kernel
theorem dX11_player_23 : decode cX11_player 23 = .ok (.aload_n 0, 1) := by decide +kernel
theorem dX11_player_24 : decode cX11_player 24 = .ok (.getfield 248, 3) := by decide +kernel
theorem dX11_player_27 : decode cX11_player 27 = .ok (.bipush 8, 2) := by decide +kernel
theorem dX11_player_29 : decode cX11_player 29 = .ok (.if_icmp .ne 6, 3) := by decide +kernel
theorem dX11_player_32 : decode cX11_player 32 = .ok (.bipush (-4), 2) := by decide +kernel
theorem dX11_player_34 : decode cX11_player 34 = .ok (.ireturn, 1) := by decide +kernel
theorem dX11_player_35 : decode cX11_player 35 = .ok (.aload_n 0, 1) := by decide +kernel
theorem dX11_player_36 : decode cX11_player 36 = .ok (.getfield 62, 3) := by decide +kernel
theorem dX11_player_39 : decode cX11_player 39 = .ok (.aload_n 0, 1) := by decide +kernel
theorem dX11_player_40 : decode cX11_player 40 = .ok (.getfield 248, 3) := by decide +kernel
theorem dX11_player_43 : decode cX11_player 43 = .ok (.iload_n 1, 1) := by decide +kernel
theorem dX11_player_44 : decode cX11_player 44 = .ok (.iastore, 1) := by decide +kernel
theorem dX11_player_45 : decode cX11_player 45 = .ok (.aload_n 0, 1) := by decide +kernel
theorem dX11_player_46 : decode cX11_player 46 = .ok (.getfield 65, 3) := by decide +kernel
theorem dX11_player_49 : decode cX11_player 49 = .ok (.aload_n 0, 1) := by decide +kernel
theorem dX11_player_50 : decode cX11_player 50 = .ok (.getfield 248, 3) := by decide +kernel
theorem dX11_player_53 : decode cX11_player 53 = .ok (.iload_n 2, 1) := by decide +kernel
theorem dX11_player_54 : decode cX11_player 54 = .ok (.iastore, 1) := by decide +kernel
theorem dX11_player_55 : decode cX11_player 55 = .ok (.aload_n 0, 1) := by decide +kernel
theorem dX11_player_56 : decode cX11_player 56 = .ok (.dup, 1) := by decide +kernel
theorem dX11_player_57 : decode cX11_player 57 = .ok (.getfield 248, 3) := by decide +kernel
theorem dX11_player_60 : decode cX11_player 60 = .ok (.iconst 1, 1) := by decide +kernel
theorem dX11_player_61 : decode cX11_player 61 = .ok (.iadd, 1) := by decide +kernel
theorem dX11_player_62 : decode cX11_player 62 = .ok (.putfield 248, 3) := by decide +kernel
theorem dX11_player_65 : decode cX11_player 65 = .ok (.aload_n 0, 1) := by decide +kernel
theorem dX11_player_66 : decode cX11_player 66 = .ok (.getfield 248, 3) := by decide +kernel
theorem dX11_player_69 : decode cX11_player 69 = .ok (.ireturn, 1) := by decide +kernel
theorem dX11_leave_0 : decode cX11_leave 0 = .ok (.aload_n 0, 1) := by decide +kernel
theorem dX11_leave_1 : decode cX11_leave 1 = .ok (.getfield 248, 3) := by decide +kernel
theorem dX11_leave_4 : decode cX11_leave 4 = .ok (.istore_n 1, 1) := by decide +kernel
theorem dX11_leave_5 : decode cX11_leave 5 = .ok (.aload_n 0, 1) := by decide +kernel
theorem dX11_leave_6 : decode cX11_leave 6 = .ok (.iconst 0, 1) := by decide +kernel
theorem dX11_leave_7 : decode cX11_leave 7 = .ok (.putfield 248, 3) := by decide +kernel
theorem dX11_leave_10 : decode cX11_leave 10 = .ok (.iload_n 1, 1) := by decide +kernel
theorem dX11_leave_11 : decode cX11_leave 11 = .ok (.ireturn, 1) := by decide +kernel
theorem dX11_looksBy_0 : decode cX11_looksBy 0 = .ok (.iconst 0, 1) := by decide +kernel
theorem dX11_looksBy_1 : decode cX11_looksBy 1 = .ok (.istore_n 2, 1) := by decide +kernel
theorem dX11_looksBy_2 : decode cX11_looksBy 2 = .ok (.iconst 0, 1) := by decide +kernel
theorem dX11_looksBy_3 : decode cX11_looksBy 3 = .ok (.istore_n 3, 1) := by decide +kernel
theorem dX11_looksBy_4 : decode cX11_looksBy 4 = .ok (.iload_n 3, 1) := by decide +kernel
theorem dX11_looksBy_5 : decode cX11_looksBy 5 = .ok (.bipush 99, 2) := by decide +kernel
theorem dX11_looksBy_7 : decode cX11_looksBy 7 = .ok (.if_icmp .ge 137, 3) := by decide +kernel
theorem dX11_looksBy_10 : decode cX11_looksBy 10 = .ok (.iconst (-1), 1) := by decide +kernel
theorem dX11_looksBy_11 : decode cX11_looksBy 11 = .ok (.istore 4, 2) := by decide +kernel
theorem dX11_looksBy_13 : decode cX11_looksBy 13 = .ok (.iconst 0, 1) := by decide +kernel
theorem dX11_looksBy_14 : decode cX11_looksBy 14 = .ok (.istore 5, 2) := by decide +kernel
theorem dX11_looksBy_16 : decode cX11_looksBy 16 = .ok (.iload 5, 2) := by decide +kernel
theorem dX11_looksBy_18 : decode cX11_looksBy 18 = .ok (.aload_n 0, 1) := by decide +kernel
theorem dX11_looksBy_19 : decode cX11_looksBy 19 = .ok (.getfield 248, 3) := by decide +kernel
theorem dX11_looksBy_22 : decode cX11_looksBy 22 = .ok (.if_icmp .ge 91, 3) := by decide +kernel
theorem dX11_looksBy_25 : decode cX11_looksBy 25 = .ok (.iload_n 1, 1) := by decide +kernel
theorem dX11_looksBy_26 : decode cX11_looksBy 26 = .ok (.iload_n 2, 1) := by decide +kernel
theorem dX11_looksBy_27 : decode cX11_looksBy 27 = .ok (.iconst (-1), 1) := by decide +kernel
theorem dX11_looksBy_28 : decode cX11_looksBy 28 = .ok (.ixor, 1) := by decide +kernel
theorem dX11_looksBy_29 : decode cX11_looksBy 29 = .ok (.iand, 1) := by decide +kernel
theorem dX11_looksBy_30 : decode cX11_looksBy 30 = .ok (.iload 5, 2) := by decide +kernel
theorem dX11_looksBy_32 : decode cX11_looksBy 32 = .ok (.invokestatic 199, 3) := by decide +kernel
theorem dX11_looksBy_35 : decode cX11_looksBy 35 = .ok (.ifCond .eq 32, 3) := by decide +kernel
theorem dX11_looksBy_38 : decode cX11_looksBy 38 = .ok (.iload_n 3, 1) := by decide +kernel
theorem dX11_looksBy_39 : decode cX11_looksBy 39 = .ok (.aload_n 0, 1) := by decide +kernel
theorem dX11_looksBy_40 : decode cX11_looksBy 40 = .ok (.getfield 62, 3) := by decide +kernel
theorem dX11_looksBy_43 : decode cX11_looksBy 43 = .ok (.iload 5, 2) := by decide +kernel
theorem dX11_looksBy_45 : decode cX11_looksBy 45 = .ok (.iaload, 1) := by decide +kernel
theorem dX11_looksBy_46 : decode cX11_looksBy 46 = .ok (.iconst 3, 1) := by decide +kernel
theorem dX11_looksBy_47 : decode cX11_looksBy 47 = .ok (.isub, 1) := by decide +kernel
theorem dX11_looksBy_48 : decode cX11_looksBy 48 = .ok (.aload_n 0, 1) := by decide +kernel
theorem dX11_looksBy_49 : decode cX11_looksBy 49 = .ok (.getfield 62, 3) := by decide +kernel
theorem dX11_looksBy_52 : decode cX11_looksBy 52 = .ok (.iload 5, 2) := by decide +kernel
theorem dX11_looksBy_54 : decode cX11_looksBy 54 = .ok (.iaload, 1) := by decide +kernel
theorem dX11_looksBy_55 : decode cX11_looksBy 55 = .ok (.iconst 1, 1) := by decide +kernel
theorem dX11_looksBy_56 : decode cX11_looksBy 56 = .ok (.isub, 1) := by decide +kernel
theorem dX11_looksBy_57 : decode cX11_looksBy 57 = .ok (.invokestatic 89, 3) := by decide +kernel
theorem dX11_looksBy_60 : decode cX11_looksBy 60 = .ok (.ifCond .eq 7, 3) := by decide +kernel
theorem dX11_looksBy_63 : decode cX11_looksBy 63 = .ok (.iconst 1, 1) := by decide +kernel
theorem dX11_looksBy_64 : decode cX11_looksBy 64 = .ok (.goto 4, 3) := by decide +kernel
theorem dX11_looksBy_67 : decode cX11_looksBy 67 = .ok (.iconst 0, 1) := by decide +kernel
theorem dX11_looksBy_68 : decode cX11_looksBy 68 = .ok (.istore 6, 2) := by decide +kernel
theorem dX11_looksBy_70 : decode cX11_looksBy 70 = .ok (.iload 6, 2) := by decide +kernel
theorem dX11_looksBy_72 : decode cX11_looksBy 72 = .ok (.ifCond .eq 31, 3) := by decide +kernel
theorem dX11_looksBy_75 : decode cX11_looksBy 75 = .ok (.iload 4, 2) := by decide +kernel
theorem dX11_looksBy_77 : decode cX11_looksBy 77 = .ok (.iconst (-1), 1) := by decide +kernel
theorem dX11_looksBy_78 : decode cX11_looksBy 78 = .ok (.if_icmp .eq 20, 3) := by decide +kernel
theorem dX11_looksBy_81 : decode cX11_looksBy 81 = .ok (.aload_n 0, 1) := by decide +kernel
theorem dX11_looksBy_82 : decode cX11_looksBy 82 = .ok (.getfield 62, 3) := by decide +kernel
theorem dX11_looksBy_85 : decode cX11_looksBy 85 = .ok (.iload 5, 2) := by decide +kernel
theorem dX11_looksBy_87 : decode cX11_looksBy 87 = .ok (.iaload, 1) := by decide +kernel
theorem dX11_looksBy_88 : decode cX11_looksBy 88 = .ok (.aload_n 0, 1) := by decide +kernel
theorem dX11_looksBy_89 : decode cX11_looksBy 89 = .ok (.getfield 62, 3) := by decide +kernel
theorem dX11_looksBy_92 : decode cX11_looksBy 92 = .ok (.iload 4, 2) := by decide +kernel
theorem dX11_looksBy_94 : decode cX11_looksBy 94 = .ok (.iaload, 1) := by decide +kernel
theorem dX11_looksBy_95 : decode cX11_looksBy 95 = .ok (.if_icmp .ge 8, 3) := by decide +kernel
theorem dX11_looksBy_98 : decode cX11_looksBy 98 = .ok (.iload 5, 2) := by decide +kernel
theorem dX11_looksBy_100 : decode cX11_looksBy 100 = .ok (.goto 5, 3) := by decide +kernel
theorem dX11_looksBy_103 : decode cX11_looksBy 103 = .ok (.iload 4, 2) := by decide +kernel
theorem dX11_looksBy_105 : decode cX11_looksBy 105 = .ok (.istore 4, 2) := by decide +kernel
theorem dX11_looksBy_107 : decode cX11_looksBy 107 = .ok (.iinc 5 1, 3) := by decide +kernel
theorem dX11_looksBy_110 : decode cX11_looksBy 110 = .ok (.goto (-94), 3) := by decide +kernel
theorem dX11_looksBy_113 : decode cX11_looksBy 113 = .ok (.aload_n 0, 1) := by decide +kernel
theorem dX11_looksBy_114 : decode cX11_looksBy 114 = .ok (.getfield 68, 3) := by decide +kernel
theorem dX11_looksBy_117 : decode cX11_looksBy 117 = .ok (.iload_n 3, 1) := by decide +kernel
theorem dX11_looksBy_118 : decode cX11_looksBy 118 = .ok (.iload 4, 2) := by decide +kernel
theorem dX11_looksBy_120 : decode cX11_looksBy 120 = .ok (.iastore, 1) := by decide +kernel
theorem dX11_looksBy_121 : decode cX11_looksBy 121 = .ok (.iload_n 2, 1) := by decide +kernel
theorem dX11_looksBy_122 : decode cX11_looksBy 122 = .ok (.iload 4, 2) := by decide +kernel
theorem dX11_looksBy_124 : decode cX11_looksBy 124 = .ok (.iconst (-1), 1) := by decide +kernel
theorem dX11_looksBy_125 : decode cX11_looksBy 125 = .ok (.if_icmp .ne 7, 3) := by decide +kernel
theorem dX11_looksBy_128 : decode cX11_looksBy 128 = .ok (.iconst 0, 1) := by decide +kernel
theorem dX11_looksBy_129 : decode cX11_looksBy 129 = .ok (.goto 7, 3) := by decide +kernel
theorem dX11_looksBy_132 : decode cX11_looksBy 132 = .ok (.iconst 1, 1) := by decide +kernel
theorem dX11_looksBy_133 : decode cX11_looksBy 133 = .ok (.iload 4, 2) := by decide +kernel
theorem dX11_looksBy_135 : decode cX11_looksBy 135 = .ok (.ishl, 1) := by decide +kernel
theorem dX11_looksBy_136 : decode cX11_looksBy 136 = .ok (.ior, 1) := by decide +kernel
theorem dX11_looksBy_137 : decode cX11_looksBy 137 = .ok (.istore_n 2, 1) := by decide +kernel
theorem dX11_looksBy_138 : decode cX11_looksBy 138 = .ok (.iinc 3 1, 3) := by decide +kernel
theorem dX11_looksBy_141 : decode cX11_looksBy 141 = .ok (.goto (-137), 3) := by decide +kernel
theorem dX11_looksBy_144 : decode cX11_looksBy 144 = .ok (.iload_n 2, 1) := by decide +kernel
theorem dX11_looksBy_145 : decode cX11_looksBy 145 = .ok (.ireturn, 1) := by decide +kernel
theorem dX11_worthOf_0 : decode cX11_worthOf 0 = .ok (.iconst 0, 1) := by decide +kernel
theorem dX11_worthOf_1 : decode cX11_worthOf 1 = .ok (.istore_n 2, 1) := by decide +kernel
theorem dX11_worthOf_2 : decode cX11_worthOf 2 = .ok (.iconst 0, 1) := by decide +kernel
theorem dX11_worthOf_3 : decode cX11_worthOf 3 = .ok (.istore_n 3, 1) := by decide +kernel
theorem dX11_worthOf_4 : decode cX11_worthOf 4 = .ok (.iconst 1, 1) := by decide +kernel
theorem dX11_worthOf_5 : decode cX11_worthOf 5 = .ok (.istore 4, 2) := by decide +kernel
theorem dX11_worthOf_7 : decode cX11_worthOf 7 = .ok (.iload 4, 2) := by decide +kernel
theorem dX11_worthOf_9 : decode cX11_worthOf 9 = .ok (.iconst 1, 1) := by decide +kernel
theorem dX11_worthOf_10 : decode cX11_worthOf 10 = .ok (.aload_n 0, 1) := by decide +kernel
theorem dX11_worthOf_11 : decode cX11_worthOf 11 = .ok (.getfield 248, 3) := by decide +kernel
theorem dX11_worthOf_14 : decode cX11_worthOf 14 = .ok (.ishl, 1) := by decide +kernel
theorem dX11_worthOf_15 : decode cX11_worthOf 15 = .ok (.if_icmp .ge 79, 3) := by decide +kernel
theorem dX11_worthOf_18 : decode cX11_worthOf 18 = .ok (.iconst 0, 1) := by decide +kernel
theorem dX11_worthOf_19 : decode cX11_worthOf 19 = .ok (.istore 5, 2) := by decide +kernel
theorem dX11_worthOf_21 : decode cX11_worthOf 21 = .ok (.iconst 0, 1) := by decide +kernel
theorem dX11_worthOf_22 : decode cX11_worthOf 22 = .ok (.istore 6, 2) := by decide +kernel
theorem dX11_worthOf_24 : decode cX11_worthOf 24 = .ok (.iload 6, 2) := by decide +kernel
theorem dX11_worthOf_26 : decode cX11_worthOf 26 = .ok (.aload_n 0, 1) := by decide +kernel
theorem dX11_worthOf_27 : decode cX11_worthOf 27 = .ok (.getfield 248, 3) := by decide +kernel
theorem dX11_worthOf_30 : decode cX11_worthOf 30 = .ok (.if_icmp .ge 35, 3) := by decide +kernel
theorem dX11_worthOf_33 : decode cX11_worthOf 33 = .ok (.iload 5, 2) := by decide +kernel
theorem dX11_worthOf_35 : decode cX11_worthOf 35 = .ok (.iload 4, 2) := by decide +kernel
theorem dX11_worthOf_37 : decode cX11_worthOf 37 = .ok (.iload 6, 2) := by decide +kernel
theorem dX11_worthOf_39 : decode cX11_worthOf 39 = .ok (.invokestatic 199, 3) := by decide +kernel
theorem dX11_worthOf_42 : decode cX11_worthOf 42 = .ok (.ifCond .eq 13, 3) := by decide +kernel
theorem dX11_worthOf_45 : decode cX11_worthOf 45 = .ok (.aload_n 0, 1) := by decide +kernel
theorem dX11_worthOf_46 : decode cX11_worthOf 46 = .ok (.getfield 65, 3) := by decide +kernel
theorem dX11_worthOf_49 : decode cX11_worthOf 49 = .ok (.iload 6, 2) := by decide +kernel
theorem dX11_worthOf_51 : decode cX11_worthOf 51 = .ok (.iaload, 1) := by decide +kernel
theorem dX11_worthOf_52 : decode cX11_worthOf 52 = .ok (.goto 4, 3) := by decide +kernel
theorem dX11_worthOf_55 : decode cX11_worthOf 55 = .ok (.iconst 0, 1) := by decide +kernel
theorem dX11_worthOf_56 : decode cX11_worthOf 56 = .ok (.iadd, 1) := by decide +kernel
theorem dX11_worthOf_57 : decode cX11_worthOf 57 = .ok (.istore 5, 2) := by decide +kernel
theorem dX11_worthOf_59 : decode cX11_worthOf 59 = .ok (.iinc 6 1, 3) := by decide +kernel
theorem dX11_worthOf_62 : decode cX11_worthOf 62 = .ok (.goto (-38), 3) := by decide +kernel
theorem dX11_worthOf_65 : decode cX11_worthOf 65 = .ok (.iload 5, 2) := by decide +kernel
theorem dX11_worthOf_67 : decode cX11_worthOf 67 = .ok (.iload_n 3, 1) := by decide +kernel
theorem dX11_worthOf_68 : decode cX11_worthOf 68 = .ok (.if_icmp .le 20, 3) := by decide +kernel
theorem dX11_worthOf_71 : decode cX11_worthOf 71 = .ok (.aload_n 0, 1) := by decide +kernel
theorem dX11_worthOf_72 : decode cX11_worthOf 72 = .ok (.iload 4, 2) := by decide +kernel
theorem dX11_worthOf_74 : decode cX11_worthOf 74 = .ok (.invokevirtual 251, 3) := by decide +kernel
theorem dX11_worthOf_77 : decode cX11_worthOf 77 = .ok (.iload 4, 2) := by decide +kernel
theorem dX11_worthOf_79 : decode cX11_worthOf 79 = .ok (.if_icmp .ne 9, 3) := by decide +kernel
theorem dX11_worthOf_82 : decode cX11_worthOf 82 = .ok (.iload 4, 2) := by decide +kernel
theorem dX11_worthOf_84 : decode cX11_worthOf 84 = .ok (.istore_n 2, 1) := by decide +kernel
theorem dX11_worthOf_85 : decode cX11_worthOf 85 = .ok (.iload 5, 2) := by decide +kernel
theorem dX11_worthOf_87 : decode cX11_worthOf 87 = .ok (.istore_n 3, 1) := by decide +kernel
theorem dX11_worthOf_88 : decode cX11_worthOf 88 = .ok (.iinc 4 1, 3) := by decide +kernel
theorem dX11_worthOf_91 : decode cX11_worthOf 91 = .ok (.goto (-84), 3) := by decide +kernel
theorem dX11_worthOf_94 : decode cX11_worthOf 94 = .ok (.iload_n 1, 1) := by decide +kernel
theorem dX11_worthOf_95 : decode cX11_worthOf 95 = .ok (.ifCond .ne 7, 3) := by decide +kernel
theorem dX11_worthOf_98 : decode cX11_worthOf 98 = .ok (.iload_n 3, 1) := by decide +kernel
theorem dX11_worthOf_99 : decode cX11_worthOf 99 = .ok (.goto 4, 3) := by decide +kernel
theorem dX11_worthOf_102 : decode cX11_worthOf 102 = .ok (.iload_n 2, 1) := by decide +kernel
theorem dX11_worthOf_103 : decode cX11_worthOf 103 = .ok (.ireturn, 1) := by decide +kernel
theorem dX11_worth_0 : decode cX11_worth 0 = .ok (.iload_n 1, 1) := by decide +kernel
theorem dX11_worth_1 : decode cX11_worth 1 = .ok (.iconst 0, 1) := by decide +kernel
theorem dX11_worth_2 : decode cX11_worth 2 = .ok (.iconst 1, 1) := by decide +kernel
theorem dX11_worth_3 : decode cX11_worth 3 = .ok (.invokestatic 89, 3) := by decide +kernel
theorem dX11_worth_6 : decode cX11_worth 6 = .ok (.ifCond .eq 11, 3) := by decide +kernel
theorem dX11_worth_9 : decode cX11_worth 9 = .ok (.aload_n 0, 1) := by decide +kernel
theorem dX11_worth_10 : decode cX11_worth 10 = .ok (.iload_n 1, 1) := by decide +kernel
theorem dX11_worth_11 : decode cX11_worth 11 = .ok (.invokevirtual 254, 3) := by decide +kernel
theorem dX11_worth_14 : decode cX11_worth 14 = .ok (.goto 5, 3) := by decide +kernel
theorem dX11_worth_17 : decode cX11_worth 17 = .ok (.bipush (-2), 2) := by decide +kernel
theorem dX11_worth_19 : decode cX11_worth 19 = .ok (.ireturn, 1) := by decide +kernel
theorem dX11_lookOf_0 : decode cX11_lookOf 0 = .ok (.aload_n 0, 1) := by decide +kernel
theorem dX11_lookOf_1 : decode cX11_lookOf 1 = .ok (.aload_n 0, 1) := by decide +kernel
theorem dX11_lookOf_2 : decode cX11_lookOf 2 = .ok (.iconst 1, 1) := by decide +kernel
theorem dX11_lookOf_3 : decode cX11_lookOf 3 = .ok (.invokevirtual 254, 3) := by decide +kernel
theorem dX11_lookOf_6 : decode cX11_lookOf 6 = .ok (.invokevirtual 251, 3) := by decide +kernel
theorem dX11_lookOf_9 : decode cX11_lookOf 9 = .ok (.istore_n 2, 1) := by decide +kernel
theorem dX11_lookOf_10 : decode cX11_lookOf 10 = .ok (.aload_n 0, 1) := by decide +kernel
theorem dX11_lookOf_11 : decode cX11_lookOf 11 = .ok (.getfield 68, 3) := by decide +kernel
theorem dX11_lookOf_14 : decode cX11_lookOf 14 = .ok (.iload_n 1, 1) := by decide +kernel
theorem dX11_lookOf_15 : decode cX11_lookOf 15 = .ok (.iaload, 1) := by decide +kernel
theorem dX11_lookOf_16 : decode cX11_lookOf 16 = .ok (.ireturn, 1) := by decide +kernel
theorem dX11_look_0 : decode cX11_look 0 = .ok (.iload_n 1, 1) := by decide +kernel
theorem dX11_look_1 : decode cX11_look 1 = .ok (.iconst 0, 1) := by decide +kernel
theorem dX11_look_2 : decode cX11_look 2 = .ok (.bipush 98, 2) := by decide +kernel
theorem dX11_look_4 : decode cX11_look 4 = .ok (.invokestatic 89, 3) := by decide +kernel
theorem dX11_look_7 : decode cX11_look 7 = .ok (.ifCond .eq 11, 3) := by decide +kernel
theorem dX11_look_10 : decode cX11_look 10 = .ok (.aload_n 0, 1) := by decide +kernel
theorem dX11_look_11 : decode cX11_look 11 = .ok (.iload_n 1, 1) := by decide +kernel
theorem dX11_look_12 : decode cX11_look 12 = .ok (.invokevirtual 257, 3) := by decide +kernel
theorem dX11_look_15 : decode cX11_look 15 = .ok (.goto 5, 3) := by decide +kernel
theorem dX11_look_18 : decode cX11_look 18 = .ok (.bipush (-2), 2) := by decide +kernel
theorem dX11_look_20 : decode cX11_look 20 = .ok (.ireturn, 1) := by decide +kernel
theorem dX11_from_0 : decode cX11_from 0 = .ok (.iload_n 1, 1) := by decide +kernel
theorem dX11_from_1 : decode cX11_from 1 = .ok (.iconst 0, 1) := by decide +kernel
theorem dX11_from_2 : decode cX11_from 2 = .ok (.bipush 98, 2) := by decide +kernel
theorem dX11_from_4 : decode cX11_from 4 = .ok (.invokestatic 89, 3) := by decide +kernel
theorem dX11_from_7 : decode cX11_from 7 = .ok (.ifCond .ne 6, 3) := by decide +kernel
theorem dX11_from_10 : decode cX11_from 10 = .ok (.bipush (-2), 2) := by decide +kernel
theorem dX11_from_12 : decode cX11_from 12 = .ok (.ireturn, 1) := by decide +kernel
theorem dX11_from_13 : decode cX11_from 13 = .ok (.aload_n 0, 1) := by decide +kernel
theorem dX11_from_14 : decode cX11_from 14 = .ok (.getfield 260, 3) := by decide +kernel
theorem dX11_from_17 : decode cX11_from 17 = .ok (.istore_n 2, 1) := by decide +kernel
theorem dX11_from_18 : decode cX11_from 18 = .ok (.aload_n 0, 1) := by decide +kernel
theorem dX11_from_19 : decode cX11_from 19 = .ok (.iload_n 1, 1) := by decide +kernel
theorem dX11_from_20 : decode cX11_from 20 = .ok (.putfield 260, 3) := by decide +kernel
theorem dX11_from_23 : decode cX11_from 23 = .ok (.iload_n 2, 1) := by decide +kernel
theorem dX11_from_24 : decode cX11_from 24 = .ok (.ireturn, 1) := by decide +kernel
theorem dX11_said_0 : decode cX11_said 0 = .ok (.iload_n 1, 1) := by decide +kernel
theorem dX11_said_1 : decode cX11_said 1 = .ok (.invokestatic 138, 3) := by decide +kernel
theorem dX11_said_4 : decode cX11_said 4 = .ok (.ifCond .ne 6, 3) := by decide +kernel
theorem dX11_said_7 : decode cX11_said 7 = .ok (.bipush (-2), 2) := by decide +kernel
theorem dX11_said_9 : decode cX11_said 9 = .ok (.ireturn, 1) := by decide +kernel
theorem dX11_said_10 : decode cX11_said 10 = .ok (.aload_n 0, 1) := by decide +kernel
theorem dX11_said_11 : decode cX11_said 11 = .ok (.getfield 141, 3) := by decide +kernel
theorem dX11_said_14 : decode cX11_said 14 = .ok (.bipush 20, 2) := by decide +kernel
theorem dX11_said_16 : decode cX11_said 16 = .ok (.if_icmp .ne 6, 3) := by decide +kernel
theorem dX11_said_19 : decode cX11_said 19 = .ok (.bipush (-4), 2) := by decide +kernel
theorem dX11_said_21 : decode cX11_said 21 = .ok (.ireturn, 1) := by decide +kernel
theorem dX11_said_22 : decode cX11_said 22 = .ok (.aload_n 0, 1) := by decide +kernel
theorem dX11_said_23 : decode cX11_said 23 = .ok (.getfield 34, 3) := by decide +kernel
theorem dX11_said_26 : decode cX11_said 26 = .ok (.aload_n 0, 1) := by decide +kernel
theorem dX11_said_27 : decode cX11_said 27 = .ok (.getfield 141, 3) := by decide +kernel
theorem dX11_said_30 : decode cX11_said 30 = .ok (.iload_n 1, 1) := by decide +kernel
theorem dX11_said_31 : decode cX11_said 31 = .ok (.iastore, 1) := by decide +kernel
theorem dX11_said_32 : decode cX11_said 32 = .ok (.aload_n 0, 1) := by decide +kernel
theorem dX11_said_33 : decode cX11_said 33 = .ok (.dup, 1) := by decide +kernel
theorem dX11_said_34 : decode cX11_said 34 = .ok (.getfield 141, 3) := by decide +kernel
theorem dX11_said_37 : decode cX11_said 37 = .ok (.iconst 1, 1) := by decide +kernel
theorem dX11_said_38 : decode cX11_said 38 = .ok (.iadd, 1) := by decide +kernel
theorem dX11_said_39 : decode cX11_said 39 = .ok (.putfield 141, 3) := by decide +kernel
theorem dX11_said_42 : decode cX11_said 42 = .ok (.aload_n 0, 1) := by decide +kernel
theorem dX11_said_43 : decode cX11_said 43 = .ok (.getfield 141, 3) := by decide +kernel
theorem dX11_said_46 : decode cX11_said 46 = .ok (.ireturn, 1) := by decide +kernel
theorem dX11_wrongOf_0 : decode cX11_wrongOf 0 = .ok (.iconst (-1), 1) := by decide +kernel
theorem dX11_wrongOf_1 : decode cX11_wrongOf 1 = .ok (.istore_n 2, 1) := by decide +kernel
theorem dX11_wrongOf_2 : decode cX11_wrongOf 2 = .ok (.iconst 0, 1) := by decide +kernel
theorem dX11_wrongOf_3 : decode cX11_wrongOf 3 = .ok (.istore_n 3, 1) := by decide +kernel
theorem dX11_wrongOf_4 : decode cX11_wrongOf 4 = .ok (.iconst 0, 1) := by decide +kernel
theorem dX11_wrongOf_5 : decode cX11_wrongOf 5 = .ok (.istore 4, 2) := by decide +kernel
theorem dX11_wrongOf_7 : decode cX11_wrongOf 7 = .ok (.iload 4, 2) := by decide +kernel
theorem dX11_wrongOf_9 : decode cX11_wrongOf 9 = .ok (.aload_n 0, 1) := by decide +kernel
theorem dX11_wrongOf_10 : decode cX11_wrongOf 10 = .ok (.getfield 141, 3) := by decide +kernel
theorem dX11_wrongOf_13 : decode cX11_wrongOf 13 = .ok (.if_icmp .ge 79, 3) := by decide +kernel
theorem dX11_wrongOf_16 : decode cX11_wrongOf 16 = .ok (.aload_n 0, 1) := by decide +kernel
theorem dX11_wrongOf_17 : decode cX11_wrongOf 17 = .ok (.getfield 34, 3) := by decide +kernel
theorem dX11_wrongOf_20 : decode cX11_wrongOf 20 = .ok (.iload 4, 2) := by decide +kernel
theorem dX11_wrongOf_22 : decode cX11_wrongOf 22 = .ok (.iaload, 1) := by decide +kernel
theorem dX11_wrongOf_23 : decode cX11_wrongOf 23 = .ok (.iload 4, 2) := by decide +kernel
theorem dX11_wrongOf_25 : decode cX11_wrongOf 25 = .ok (.ifCond .ne 10, 3) := by decide +kernel
theorem dX11_wrongOf_28 : decode cX11_wrongOf 28 = .ok (.aload_n 0, 1) := by decide +kernel
theorem dX11_wrongOf_29 : decode cX11_wrongOf 29 = .ok (.getfield 260, 3) := by decide +kernel
theorem dX11_wrongOf_32 : decode cX11_wrongOf 32 = .ok (.goto 12, 3) := by decide +kernel
theorem dX11_wrongOf_35 : decode cX11_wrongOf 35 = .ok (.aload_n 0, 1) := by decide +kernel
theorem dX11_wrongOf_36 : decode cX11_wrongOf 36 = .ok (.getfield 34, 3) := by decide +kernel
theorem dX11_wrongOf_39 : decode cX11_wrongOf 39 = .ok (.iload 4, 2) := by decide +kernel
theorem dX11_wrongOf_41 : decode cX11_wrongOf 41 = .ok (.iconst 1, 1) := by decide +kernel
theorem dX11_wrongOf_42 : decode cX11_wrongOf 42 = .ok (.isub, 1) := by decide +kernel
theorem dX11_wrongOf_43 : decode cX11_wrongOf 43 = .ok (.iaload, 1) := by decide +kernel
theorem dX11_wrongOf_44 : decode cX11_wrongOf 44 = .ok (.iconst 1, 1) := by decide +kernel
theorem dX11_wrongOf_45 : decode cX11_wrongOf 45 = .ok (.iadd, 1) := by decide +kernel
theorem dX11_wrongOf_46 : decode cX11_wrongOf 46 = .ok (.if_icmp .eq 7, 3) := by decide +kernel
theorem dX11_wrongOf_49 : decode cX11_wrongOf 49 = .ok (.iconst 1, 1) := by decide +kernel
theorem dX11_wrongOf_50 : decode cX11_wrongOf 50 = .ok (.goto 4, 3) := by decide +kernel
theorem dX11_wrongOf_53 : decode cX11_wrongOf 53 = .ok (.iconst 0, 1) := by decide +kernel
theorem dX11_wrongOf_54 : decode cX11_wrongOf 54 = .ok (.istore 5, 2) := by decide +kernel
theorem dX11_wrongOf_56 : decode cX11_wrongOf 56 = .ok (.iload 5, 2) := by decide +kernel
theorem dX11_wrongOf_58 : decode cX11_wrongOf 58 = .ok (.ifCond .eq 13, 3) := by decide +kernel
theorem dX11_wrongOf_61 : decode cX11_wrongOf 61 = .ok (.iload_n 2, 1) := by decide +kernel
theorem dX11_wrongOf_62 : decode cX11_wrongOf 62 = .ok (.iconst (-1), 1) := by decide +kernel
theorem dX11_wrongOf_63 : decode cX11_wrongOf 63 = .ok (.if_icmp .ne 8, 3) := by decide +kernel
theorem dX11_wrongOf_66 : decode cX11_wrongOf 66 = .ok (.iload 4, 2) := by decide +kernel
theorem dX11_wrongOf_68 : decode cX11_wrongOf 68 = .ok (.goto 4, 3) := by decide +kernel
theorem dX11_wrongOf_71 : decode cX11_wrongOf 71 = .ok (.iload_n 2, 1) := by decide +kernel
theorem dX11_wrongOf_72 : decode cX11_wrongOf 72 = .ok (.istore_n 2, 1) := by decide +kernel
theorem dX11_wrongOf_73 : decode cX11_wrongOf 73 = .ok (.iload_n 3, 1) := by decide +kernel
theorem dX11_wrongOf_74 : decode cX11_wrongOf 74 = .ok (.iload 5, 2) := by decide +kernel
theorem dX11_wrongOf_76 : decode cX11_wrongOf 76 = .ok (.ifCond .eq 7, 3) := by decide +kernel
theorem dX11_wrongOf_79 : decode cX11_wrongOf 79 = .ok (.iconst 1, 1) := by decide +kernel
theorem dX11_wrongOf_80 : decode cX11_wrongOf 80 = .ok (.goto 4, 3) := by decide +kernel
theorem dX11_wrongOf_83 : decode cX11_wrongOf 83 = .ok (.iconst 0, 1) := by decide +kernel
theorem dX11_wrongOf_84 : decode cX11_wrongOf 84 = .ok (.iadd, 1) := by decide +kernel
theorem dX11_wrongOf_85 : decode cX11_wrongOf 85 = .ok (.istore_n 3, 1) := by decide +kernel
theorem dX11_wrongOf_86 : decode cX11_wrongOf 86 = .ok (.iinc 4 1, 3) := by decide +kernel
theorem dX11_wrongOf_89 : decode cX11_wrongOf 89 = .ok (.goto (-82), 3) := by decide +kernel
theorem dX11_wrongOf_92 : decode cX11_wrongOf 92 = .ok (.iload_n 1, 1) := by decide +kernel
theorem dX11_wrongOf_93 : decode cX11_wrongOf 93 = .ok (.ifCond .ne 7, 3) := by decide +kernel
theorem dX11_wrongOf_96 : decode cX11_wrongOf 96 = .ok (.iload_n 2, 1) := by decide +kernel
theorem dX11_wrongOf_97 : decode cX11_wrongOf 97 = .ok (.goto 4, 3) := by decide +kernel
theorem dX11_wrongOf_100 : decode cX11_wrongOf 100 = .ok (.iload_n 3, 1) := by decide +kernel
theorem dX11_wrongOf_101 : decode cX11_wrongOf 101 = .ok (.ireturn, 1) := by decide +kernel
theorem dX11_wrong_0 : decode cX11_wrong 0 = .ok (.iload_n 1, 1) := by decide +kernel
theorem dX11_wrong_1 : decode cX11_wrong 1 = .ok (.iconst 0, 1) := by decide +kernel
theorem dX11_wrong_2 : decode cX11_wrong 2 = .ok (.iconst 1, 1) := by decide +kernel
theorem dX11_wrong_3 : decode cX11_wrong 3 = .ok (.invokestatic 89, 3) := by decide +kernel
theorem dX11_wrong_6 : decode cX11_wrong 6 = .ok (.ifCond .eq 11, 3) := by decide +kernel
theorem dX11_wrong_9 : decode cX11_wrong 9 = .ok (.aload_n 0, 1) := by decide +kernel
theorem dX11_wrong_10 : decode cX11_wrong 10 = .ok (.iload_n 1, 1) := by decide +kernel
theorem dX11_wrong_11 : decode cX11_wrong 11 = .ok (.invokevirtual 263, 3) := by decide +kernel
theorem dX11_wrong_14 : decode cX11_wrong 14 = .ok (.goto 5, 3) := by decide +kernel
theorem dX11_wrong_17 : decode cX11_wrong 17 = .ok (.bipush (-2), 2) := by decide +kernel
theorem dX11_wrong_19 : decode cX11_wrong 19 = .ok (.ireturn, 1) := by decide +kernel
theorem dX11_blameNow_0 : decode cX11_blameNow 0 = .ok (.aload_n 0, 1) := by decide +kernel
theorem dX11_blameNow_1 : decode cX11_blameNow 1 = .ok (.iconst 0, 1) := by decide +kernel
theorem dX11_blameNow_2 : decode cX11_blameNow 2 = .ok (.invokevirtual 263, 3) := by decide +kernel
theorem dX11_blameNow_5 : decode cX11_blameNow 5 = .ok (.istore_n 1, 1) := by decide +kernel
theorem dX11_blameNow_6 : decode cX11_blameNow 6 = .ok (.aload_n 0, 1) := by decide +kernel
theorem dX11_blameNow_7 : decode cX11_blameNow 7 = .ok (.getfield 260, 3) := by decide +kernel
theorem dX11_blameNow_10 : decode cX11_blameNow 10 = .ok (.iload_n 1, 1) := by decide +kernel
theorem dX11_blameNow_11 : decode cX11_blameNow 11 = .ok (.iadd, 1) := by decide +kernel
theorem dX11_blameNow_12 : decode cX11_blameNow 12 = .ok (.iconst 1, 1) := by decide +kernel
theorem dX11_blameNow_13 : decode cX11_blameNow 13 = .ok (.isub, 1) := by decide +kernel
theorem dX11_blameNow_14 : decode cX11_blameNow 14 = .ok (.istore_n 2, 1) := by decide +kernel
theorem dX11_blameNow_15 : decode cX11_blameNow 15 = .ok (.iload_n 1, 1) := by decide +kernel
theorem dX11_blameNow_16 : decode cX11_blameNow 16 = .ok (.iconst (-1), 1) := by decide +kernel
theorem dX11_blameNow_17 : decode cX11_blameNow 17 = .ok (.if_icmp .eq 30, 3) := by decide +kernel
theorem dX11_blameNow_20 : decode cX11_blameNow 20 = .ok (.aload_n 0, 1) := by decide +kernel
theorem dX11_blameNow_21 : decode cX11_blameNow 21 = .ok (.iload_n 2, 1) := by decide +kernel
theorem dX11_blameNow_22 : decode cX11_blameNow 22 = .ok (.invokevirtual 124, 3) := by decide +kernel
theorem dX11_blameNow_25 : decode cX11_blameNow 25 = .ok (.ifCond .eq 22, 3) := by decide +kernel
theorem dX11_blameNow_28 : decode cX11_blameNow 28 = .ok (.aload_n 0, 1) := by decide +kernel
theorem dX11_blameNow_29 : decode cX11_blameNow 29 = .ok (.getfield 13, 3) := by decide +kernel
theorem dX11_blameNow_32 : decode cX11_blameNow 32 = .ok (.iload_n 2, 1) := by decide +kernel
theorem dX11_blameNow_33 : decode cX11_blameNow 33 = .ok (.iaload, 1) := by decide +kernel
theorem dX11_blameNow_34 : decode cX11_blameNow 34 = .ok (.iconst 3, 1) := by decide +kernel
theorem dX11_blameNow_35 : decode cX11_blameNow 35 = .ok (.if_icmp .ge 12, 3) := by decide +kernel
theorem dX11_blameNow_38 : decode cX11_blameNow 38 = .ok (.aload_n 0, 1) := by decide +kernel
theorem dX11_blameNow_39 : decode cX11_blameNow 39 = .ok (.getfield 13, 3) := by decide +kernel
theorem dX11_blameNow_42 : decode cX11_blameNow 42 = .ok (.iload_n 2, 1) := by decide +kernel
theorem dX11_blameNow_43 : decode cX11_blameNow 43 = .ok (.iaload, 1) := by decide +kernel
theorem dX11_blameNow_44 : decode cX11_blameNow 44 = .ok (.goto 4, 3) := by decide +kernel
theorem dX11_blameNow_47 : decode cX11_blameNow 47 = .ok (.iconst (-1), 1) := by decide +kernel
theorem dX11_blameNow_48 : decode cX11_blameNow 48 = .ok (.ireturn, 1) := by decide +kernel
theorem dX11_blame_0 : decode cX11_blame 0 = .ok (.aload_n 0, 1) := by decide +kernel
theorem dX11_blame_1 : decode cX11_blame 1 = .ok (.invokevirtual 266, 3) := by decide +kernel
theorem dX11_blame_4 : decode cX11_blame 4 = .ok (.ireturn, 1) := by decide +kernel
theorem dX11_nightOf_0 : decode cX11_nightOf 0 = .ok (.aload_n 0, 1) := by decide +kernel
theorem dX11_nightOf_1 : decode cX11_nightOf 1 = .ok (.invokevirtual 121, 3) := by decide +kernel
theorem dX11_nightOf_4 : decode cX11_nightOf 4 = .ok (.iload_n 1, 1) := by decide +kernel
theorem dX11_nightOf_5 : decode cX11_nightOf 5 = .ok (.istore_n 3, 1) := by decide +kernel
theorem dX11_nightOf_6 : decode cX11_nightOf 6 = .ok (.iconst 0, 1) := by decide +kernel
theorem dX11_nightOf_7 : decode cX11_nightOf 7 = .ok (.istore 4, 2) := by decide +kernel
theorem dX11_nightOf_9 : decode cX11_nightOf 9 = .ok (.iconst 0, 1) := by decide +kernel
theorem dX11_nightOf_10 : decode cX11_nightOf 10 = .ok (.istore 5, 2) := by decide +kernel
theorem dX11_nightOf_12 : decode cX11_nightOf 12 = .ok (.iconst 0, 1) := by decide +kernel
theorem dX11_nightOf_13 : decode cX11_nightOf 13 = .ok (.istore 6, 2) := by decide +kernel
theorem dX11_nightOf_15 : decode cX11_nightOf 15 = .ok (.iload 6, 2) := by decide +kernel
theorem dX11_nightOf_17 : decode cX11_nightOf 17 = .ok (.iload_n 2, 1) := by decide +kernel
theorem dX11_nightOf_18 : decode cX11_nightOf 18 = .ok (.ifCond .ne 7, 3) := by decide +kernel
theorem dX11_nightOf_21 : decode cX11_nightOf 21 = .ok (.iconst 1, 1) := by decide +kernel
theorem dX11_nightOf_22 : decode cX11_nightOf 22 = .ok (.goto 4, 3) := by decide +kernel
theorem dX11_nightOf_25 : decode cX11_nightOf 25 = .ok (.iload_n 2, 1) := by decide +kernel
theorem dX11_nightOf_26 : decode cX11_nightOf 26 = .ok (.if_icmp .ge 130, 3) := by decide +kernel
theorem dX11_nightOf_29 : decode cX11_nightOf 29 = .ok (.iconst 0, 1) := by decide +kernel
theorem dX11_nightOf_30 : decode cX11_nightOf 30 = .ok (.istore 5, 2) := by decide +kernel
theorem dX11_nightOf_32 : decode cX11_nightOf 32 = .ok (.iconst 0, 1) := by decide +kernel
theorem dX11_nightOf_33 : decode cX11_nightOf 33 = .ok (.istore 7, 2) := by decide +kernel
theorem dX11_nightOf_35 : decode cX11_nightOf 35 = .ok (.iload 7, 2) := by decide +kernel
theorem dX11_nightOf_37 : decode cX11_nightOf 37 = .ok (.aload_n 0, 1) := by decide +kernel
theorem dX11_nightOf_38 : decode cX11_nightOf 38 = .ok (.getfield 97, 3) := by decide +kernel
theorem dX11_nightOf_41 : decode cX11_nightOf 41 = .ok (.if_icmp .ge 94, 3) := by decide +kernel
theorem dX11_nightOf_44 : decode cX11_nightOf 44 = .ok (.aload_n 0, 1) := by decide +kernel
theorem dX11_nightOf_45 : decode cX11_nightOf 45 = .ok (.getfield 13, 3) := by decide +kernel
theorem dX11_nightOf_48 : decode cX11_nightOf 48 = .ok (.iload 7, 2) := by decide +kernel
theorem dX11_nightOf_50 : decode cX11_nightOf 50 = .ok (.iaload, 1) := by decide +kernel
theorem dX11_nightOf_51 : decode cX11_nightOf 51 = .ok (.iconst 3, 1) := by decide +kernel
theorem dX11_nightOf_52 : decode cX11_nightOf 52 = .ok (.if_icmp .ge 77, 3) := by decide +kernel
theorem dX11_nightOf_55 : decode cX11_nightOf 55 = .ok (.ldc_w 269, 3) := by decide +kernel
theorem dX11_nightOf_58 : decode cX11_nightOf 58 = .ok (.iload_n 3, 1) := by decide +kernel
theorem dX11_nightOf_59 : decode cX11_nightOf 59 = .ok (.imul, 1) := by decide +kernel
theorem dX11_nightOf_60 : decode cX11_nightOf 60 = .ok (.sipush 12345, 3) := by decide +kernel
theorem dX11_nightOf_63 : decode cX11_nightOf 63 = .ok (.iadd, 1) := by decide +kernel
theorem dX11_nightOf_64 : decode cX11_nightOf 64 = .ok (.istore_n 3, 1) := by decide +kernel
theorem dX11_nightOf_65 : decode cX11_nightOf 65 = .ok (.iload_n 3, 1) := by decide +kernel
theorem dX11_nightOf_66 : decode cX11_nightOf 66 = .ok (.bipush 16, 2) := by decide +kernel
theorem dX11_nightOf_68 : decode cX11_nightOf 68 = .ok (.iushr, 1) := by decide +kernel
theorem dX11_nightOf_69 : decode cX11_nightOf 69 = .ok (.bipush 16, 2) := by decide +kernel
theorem dX11_nightOf_71 : decode cX11_nightOf 71 = .ok (.irem, 1) := by decide +kernel
theorem dX11_nightOf_72 : decode cX11_nightOf 72 = .ok (.istore 8, 2) := by decide +kernel
theorem dX11_nightOf_74 : decode cX11_nightOf 74 = .ok (.aload_n 0, 1) := by decide +kernel
theorem dX11_nightOf_75 : decode cX11_nightOf 75 = .ok (.getfield 13, 3) := by decide +kernel
theorem dX11_nightOf_78 : decode cX11_nightOf 78 = .ok (.iload 7, 2) := by decide +kernel
theorem dX11_nightOf_80 : decode cX11_nightOf 80 = .ok (.iaload, 1) := by decide +kernel
theorem dX11_nightOf_81 : decode cX11_nightOf 81 = .ok (.istore 9, 2) := by decide +kernel
theorem dX11_nightOf_83 : decode cX11_nightOf 83 = .ok (.iload 5, 2) := by decide +kernel
theorem dX11_nightOf_85 : decode cX11_nightOf 85 = .ok (.iload 8, 2) := by decide +kernel
theorem dX11_nightOf_87 : decode cX11_nightOf 87 = .ok (.aload_n 0, 1) := by decide +kernel
theorem dX11_nightOf_88 : decode cX11_nightOf 88 = .ok (.getfield 25, 3) := by decide +kernel
theorem dX11_nightOf_91 : decode cX11_nightOf 91 = .ok (.iload 9, 2) := by decide +kernel
theorem dX11_nightOf_93 : decode cX11_nightOf 93 = .ok (.iaload, 1) := by decide +kernel
theorem dX11_nightOf_94 : decode cX11_nightOf 94 = .ok (.if_icmp .ge 7, 3) := by decide +kernel
theorem dX11_nightOf_97 : decode cX11_nightOf 97 = .ok (.iconst (-1), 1) := by decide +kernel
theorem dX11_nightOf_98 : decode cX11_nightOf 98 = .ok (.goto 28, 3) := by decide +kernel
theorem dX11_nightOf_101 : decode cX11_nightOf 101 = .ok (.iload 8, 2) := by decide +kernel
theorem dX11_nightOf_103 : decode cX11_nightOf 103 = .ok (.aload_n 0, 1) := by decide +kernel
theorem dX11_nightOf_104 : decode cX11_nightOf 104 = .ok (.getfield 25, 3) := by decide +kernel
theorem dX11_nightOf_107 : decode cX11_nightOf 107 = .ok (.iload 9, 2) := by decide +kernel
theorem dX11_nightOf_109 : decode cX11_nightOf 109 = .ok (.iaload, 1) := by decide +kernel
theorem dX11_nightOf_110 : decode cX11_nightOf 110 = .ok (.aload_n 0, 1) := by decide +kernel
theorem dX11_nightOf_111 : decode cX11_nightOf 111 = .ok (.getfield 28, 3) := by decide +kernel
theorem dX11_nightOf_114 : decode cX11_nightOf 114 = .ok (.iload 9, 2) := by decide +kernel
theorem dX11_nightOf_116 : decode cX11_nightOf 116 = .ok (.iaload, 1) := by decide +kernel
theorem dX11_nightOf_117 : decode cX11_nightOf 117 = .ok (.iadd, 1) := by decide +kernel
theorem dX11_nightOf_118 : decode cX11_nightOf 118 = .ok (.if_icmp .ge 7, 3) := by decide +kernel
theorem dX11_nightOf_121 : decode cX11_nightOf 121 = .ok (.iconst 1, 1) := by decide +kernel
theorem dX11_nightOf_122 : decode cX11_nightOf 122 = .ok (.goto 4, 3) := by decide +kernel
theorem dX11_nightOf_125 : decode cX11_nightOf 125 = .ok (.iconst 0, 1) := by decide +kernel
theorem dX11_nightOf_126 : decode cX11_nightOf 126 = .ok (.iadd, 1) := by decide +kernel
theorem dX11_nightOf_127 : decode cX11_nightOf 127 = .ok (.istore 5, 2) := by decide +kernel
theorem dX11_nightOf_129 : decode cX11_nightOf 129 = .ok (.iinc 7 1, 3) := by decide +kernel
theorem dX11_nightOf_132 : decode cX11_nightOf 132 = .ok (.goto (-97), 3) := by decide +kernel
theorem dX11_nightOf_135 : decode cX11_nightOf 135 = .ok (.iload 4, 2) := by decide +kernel
theorem dX11_nightOf_137 : decode cX11_nightOf 137 = .ok (.iload 5, 2) := by decide +kernel
theorem dX11_nightOf_139 : decode cX11_nightOf 139 = .ok (.ifCond .ne 7, 3) := by decide +kernel
theorem dX11_nightOf_142 : decode cX11_nightOf 142 = .ok (.iconst 1, 1) := by decide +kernel
theorem dX11_nightOf_143 : decode cX11_nightOf 143 = .ok (.goto 4, 3) := by decide +kernel
theorem dX11_nightOf_146 : decode cX11_nightOf 146 = .ok (.iconst 0, 1) := by decide +kernel
theorem dX11_nightOf_147 : decode cX11_nightOf 147 = .ok (.iadd, 1) := by decide +kernel
theorem dX11_nightOf_148 : decode cX11_nightOf 148 = .ok (.istore 4, 2) := by decide +kernel
theorem dX11_nightOf_150 : decode cX11_nightOf 150 = .ok (.iinc 6 1, 3) := by decide +kernel
theorem dX11_nightOf_153 : decode cX11_nightOf 153 = .ok (.goto (-138), 3) := by decide +kernel
theorem dX11_nightOf_156 : decode cX11_nightOf 156 = .ok (.iload_n 2, 1) := by decide +kernel
theorem dX11_nightOf_157 : decode cX11_nightOf 157 = .ok (.ifCond .ne 8, 3) := by decide +kernel
theorem dX11_nightOf_160 : decode cX11_nightOf 160 = .ok (.iload 5, 2) := by decide +kernel
theorem dX11_nightOf_162 : decode cX11_nightOf 162 = .ok (.goto 5, 3) := by decide +kernel
theorem dX11_nightOf_165 : decode cX11_nightOf 165 = .ok (.iload 4, 2) := by decide +kernel
theorem dX11_nightOf_167 : decode cX11_nightOf 167 = .ok (.ireturn, 1) := by decide +kernel
theorem dX11_night_0 : decode cX11_night 0 = .ok (.iload_n 2, 1) := by decide +kernel
theorem dX11_night_1 : decode cX11_night 1 = .ok (.iconst 0, 1) := by decide +kernel
theorem dX11_night_2 : decode cX11_night 2 = .ok (.bipush 99, 2) := by decide +kernel
theorem dX11_night_4 : decode cX11_night 4 = .ok (.invokestatic 89, 3) := by decide +kernel
theorem dX11_night_7 : decode cX11_night 7 = .ok (.ifCond .eq 12, 3) := by decide +kernel
theorem dX11_night_10 : decode cX11_night 10 = .ok (.aload_n 0, 1) := by decide +kernel
theorem dX11_night_11 : decode cX11_night 11 = .ok (.iload_n 1, 1) := by decide +kernel
theorem dX11_night_12 : decode cX11_night 12 = .ok (.iload_n 2, 1) := by decide +kernel
theorem dX11_night_13 : decode cX11_night 13 = .ok (.invokevirtual 270, 3) := by decide +kernel
theorem dX11_night_16 : decode cX11_night 16 = .ok (.goto 5, 3) := by decide +kernel
theorem dX11_night_19 : decode cX11_night 19 = .ok (.bipush (-102), 2) := by decide +kernel
theorem dX11_night_21 : decode cX11_night 21 = .ok (.ireturn, 1) := by decide +kernel
theorem dX11_meets_0 : decode cX11_meets 0 = .ok (.aload_n 0, 1) := by decide +kernel
theorem dX11_meets_1 : decode cX11_meets 1 = .ok (.iload_n 1, 1) := by decide +kernel
theorem dX11_meets_2 : decode cX11_meets 2 = .ok (.putfield 273, 3) := by decide +kernel
theorem dX11_meets_5 : decode cX11_meets 5 = .ok (.bipush (-10), 2) := by decide +kernel
theorem dX11_meets_7 : decode cX11_meets 7 = .ok (.iload_n 1, 1) := by decide +kernel
theorem dX11_meets_8 : decode cX11_meets 8 = .ok (.isub, 1) := by decide +kernel
theorem dX11_meets_9 : decode cX11_meets 9 = .ok (.ireturn, 1) := by decide +kernel
theorem dX11_isSheet_0 : decode cX11_isSheet 0 = .ok (.iload_n 0, 1) := by decide +kernel
theorem dX11_isSheet_1 : decode cX11_isSheet 1 = .ok (.iconst 0, 1) := by decide +kernel
theorem dX11_isSheet_2 : decode cX11_isSheet 2 = .ok (.iconst 3, 1) := by decide +kernel
theorem dX11_isSheet_3 : decode cX11_isSheet 3 = .ok (.invokestatic 89, 3) := by decide +kernel
theorem dX11_isSheet_6 : decode cX11_isSheet 6 = .ok (.ireturn, 1) := by decide +kernel
theorem dX11_sheet_0 : decode cX11_sheet 0 = .ok (.iload_n 1, 1) := by decide +kernel
theorem dX11_sheet_1 : decode cX11_sheet 1 = .ok (.invokestatic 132, 3) := by decide +kernel
theorem dX11_sheet_4 : decode cX11_sheet 4 = .ok (.ifCond .eq 18, 3) := by decide +kernel
theorem dX11_sheet_7 : decode cX11_sheet 7 = .ok (.iload_n 2, 1) := by decide +kernel
theorem dX11_sheet_8 : decode cX11_sheet 8 = .ok (.iconst 0, 1) := by decide +kernel
theorem dX11_sheet_9 : decode cX11_sheet 9 = .ok (.iconst 2, 1) := by decide +kernel
theorem dX11_sheet_10 : decode cX11_sheet 10 = .ok (.invokestatic 89, 3) := by decide +kernel
theorem dX11_sheet_13 : decode cX11_sheet 13 = .ok (.ifCond .eq 9, 3) := by decide +kernel
theorem dX11_sheet_16 : decode cX11_sheet 16 = .ok (.iload_n 3, 1) := by decide +kernel
theorem dX11_sheet_17 : decode cX11_sheet 17 = .ok (.bipush 48, 2) := by decide +kernel
theorem dX11_sheet_19 : decode cX11_sheet 19 = .ok (.if_icmp .le 6, 3) := by decide +kernel
theorem dX11_sheet_22 : decode cX11_sheet 22 = .ok (.bipush (-2), 2) := by decide +kernel
theorem dX11_sheet_24 : decode cX11_sheet 24 = .ok (.ireturn, 1) := by decide +kernel
theorem dX11_sheet_25 : decode cX11_sheet 25 = .ok (.iload_n 3, 1) := by decide +kernel
theorem dX11_sheet_26 : decode cX11_sheet 26 = .ok (.ifCond .ge 9, 3) := by decide +kernel
theorem dX11_sheet_29 : decode cX11_sheet 29 = .ok (.aload_n 0, 1) := by decide +kernel
theorem dX11_sheet_30 : decode cX11_sheet 30 = .ok (.iconst 5, 1) := by decide +kernel
theorem dX11_sheet_31 : decode cX11_sheet 31 = .ok (.invokevirtual 135, 3) := by decide +kernel
theorem dX11_sheet_34 : decode cX11_sheet 34 = .ok (.ireturn, 1) := by decide +kernel
theorem dX11_sheet_35 : decode cX11_sheet 35 = .ok (.aload_n 0, 1) := by decide +kernel
theorem dX11_sheet_36 : decode cX11_sheet 36 = .ok (.getfield 71, 3) := by decide +kernel
theorem dX11_sheet_39 : decode cX11_sheet 39 = .ok (.iload_n 1, 1) := by decide +kernel
theorem dX11_sheet_40 : decode cX11_sheet 40 = .ok (.iconst 1, 1) := by decide +kernel
theorem dX11_sheet_41 : decode cX11_sheet 41 = .ok (.bastore, 1) := by decide +kernel
theorem dX11_sheet_42 : decode cX11_sheet 42 = .ok (.aload_n 0, 1) := by decide +kernel
theorem dX11_sheet_43 : decode cX11_sheet 43 = .ok (.getfield 75, 3) := by decide +kernel
theorem dX11_sheet_46 : decode cX11_sheet 46 = .ok (.iload_n 1, 1) := by decide +kernel
theorem dX11_sheet_47 : decode cX11_sheet 47 = .ok (.iload_n 2, 1) := by decide +kernel
theorem dX11_sheet_48 : decode cX11_sheet 48 = .ok (.iastore, 1) := by decide +kernel
theorem dX11_sheet_49 : decode cX11_sheet 49 = .ok (.aload_n 0, 1) := by decide +kernel
theorem dX11_sheet_50 : decode cX11_sheet 50 = .ok (.getfield 78, 3) := by decide +kernel
theorem dX11_sheet_53 : decode cX11_sheet 53 = .ok (.iload_n 1, 1) := by decide +kernel
theorem dX11_sheet_54 : decode cX11_sheet 54 = .ok (.iload_n 3, 1) := by decide +kernel
theorem dX11_sheet_55 : decode cX11_sheet 55 = .ok (.iastore, 1) := by decide +kernel
theorem dX11_sheet_56 : decode cX11_sheet 56 = .ok (.iconst 0, 1) := by decide +kernel
theorem dX11_sheet_57 : decode cX11_sheet 57 = .ok (.istore 4, 2) := by decide +kernel
theorem dX11_sheet_59 : decode cX11_sheet 59 = .ok (.iload 4, 2) := by decide +kernel
theorem dX11_sheet_61 : decode cX11_sheet 61 = .ok (.bipush 48, 2) := by decide +kernel
theorem dX11_sheet_63 : decode cX11_sheet 63 = .ok (.if_icmp .ge 22, 3) := by decide +kernel
theorem dX11_sheet_66 : decode cX11_sheet 66 = .ok (.aload_n 0, 1) := by decide +kernel
theorem dX11_sheet_67 : decode cX11_sheet 67 = .ok (.getfield 81, 3) := by decide +kernel
theorem dX11_sheet_70 : decode cX11_sheet 70 = .ok (.bipush 48, 2) := by decide +kernel
theorem dX11_sheet_72 : decode cX11_sheet 72 = .ok (.iload_n 1, 1) := by decide +kernel
theorem dX11_sheet_73 : decode cX11_sheet 73 = .ok (.imul, 1) := by decide +kernel
theorem dX11_sheet_74 : decode cX11_sheet 74 = .ok (.iload 4, 2) := by decide +kernel
theorem dX11_sheet_76 : decode cX11_sheet 76 = .ok (.iadd, 1) := by decide +kernel
theorem dX11_sheet_77 : decode cX11_sheet 77 = .ok (.iconst 0, 1) := by decide +kernel
theorem dX11_sheet_78 : decode cX11_sheet 78 = .ok (.iastore, 1) := by decide +kernel
theorem dX11_sheet_79 : decode cX11_sheet 79 = .ok (.iinc 4 1, 3) := by decide +kernel
theorem dX11_sheet_82 : decode cX11_sheet 82 = .ok (.goto (-23), 3) := by decide +kernel
theorem dX11_sheet_85 : decode cX11_sheet 85 = .ok (.iload_n 3, 1) := by decide +kernel
theorem dX11_sheet_86 : decode cX11_sheet 86 = .ok (.ireturn, 1) := by decide +kernel
theorem dX11_lose_0 : decode cX11_lose 0 = .ok (.iload_n 1, 1) := by decide +kernel
theorem dX11_lose_1 : decode cX11_lose 1 = .ok (.invokestatic 132, 3) := by decide +kernel
theorem dX11_lose_4 : decode cX11_lose 4 = .ok (.ifCond .ne 6, 3) := by decide +kernel
theorem dX11_lose_7 : decode cX11_lose 7 = .ok (.bipush (-2), 2) := by decide +kernel
theorem dX11_lose_9 : decode cX11_lose 9 = .ok (.ireturn, 1) := by decide +kernel
theorem dX11_lose_10 : decode cX11_lose 10 = .ok (.aload_n 0, 1) := by decide +kernel
theorem dX11_lose_11 : decode cX11_lose 11 = .ok (.getfield 71, 3) := by decide +kernel
theorem dX11_lose_14 : decode cX11_lose 14 = .ok (.iload_n 1, 1) := by decide +kernel
theorem dX11_lose_15 : decode cX11_lose 15 = .ok (.baload, 1) := by decide +kernel
theorem dX11_lose_16 : decode cX11_lose 16 = .ok (.ifCond .ne 9, 3) := by decide +kernel
theorem dX11_lose_19 : decode cX11_lose 19 = .ok (.aload_n 0, 1) := by decide +kernel
theorem dX11_lose_20 : decode cX11_lose 20 = .ok (.iconst 1, 1) := by decide +kernel
theorem dX11_lose_21 : decode cX11_lose 21 = .ok (.invokevirtual 135, 3) := by decide +kernel
theorem dX11_lose_24 : decode cX11_lose 24 = .ok (.ireturn, 1) := by decide +kernel
theorem dX11_lose_25 : decode cX11_lose 25 = .ok (.aload_n 0, 1) := by decide +kernel
theorem dX11_lose_26 : decode cX11_lose 26 = .ok (.getfield 71, 3) := by decide +kernel
theorem dX11_lose_29 : decode cX11_lose 29 = .ok (.iload_n 1, 1) := by decide +kernel
theorem dX11_lose_30 : decode cX11_lose 30 = .ok (.iconst 0, 1) := by decide +kernel
theorem dX11_lose_31 : decode cX11_lose 31 = .ok (.bastore, 1) := by decide +kernel
theorem dX11_lose_32 : decode cX11_lose 32 = .ok (.aload_n 0, 1) := by decide +kernel
theorem dX11_lose_33 : decode cX11_lose 33 = .ok (.getfield 78, 3) := by decide +kernel
theorem dX11_lose_36 : decode cX11_lose 36 = .ok (.iload_n 1, 1) := by decide +kernel
theorem dX11_lose_37 : decode cX11_lose 37 = .ok (.iaload, 1) := by decide +kernel
theorem dX11_lose_38 : decode cX11_lose 38 = .ok (.ireturn, 1) := by decide +kernel
theorem dX11_lacks_0 : decode cX11_lacks 0 = .ok (.aload_n 0, 1) := by decide +kernel
theorem dX11_lacks_1 : decode cX11_lacks 1 = .ok (.getfield 71, 3) := by decide +kernel
theorem dX11_lacks_4 : decode cX11_lacks 4 = .ok (.iload_n 1, 1) := by decide +kernel
theorem dX11_lacks_5 : decode cX11_lacks 5 = .ok (.baload, 1) := by decide +kernel
theorem dX11_lacks_6 : decode cX11_lacks 6 = .ok (.ifCond .ne 7, 3) := by decide +kernel
theorem dX11_lacks_9 : decode cX11_lacks 9 = .ok (.iconst 1, 1) := by decide +kernel
theorem dX11_lacks_10 : decode cX11_lacks 10 = .ok (.goto 38, 3) := by decide +kernel
theorem dX11_lacks_13 : decode cX11_lacks 13 = .ok (.aload_n 0, 1) := by decide +kernel
theorem dX11_lacks_14 : decode cX11_lacks 14 = .ok (.getfield 75, 3) := by decide +kernel
theorem dX11_lacks_17 : decode cX11_lacks 17 = .ok (.iload_n 1, 1) := by decide +kernel
theorem dX11_lacks_18 : decode cX11_lacks 18 = .ok (.iaload, 1) := by decide +kernel
theorem dX11_lacks_19 : decode cX11_lacks 19 = .ok (.iload_n 2, 1) := by decide +kernel
theorem dX11_lacks_20 : decode cX11_lacks 20 = .ok (.if_icmp .eq 7, 3) := by decide +kernel
theorem dX11_lacks_23 : decode cX11_lacks 23 = .ok (.iconst 3, 1) := by decide +kernel
theorem dX11_lacks_24 : decode cX11_lacks 24 = .ok (.goto 24, 3) := by decide +kernel
theorem dX11_lacks_27 : decode cX11_lacks 27 = .ok (.iload_n 3, 1) := by decide +kernel
theorem dX11_lacks_28 : decode cX11_lacks 28 = .ok (.iconst 0, 1) := by decide +kernel
theorem dX11_lacks_29 : decode cX11_lacks 29 = .ok (.aload_n 0, 1) := by decide +kernel
theorem dX11_lacks_30 : decode cX11_lacks 30 = .ok (.getfield 78, 3) := by decide +kernel
theorem dX11_lacks_33 : decode cX11_lacks 33 = .ok (.iload_n 1, 1) := by decide +kernel
theorem dX11_lacks_34 : decode cX11_lacks 34 = .ok (.iaload, 1) := by decide +kernel
theorem dX11_lacks_35 : decode cX11_lacks 35 = .ok (.iconst 1, 1) := by decide +kernel
theorem dX11_lacks_36 : decode cX11_lacks 36 = .ok (.isub, 1) := by decide +kernel
theorem dX11_lacks_37 : decode cX11_lacks 37 = .ok (.invokestatic 89, 3) := by decide +kernel
theorem dX11_lacks_40 : decode cX11_lacks 40 = .ok (.ifCond .eq 7, 3) := by decide +kernel
theorem dX11_lacks_43 : decode cX11_lacks 43 = .ok (.iconst 0, 1) := by decide +kernel
theorem dX11_lacks_44 : decode cX11_lacks 44 = .ok (.goto 4, 3) := by decide +kernel
theorem dX11_lacks_47 : decode cX11_lacks 47 = .ok (.iconst 2, 1) := by decide +kernel
theorem dX11_lacks_48 : decode cX11_lacks 48 = .ok (.ireturn, 1) := by decide +kernel
theorem dX11_keep_0 : decode cX11_keep 0 = .ok (.aload_n 0, 1) := by decide +kernel
theorem dX11_keep_1 : decode cX11_keep 1 = .ok (.getfield 81, 3) := by decide +kernel
theorem dX11_keep_4 : decode cX11_keep 4 = .ok (.bipush 48, 2) := by decide +kernel
theorem dX11_keep_6 : decode cX11_keep 6 = .ok (.iload_n 1, 1) := by decide +kernel
theorem dX11_keep_7 : decode cX11_keep 7 = .ok (.imul, 1) := by decide +kernel
theorem dX11_keep_8 : decode cX11_keep 8 = .ok (.iload_n 2, 1) := by decide +kernel
theorem dX11_keep_9 : decode cX11_keep 9 = .ok (.iadd, 1) := by decide +kernel
theorem dX11_keep_10 : decode cX11_keep 10 = .ok (.aload_n 0, 1) := by decide +kernel
theorem dX11_keep_11 : decode cX11_keep 11 = .ok (.getfield 75, 3) := by decide +kernel
theorem dX11_keep_14 : decode cX11_keep 14 = .ok (.iload_n 1, 1) := by decide +kernel
theorem dX11_keep_15 : decode cX11_keep 15 = .ok (.iaload, 1) := by decide +kernel
theorem dX11_keep_16 : decode cX11_keep 16 = .ok (.ifCond .ne 8, 3) := by decide +kernel
theorem dX11_keep_19 : decode cX11_keep 19 = .ok (.iload_n 3, 1) := by decide +kernel
theorem dX11_keep_20 : decode cX11_keep 20 = .ok (.i2b, 1) := by decide +kernel
theorem dX11_keep_21 : decode cX11_keep 21 = .ok (.goto 19, 3) := by decide +kernel
theorem dX11_keep_24 : decode cX11_keep 24 = .ok (.aload_n 0, 1) := by decide +kernel
theorem dX11_keep_25 : decode cX11_keep 25 = .ok (.getfield 75, 3) := by decide +kernel
theorem dX11_keep_28 : decode cX11_keep 28 = .ok (.iload_n 1, 1) := by decide +kernel
theorem dX11_keep_29 : decode cX11_keep 29 = .ok (.iaload, 1) := by decide +kernel
theorem dX11_keep_30 : decode cX11_keep 30 = .ok (.iconst 1, 1) := by decide +kernel
theorem dX11_keep_31 : decode cX11_keep 31 = .ok (.if_icmp .ne 8, 3) := by decide +kernel
theorem dX11_keep_34 : decode cX11_keep 34 = .ok (.iload_n 3, 1) := by decide +kernel
theorem dX11_keep_35 : decode cX11_keep 35 = .ok (.i2s, 1) := by decide +kernel
theorem dX11_keep_36 : decode cX11_keep 36 = .ok (.goto 4, 3) := by decide +kernel
theorem dX11_keep_39 : decode cX11_keep 39 = .ok (.iload_n 3, 1) := by decide +kernel
theorem dX11_keep_40 : decode cX11_keep 40 = .ok (.iastore, 1) := by decide +kernel
theorem dX11_keep_41 : decode cX11_keep 41 = .ok (.return_, 1) := by decide +kernel
theorem dX11_put_0 : decode cX11_put 0 = .ok (.iload_n 1, 1) := by decide +kernel
theorem dX11_put_1 : decode cX11_put 1 = .ok (.invokestatic 132, 3) := by decide +kernel
theorem dX11_put_4 : decode cX11_put 4 = .ok (.ifCond .eq 12, 3) := by decide +kernel
theorem dX11_put_7 : decode cX11_put 7 = .ok (.iload_n 2, 1) := by decide +kernel
theorem dX11_put_8 : decode cX11_put 8 = .ok (.iconst 0, 1) := by decide +kernel
theorem dX11_put_9 : decode cX11_put 9 = .ok (.iconst 2, 1) := by decide +kernel
theorem dX11_put_10 : decode cX11_put 10 = .ok (.invokestatic 89, 3) := by decide +kernel
theorem dX11_put_13 : decode cX11_put 13 = .ok (.ifCond .ne 6, 3) := by decide +kernel
theorem dX11_put_16 : decode cX11_put 16 = .ok (.bipush (-2), 2) := by decide +kernel
theorem dX11_put_18 : decode cX11_put 18 = .ok (.ireturn, 1) := by decide +kernel
theorem dX11_put_19 : decode cX11_put 19 = .ok (.aload_n 0, 1) := by decide +kernel
theorem dX11_put_20 : decode cX11_put 20 = .ok (.iload_n 1, 1) := by decide +kernel
theorem dX11_put_21 : decode cX11_put 21 = .ok (.iload_n 2, 1) := by decide +kernel
theorem dX11_put_22 : decode cX11_put 22 = .ok (.iload_n 3, 1) := by decide +kernel
theorem dX11_put_23 : decode cX11_put 23 = .ok (.invokevirtual 276, 3) := by decide +kernel
theorem dX11_put_26 : decode cX11_put 26 = .ok (.istore 5, 2) := by decide +kernel
theorem dX11_put_28 : decode cX11_put 28 = .ok (.iload 5, 2) := by decide +kernel
theorem dX11_put_30 : decode cX11_put 30 = .ok (.ifCond .le 10, 3) := by decide +kernel
theorem dX11_put_33 : decode cX11_put 33 = .ok (.aload_n 0, 1) := by decide +kernel
theorem dX11_put_34 : decode cX11_put 34 = .ok (.iload 5, 2) := by decide +kernel
theorem dX11_put_36 : decode cX11_put 36 = .ok (.invokevirtual 135, 3) := by decide +kernel
theorem dX11_put_39 : decode cX11_put 39 = .ok (.ireturn, 1) := by decide +kernel
theorem dX11_put_40 : decode cX11_put 40 = .ok (.aload_n 0, 1) := by decide +kernel
theorem dX11_put_41 : decode cX11_put 41 = .ok (.iload_n 1, 1) := by decide +kernel
theorem dX11_put_42 : decode cX11_put 42 = .ok (.iload_n 3, 1) := by decide +kernel
theorem dX11_put_43 : decode cX11_put 43 = .ok (.iload 4, 2) := by decide +kernel
theorem dX11_put_45 : decode cX11_put 45 = .ok (.invokevirtual 279, 3) := by decide +kernel
theorem dX11_put_48 : decode cX11_put 48 = .ok (.iconst 1, 1) := by decide +kernel
theorem dX11_put_49 : decode cX11_put 49 = .ok (.ireturn, 1) := by decide +kernel
theorem dX11_get_0 : decode cX11_get 0 = .ok (.iload_n 1, 1) := by decide +kernel
theorem dX11_get_1 : decode cX11_get 1 = .ok (.invokestatic 132, 3) := by decide +kernel
theorem dX11_get_4 : decode cX11_get 4 = .ok (.ifCond .eq 12, 3) := by decide +kernel
theorem dX11_get_7 : decode cX11_get 7 = .ok (.iload_n 2, 1) := by decide +kernel
theorem dX11_get_8 : decode cX11_get 8 = .ok (.iconst 0, 1) := by decide +kernel
theorem dX11_get_9 : decode cX11_get 9 = .ok (.iconst 2, 1) := by decide +kernel
theorem dX11_get_10 : decode cX11_get 10 = .ok (.invokestatic 89, 3) := by decide +kernel
theorem dX11_get_13 : decode cX11_get 13 = .ok (.ifCond .ne 7, 3) := by decide +kernel
theorem dX11_get_16 : decode cX11_get 16 = .ok (.ldc_w 282, 3) := by decide +kernel
theorem dX11_get_19 : decode cX11_get 19 = .ok (.ireturn, 1) := by decide +kernel
theorem dX11_get_20 : decode cX11_get 20 = .ok (.aload_n 0, 1) := by decide +kernel
theorem dX11_get_21 : decode cX11_get 21 = .ok (.iload_n 1, 1) := by decide +kernel
theorem dX11_get_22 : decode cX11_get 22 = .ok (.iload_n 2, 1) := by decide +kernel
theorem dX11_get_23 : decode cX11_get 23 = .ok (.iload_n 3, 1) := by decide +kernel
theorem dX11_get_24 : decode cX11_get 24 = .ok (.invokevirtual 276, 3) := by decide +kernel
theorem dX11_get_27 : decode cX11_get 27 = .ok (.istore 4, 2) := by decide +kernel
theorem dX11_get_29 : decode cX11_get 29 = .ok (.iload 4, 2) := by decide +kernel
theorem dX11_get_31 : decode cX11_get 31 = .ok (.ifCond .le 13, 3) := by decide +kernel
theorem dX11_get_34 : decode cX11_get 34 = .ok (.aload_n 0, 1) := by decide +kernel
theorem dX11_get_35 : decode cX11_get 35 = .ok (.iload 4, 2) := by decide +kernel
theorem dX11_get_37 : decode cX11_get 37 = .ok (.putfield 273, 3) := by decide +kernel
theorem dX11_get_40 : decode cX11_get 40 = .ok (.ldc_w 282, 3) := by decide +kernel
theorem dX11_get_43 : decode cX11_get 43 = .ok (.ireturn, 1) := by decide +kernel
theorem dX11_get_44 : decode cX11_get 44 = .ok (.aload_n 0, 1) := by decide +kernel
theorem dX11_get_45 : decode cX11_get 45 = .ok (.getfield 81, 3) := by decide +kernel
theorem dX11_get_48 : decode cX11_get 48 = .ok (.bipush 48, 2) := by decide +kernel
theorem dX11_get_50 : decode cX11_get 50 = .ok (.iload_n 1, 1) := by decide +kernel
theorem dX11_get_51 : decode cX11_get 51 = .ok (.imul, 1) := by decide +kernel
theorem dX11_get_52 : decode cX11_get 52 = .ok (.iload_n 3, 1) := by decide +kernel
theorem dX11_get_53 : decode cX11_get 53 = .ok (.iadd, 1) := by decide +kernel
theorem dX11_get_54 : decode cX11_get 54 = .ok (.iaload, 1) := by decide +kernel
theorem dX11_get_55 : decode cX11_get 55 = .ok (.ireturn, 1) := by decide +kernel
theorem dX11_copy_0 : decode cX11_copy 0 = .ok (.iload_n 1, 1) := by decide +kernel
theorem dX11_copy_1 : decode cX11_copy 1 = .ok (.invokestatic 132, 3) := by decide +kernel
theorem dX11_copy_4 : decode cX11_copy 4 = .ok (.ifCond .eq 10, 3) := by decide +kernel
theorem dX11_copy_7 : decode cX11_copy 7 = .ok (.iload_n 3, 1) := by decide +kernel
theorem dX11_copy_8 : decode cX11_copy 8 = .ok (.invokestatic 132, 3) := by decide +kernel
theorem dX11_copy_11 : decode cX11_copy 11 = .ok (.ifCond .ne 6, 3) := by decide +kernel
theorem dX11_copy_14 : decode cX11_copy 14 = .ok (.bipush (-2), 2) := by decide +kernel
theorem dX11_copy_16 : decode cX11_copy 16 = .ok (.ireturn, 1) := by decide +kernel
theorem dX11_copy_17 : decode cX11_copy 17 = .ok (.aload_n 0, 1) := by decide +kernel
theorem dX11_copy_18 : decode cX11_copy 18 = .ok (.getfield 71, 3) := by decide +kernel
theorem dX11_copy_21 : decode cX11_copy 21 = .ok (.iload_n 1, 1) := by decide +kernel
theorem dX11_copy_22 : decode cX11_copy 22 = .ok (.baload, 1) := by decide +kernel
theorem dX11_copy_23 : decode cX11_copy 23 = .ok (.ifCond .eq 12, 3) := by decide +kernel
theorem dX11_copy_26 : decode cX11_copy 26 = .ok (.aload_n 0, 1) := by decide +kernel
theorem dX11_copy_27 : decode cX11_copy 27 = .ok (.getfield 71, 3) := by decide +kernel
theorem dX11_copy_30 : decode cX11_copy 30 = .ok (.iload_n 3, 1) := by decide +kernel
theorem dX11_copy_31 : decode cX11_copy 31 = .ok (.baload, 1) := by decide +kernel
theorem dX11_copy_32 : decode cX11_copy 32 = .ok (.ifCond .ne 9, 3) := by decide +kernel
theorem dX11_copy_35 : decode cX11_copy 35 = .ok (.aload_n 0, 1) := by decide +kernel
theorem dX11_copy_36 : decode cX11_copy 36 = .ok (.iconst 1, 1) := by decide +kernel
theorem dX11_copy_37 : decode cX11_copy 37 = .ok (.invokevirtual 135, 3) := by decide +kernel
theorem dX11_copy_40 : decode cX11_copy 40 = .ok (.ireturn, 1) := by decide +kernel
theorem dX11_copy_41 : decode cX11_copy 41 = .ok (.aload_n 0, 1) := by decide +kernel
theorem dX11_copy_42 : decode cX11_copy 42 = .ok (.getfield 75, 3) := by decide +kernel
theorem dX11_copy_45 : decode cX11_copy 45 = .ok (.iload_n 1, 1) := by decide +kernel
theorem dX11_copy_46 : decode cX11_copy 46 = .ok (.iaload, 1) := by decide +kernel
theorem dX11_copy_47 : decode cX11_copy 47 = .ok (.aload_n 0, 1) := by decide +kernel
theorem dX11_copy_48 : decode cX11_copy 48 = .ok (.getfield 75, 3) := by decide +kernel
theorem dX11_copy_51 : decode cX11_copy 51 = .ok (.iload_n 3, 1) := by decide +kernel
theorem dX11_copy_52 : decode cX11_copy 52 = .ok (.iaload, 1) := by decide +kernel
theorem dX11_copy_53 : decode cX11_copy 53 = .ok (.if_icmp .eq 9, 3) := by decide +kernel
theorem dX11_copy_56 : decode cX11_copy 56 = .ok (.aload_n 0, 1) := by decide +kernel
theorem dX11_copy_57 : decode cX11_copy 57 = .ok (.iconst 4, 1) := by decide +kernel
theorem dX11_copy_58 : decode cX11_copy 58 = .ok (.invokevirtual 135, 3) := by decide +kernel
theorem dX11_copy_61 : decode cX11_copy 61 = .ok (.ireturn, 1) := by decide +kernel
theorem dX11_copy_62 : decode cX11_copy 62 = .ok (.iload_n 2, 1) := by decide +kernel
theorem dX11_copy_63 : decode cX11_copy 63 = .ok (.ifCond .lt 48, 3) := by decide +kernel
theorem dX11_copy_66 : decode cX11_copy 66 = .ok (.iload 4, 2) := by decide +kernel
theorem dX11_copy_68 : decode cX11_copy 68 = .ok (.ifCond .lt 43, 3) := by decide +kernel
theorem dX11_copy_71 : decode cX11_copy 71 = .ok (.iload 5, 2) := by decide +kernel
theorem dX11_copy_73 : decode cX11_copy 73 = .ok (.ifCond .lt 38, 3) := by decide +kernel
theorem dX11_copy_76 : decode cX11_copy 76 = .ok (.iload_n 2, 1) := by decide +kernel
theorem dX11_copy_77 : decode cX11_copy 77 = .ok (.i2l, 1) := by decide +kernel
theorem dX11_copy_78 : decode cX11_copy 78 = .ok (.iload 5, 2) := by decide +kernel
theorem dX11_copy_80 : decode cX11_copy 80 = .ok (.i2l, 1) := by decide +kernel
theorem dX11_copy_81 : decode cX11_copy 81 = .ok (.ladd, 1) := by decide +kernel
theorem dX11_copy_82 : decode cX11_copy 82 = .ok (.aload_n 0, 1) := by decide +kernel
theorem dX11_copy_83 : decode cX11_copy 83 = .ok (.getfield 78, 3) := by decide +kernel
theorem dX11_copy_86 : decode cX11_copy 86 = .ok (.iload_n 1, 1) := by decide +kernel
theorem dX11_copy_87 : decode cX11_copy 87 = .ok (.iaload, 1) := by decide +kernel
theorem dX11_copy_88 : decode cX11_copy 88 = .ok (.i2l, 1) := by decide +kernel
theorem dX11_copy_89 : decode cX11_copy 89 = .ok (.lcmp, 1) := by decide +kernel
theorem dX11_copy_90 : decode cX11_copy 90 = .ok (.ifCond .gt 21, 3) := by decide +kernel
theorem dX11_copy_93 : decode cX11_copy 93 = .ok (.iload 4, 2) := by decide +kernel
theorem dX11_copy_95 : decode cX11_copy 95 = .ok (.i2l, 1) := by decide +kernel
theorem dX11_copy_96 : decode cX11_copy 96 = .ok (.iload 5, 2) := by decide +kernel
theorem dX11_copy_98 : decode cX11_copy 98 = .ok (.i2l, 1) := by decide +kernel
theorem dX11_copy_99 : decode cX11_copy 99 = .ok (.ladd, 1) := by decide +kernel
theorem dX11_copy_100 : decode cX11_copy 100 = .ok (.aload_n 0, 1) := by decide +kernel
theorem dX11_copy_101 : decode cX11_copy 101 = .ok (.getfield 78, 3) := by decide +kernel
theorem dX11_copy_104 : decode cX11_copy 104 = .ok (.iload_n 3, 1) := by decide +kernel
theorem dX11_copy_105 : decode cX11_copy 105 = .ok (.iaload, 1) := by decide +kernel
theorem dX11_copy_106 : decode cX11_copy 106 = .ok (.i2l, 1) := by decide +kernel
theorem dX11_copy_107 : decode cX11_copy 107 = .ok (.lcmp, 1) := by decide +kernel
theorem dX11_copy_108 : decode cX11_copy 108 = .ok (.ifCond .le 9, 3) := by decide +kernel
theorem dX11_copy_111 : decode cX11_copy 111 = .ok (.aload_n 0, 1) := by decide +kernel
theorem dX11_copy_112 : decode cX11_copy 112 = .ok (.iconst 2, 1) := by decide +kernel
theorem dX11_copy_113 : decode cX11_copy 113 = .ok (.invokevirtual 135, 3) := by decide +kernel
theorem dX11_copy_116 : decode cX11_copy 116 = .ok (.ireturn, 1) := by decide +kernel
theorem dX11_copy_117 : decode cX11_copy 117 = .ok (.iconst 0, 1) := by decide +kernel
theorem dX11_copy_118 : decode cX11_copy 118 = .ok (.istore 6, 2) := by decide +kernel
theorem dX11_copy_120 : decode cX11_copy 120 = .ok (.iload 6, 2) := by decide +kernel
theorem dX11_copy_122 : decode cX11_copy 122 = .ok (.iload 5, 2) := by decide +kernel
theorem dX11_copy_124 : decode cX11_copy 124 = .ok (.if_icmp .ge 30, 3) := by decide +kernel
theorem dX11_copy_127 : decode cX11_copy 127 = .ok (.aload_n 0, 1) := by decide +kernel
theorem dX11_copy_128 : decode cX11_copy 128 = .ok (.getfield 84, 3) := by decide +kernel
theorem dX11_copy_131 : decode cX11_copy 131 = .ok (.iload 6, 2) := by decide +kernel
theorem dX11_copy_133 : decode cX11_copy 133 = .ok (.aload_n 0, 1) := by decide +kernel
theorem dX11_copy_134 : decode cX11_copy 134 = .ok (.getfield 81, 3) := by decide +kernel
theorem dX11_copy_137 : decode cX11_copy 137 = .ok (.bipush 48, 2) := by decide +kernel
theorem dX11_copy_139 : decode cX11_copy 139 = .ok (.iload_n 1, 1) := by decide +kernel
theorem dX11_copy_140 : decode cX11_copy 140 = .ok (.imul, 1) := by decide +kernel
theorem dX11_copy_141 : decode cX11_copy 141 = .ok (.iload_n 2, 1) := by decide +kernel
theorem dX11_copy_142 : decode cX11_copy 142 = .ok (.iadd, 1) := by decide +kernel
theorem dX11_copy_143 : decode cX11_copy 143 = .ok (.iload 6, 2) := by decide +kernel
theorem dX11_copy_145 : decode cX11_copy 145 = .ok (.iadd, 1) := by decide +kernel
theorem dX11_copy_146 : decode cX11_copy 146 = .ok (.iaload, 1) := by decide +kernel
theorem dX11_copy_147 : decode cX11_copy 147 = .ok (.iastore, 1) := by decide +kernel
theorem dX11_copy_148 : decode cX11_copy 148 = .ok (.iinc 6 1, 3) := by decide +kernel
theorem dX11_copy_151 : decode cX11_copy 151 = .ok (.goto (-31), 3) := by decide +kernel
theorem dX11_copy_154 : decode cX11_copy 154 = .ok (.iconst 0, 1) := by decide +kernel
theorem dX11_copy_155 : decode cX11_copy 155 = .ok (.istore 6, 2) := by decide +kernel
theorem dX11_copy_157 : decode cX11_copy 157 = .ok (.iload 6, 2) := by decide +kernel
theorem dX11_copy_159 : decode cX11_copy 159 = .ok (.iload 5, 2) := by decide +kernel
theorem dX11_copy_161 : decode cX11_copy 161 = .ok (.if_icmp .ge 31, 3) := by decide +kernel
theorem dX11_copy_164 : decode cX11_copy 164 = .ok (.aload_n 0, 1) := by decide +kernel
theorem dX11_copy_165 : decode cX11_copy 165 = .ok (.getfield 81, 3) := by decide +kernel
theorem dX11_copy_168 : decode cX11_copy 168 = .ok (.bipush 48, 2) := by decide +kernel
theorem dX11_copy_170 : decode cX11_copy 170 = .ok (.iload_n 3, 1) := by decide +kernel
theorem dX11_copy_171 : decode cX11_copy 171 = .ok (.imul, 1) := by decide +kernel
theorem dX11_copy_172 : decode cX11_copy 172 = .ok (.iload 4, 2) := by decide +kernel
theorem dX11_copy_174 : decode cX11_copy 174 = .ok (.iadd, 1) := by decide +kernel
theorem dX11_copy_175 : decode cX11_copy 175 = .ok (.iload 6, 2) := by decide +kernel
theorem dX11_copy_177 : decode cX11_copy 177 = .ok (.iadd, 1) := by decide +kernel
theorem dX11_copy_178 : decode cX11_copy 178 = .ok (.aload_n 0, 1) := by decide +kernel
theorem dX11_copy_179 : decode cX11_copy 179 = .ok (.getfield 84, 3) := by decide +kernel
theorem dX11_copy_182 : decode cX11_copy 182 = .ok (.iload 6, 2) := by decide +kernel
theorem dX11_copy_184 : decode cX11_copy 184 = .ok (.iaload, 1) := by decide +kernel
theorem dX11_copy_185 : decode cX11_copy 185 = .ok (.iastore, 1) := by decide +kernel
theorem dX11_copy_186 : decode cX11_copy 186 = .ok (.iinc 6 1, 3) := by decide +kernel
theorem dX11_copy_189 : decode cX11_copy 189 = .ok (.goto (-32), 3) := by decide +kernel
theorem dX11_copy_192 : decode cX11_copy 192 = .ok (.iconst 1, 1) := by decide +kernel
theorem dX11_copy_193 : decode cX11_copy 193 = .ok (.ireturn, 1) := by decide +kernel
theorem dX11_tell_0 : decode cX11_tell 0 = .ok (.iload_n 1, 1) := by decide +kernel
theorem dX11_tell_1 : decode cX11_tell 1 = .ok (.invokestatic 132, 3) := by decide +kernel
theorem dX11_tell_4 : decode cX11_tell 4 = .ok (.ifCond .ne 6, 3) := by decide +kernel
theorem dX11_tell_7 : decode cX11_tell 7 = .ok (.bipush (-2), 2) := by decide +kernel
theorem dX11_tell_9 : decode cX11_tell 9 = .ok (.ireturn, 1) := by decide +kernel
theorem dX11_tell_10 : decode cX11_tell 10 = .ok (.aload_n 0, 1) := by decide +kernel
theorem dX11_tell_11 : decode cX11_tell 11 = .ok (.getfield 71, 3) := by decide +kernel
theorem dX11_tell_14 : decode cX11_tell 14 = .ok (.iload_n 1, 1) := by decide +kernel
theorem dX11_tell_15 : decode cX11_tell 15 = .ok (.baload, 1) := by decide +kernel
theorem dX11_tell_16 : decode cX11_tell 16 = .ok (.ifCond .ne 9, 3) := by decide +kernel
theorem dX11_tell_19 : decode cX11_tell 19 = .ok (.aload_n 0, 1) := by decide +kernel
theorem dX11_tell_20 : decode cX11_tell 20 = .ok (.iconst 1, 1) := by decide +kernel
theorem dX11_tell_21 : decode cX11_tell 21 = .ok (.invokevirtual 135, 3) := by decide +kernel
theorem dX11_tell_24 : decode cX11_tell 24 = .ok (.ireturn, 1) := by decide +kernel
theorem dX11_tell_25 : decode cX11_tell 25 = .ok (.aload_n 0, 1) := by decide +kernel
theorem dX11_tell_26 : decode cX11_tell 26 = .ok (.invokevirtual 121, 3) := by decide +kernel
theorem dX11_tell_29 : decode cX11_tell 29 = .ok (.iconst 0, 1) := by decide +kernel
theorem dX11_tell_30 : decode cX11_tell 30 = .ok (.istore_n 2, 1) := by decide +kernel
theorem dX11_tell_31 : decode cX11_tell 31 = .ok (.iload_n 2, 1) := by decide +kernel
theorem dX11_tell_32 : decode cX11_tell 32 = .ok (.aload_n 0, 1) := by decide +kernel
theorem dX11_tell_33 : decode cX11_tell 33 = .ok (.getfield 78, 3) := by decide +kernel
theorem dX11_tell_36 : decode cX11_tell 36 = .ok (.iload_n 1, 1) := by decide +kernel
theorem dX11_tell_37 : decode cX11_tell 37 = .ok (.iaload, 1) := by decide +kernel
theorem dX11_tell_38 : decode cX11_tell 38 = .ok (.if_icmp .ge 29, 3) := by decide +kernel
theorem dX11_tell_41 : decode cX11_tell 41 = .ok (.iload_n 2, 1) := by decide +kernel
theorem dX11_tell_42 : decode cX11_tell 42 = .ok (.aload_n 0, 1) := by decide +kernel
theorem dX11_tell_43 : decode cX11_tell 43 = .ok (.getfield 97, 3) := by decide +kernel
theorem dX11_tell_46 : decode cX11_tell 46 = .ok (.if_icmp .ge 21, 3) := by decide +kernel
theorem dX11_tell_49 : decode cX11_tell 49 = .ok (.aload_n 0, 1) := by decide +kernel
theorem dX11_tell_50 : decode cX11_tell 50 = .ok (.iload_n 1, 1) := by decide +kernel
theorem dX11_tell_51 : decode cX11_tell 51 = .ok (.iload_n 2, 1) := by decide +kernel
theorem dX11_tell_52 : decode cX11_tell 52 = .ok (.aload_n 0, 1) := by decide +kernel
theorem dX11_tell_53 : decode cX11_tell 53 = .ok (.getfield 13, 3) := by decide +kernel
theorem dX11_tell_56 : decode cX11_tell 56 = .ok (.iload_n 2, 1) := by decide +kernel
theorem dX11_tell_57 : decode cX11_tell 57 = .ok (.iaload, 1) := by decide +kernel
theorem dX11_tell_58 : decode cX11_tell 58 = .ok (.invokevirtual 279, 3) := by decide +kernel
theorem dX11_tell_61 : decode cX11_tell 61 = .ok (.iinc 2 1, 3) := by decide +kernel
theorem dX11_tell_64 : decode cX11_tell 64 = .ok (.goto (-33), 3) := by decide +kernel
theorem dX11_tell_67 : decode cX11_tell 67 = .ok (.iload_n 2, 1) := by decide +kernel
theorem dX11_tell_68 : decode cX11_tell 68 = .ok (.ireturn, 1) := by decide +kernel
theorem dX11_readsMany_0 : decode cX11_readsMany 0 = .ok (.aload_n 0, 1) := by decide +kernel
theorem dX11_readsMany_1 : decode cX11_readsMany 1 = .ok (.invokevirtual 121, 3) := by decide +kernel
theorem dX11_readsMany_4 : decode cX11_readsMany 4 = .ok (.iload_n 1, 1) := by decide +kernel
theorem dX11_readsMany_5 : decode cX11_readsMany 5 = .ok (.ifCond .ne 10, 3) := by decide +kernel
theorem dX11_readsMany_8 : decode cX11_readsMany 8 = .ok (.aload_n 0, 1) := by decide +kernel
theorem dX11_readsMany_9 : decode cX11_readsMany 9 = .ok (.getfield 97, 3) := by decide +kernel
theorem dX11_readsMany_12 : decode cX11_readsMany 12 = .ok (.goto 19, 3) := by decide +kernel
theorem dX11_readsMany_15 : decode cX11_readsMany 15 = .ok (.iload_n 1, 1) := by decide +kernel
theorem dX11_readsMany_16 : decode cX11_readsMany 16 = .ok (.iconst 2, 1) := by decide +kernel
theorem dX11_readsMany_17 : decode cX11_readsMany 17 = .ok (.if_icmp .ne 10, 3) := by decide +kernel
theorem dX11_readsMany_20 : decode cX11_readsMany 20 = .ok (.aload_n 0, 1) := by decide +kernel
theorem dX11_readsMany_21 : decode cX11_readsMany 21 = .ok (.getfield 103, 3) := by decide +kernel
theorem dX11_readsMany_24 : decode cX11_readsMany 24 = .ok (.goto 7, 3) := by decide +kernel
theorem dX11_readsMany_27 : decode cX11_readsMany 27 = .ok (.aload_n 0, 1) := by decide +kernel
theorem dX11_readsMany_28 : decode cX11_readsMany 28 = .ok (.getfield 100, 3) := by decide +kernel
theorem dX11_readsMany_31 : decode cX11_readsMany 31 = .ok (.ireturn, 1) := by decide +kernel
theorem dX11_count_0 : decode cX11_count 0 = .ok (.iload_n 1, 1) := by decide +kernel
theorem dX11_count_1 : decode cX11_count 1 = .ok (.tableswitch 89 0 8 #[51, 57, 51, 51, 62, 67, 72, 77, 84], 51) := by decide +kernel
theorem dX11_count_52 : decode cX11_count 52 = .ok (.aload_n 0, 1) := by decide +kernel
theorem dX11_count_53 : decode cX11_count 53 = .ok (.iload_n 1, 1) := by decide +kernel
theorem dX11_count_54 : decode cX11_count 54 = .ok (.invokevirtual 283, 3) := by decide +kernel
theorem dX11_count_57 : decode cX11_count 57 = .ok (.ireturn, 1) := by decide +kernel
theorem dX11_count_58 : decode cX11_count 58 = .ok (.aload_n 0, 1) := by decide +kernel
theorem dX11_count_59 : decode cX11_count 59 = .ok (.getfield 93, 3) := by decide +kernel
theorem dX11_count_62 : decode cX11_count 62 = .ok (.ireturn, 1) := by decide +kernel
theorem dX11_count_63 : decode cX11_count 63 = .ok (.aload_n 0, 1) := by decide +kernel
theorem dX11_count_64 : decode cX11_count 64 = .ok (.getfield 144, 3) := by decide +kernel
theorem dX11_count_67 : decode cX11_count 67 = .ok (.ireturn, 1) := by decide +kernel
theorem dX11_count_68 : decode cX11_count 68 = .ok (.aload_n 0, 1) := by decide +kernel
theorem dX11_count_69 : decode cX11_count 69 = .ok (.getfield 248, 3) := by decide +kernel
theorem dX11_count_72 : decode cX11_count 72 = .ok (.ireturn, 1) := by decide +kernel
theorem dX11_count_73 : decode cX11_count 73 = .ok (.aload_n 0, 1) := by decide +kernel
theorem dX11_count_74 : decode cX11_count 74 = .ok (.getfield 141, 3) := by decide +kernel
theorem dX11_count_77 : decode cX11_count 77 = .ok (.ireturn, 1) := by decide +kernel
theorem dX11_count_78 : decode cX11_count 78 = .ok (.aload_n 0, 1) := by decide +kernel
theorem dX11_count_79 : decode cX11_count 79 = .ok (.getfield 31, 3) := by decide +kernel
theorem dX11_count_82 : decode cX11_count 82 = .ok (.iconst 0, 1) := by decide +kernel
theorem dX11_count_83 : decode cX11_count 83 = .ok (.iaload, 1) := by decide +kernel
theorem dX11_count_84 : decode cX11_count 84 = .ok (.ireturn, 1) := by decide +kernel
theorem dX11_count_85 : decode cX11_count 85 = .ok (.aload_n 0, 1) := by decide +kernel
theorem dX11_count_86 : decode cX11_count 86 = .ok (.getfield 273, 3) := by decide +kernel
theorem dX11_count_89 : decode cX11_count 89 = .ok (.ireturn, 1) := by decide +kernel
theorem dX11_count_90 : decode cX11_count 90 = .ok (.bipush (-2), 2) := by decide +kernel
theorem dX11_count_92 : decode cX11_count 92 = .ok (.ireturn, 1) := by decide +kernel
theorem dX11_numberDigest_0 : decode cX11_numberDigest 0 = .ok (.lload_n 1, 1) := by decide +kernel
theorem dX11_numberDigest_1 : decode cX11_numberDigest 1 = .ok (.lstore 4, 2) := by decide +kernel
theorem dX11_numberDigest_3 : decode cX11_numberDigest 3 = .ok (.ldc2_w 286, 3) := by decide +kernel
theorem dX11_numberDigest_6 : decode cX11_numberDigest 6 = .ok (.lload 4, 2) := by decide +kernel
theorem dX11_numberDigest_8 : decode cX11_numberDigest 8 = .ok (.lmul, 1) := by decide +kernel
theorem dX11_numberDigest_9 : decode cX11_numberDigest 9 = .ok (.aload_n 0, 1) := by decide +kernel
theorem dX11_numberDigest_10 : decode cX11_numberDigest 10 = .ok (.iload_n 3, 1) := by decide +kernel
theorem dX11_numberDigest_11 : decode cX11_numberDigest 11 = .ok (.bipush 9, 2) := by decide +kernel
theorem dX11_numberDigest_13 : decode cX11_numberDigest 13 = .ok (.iconst 0, 1) := by decide +kernel
theorem dX11_numberDigest_14 : decode cX11_numberDigest 14 = .ok (.invokevirtual 288, 3) := by decide +kernel
theorem dX11_numberDigest_17 : decode cX11_numberDigest 17 = .ok (.ladd, 1) := by decide +kernel
theorem dX11_numberDigest_18 : decode cX11_numberDigest 18 = .ok (.lstore 4, 2) := by decide +kernel
theorem dX11_numberDigest_20 : decode cX11_numberDigest 20 = .ok (.ldc2_w 286, 3) := by decide +kernel
theorem dX11_numberDigest_23 : decode cX11_numberDigest 23 = .ok (.lload 4, 2) := by decide +kernel
theorem dX11_numberDigest_25 : decode cX11_numberDigest 25 = .ok (.lmul, 1) := by decide +kernel
theorem dX11_numberDigest_26 : decode cX11_numberDigest 26 = .ok (.aload_n 0, 1) := by decide +kernel
theorem dX11_numberDigest_27 : decode cX11_numberDigest 27 = .ok (.iload_n 3, 1) := by decide +kernel
theorem dX11_numberDigest_28 : decode cX11_numberDigest 28 = .ok (.bipush 9, 2) := by decide +kernel
theorem dX11_numberDigest_30 : decode cX11_numberDigest 30 = .ok (.iconst 1, 1) := by decide +kernel
theorem dX11_numberDigest_31 : decode cX11_numberDigest 31 = .ok (.invokevirtual 288, 3) := by decide +kernel
theorem dX11_numberDigest_34 : decode cX11_numberDigest 34 = .ok (.ladd, 1) := by decide +kernel
theorem dX11_numberDigest_35 : decode cX11_numberDigest 35 = .ok (.lstore 4, 2) := by decide +kernel
theorem dX11_numberDigest_37 : decode cX11_numberDigest 37 = .ok (.ldc2_w 286, 3) := by decide +kernel
theorem dX11_numberDigest_40 : decode cX11_numberDigest 40 = .ok (.lload 4, 2) := by decide +kernel
theorem dX11_numberDigest_42 : decode cX11_numberDigest 42 = .ok (.lmul, 1) := by decide +kernel
theorem dX11_numberDigest_43 : decode cX11_numberDigest 43 = .ok (.aload_n 0, 1) := by decide +kernel
theorem dX11_numberDigest_44 : decode cX11_numberDigest 44 = .ok (.iload_n 3, 1) := by decide +kernel
theorem dX11_numberDigest_45 : decode cX11_numberDigest 45 = .ok (.invokevirtual 180, 3) := by decide +kernel
theorem dX11_numberDigest_48 : decode cX11_numberDigest 48 = .ok (.i2l, 1) := by decide +kernel
theorem dX11_numberDigest_49 : decode cX11_numberDigest 49 = .ok (.ladd, 1) := by decide +kernel
theorem dX11_numberDigest_50 : decode cX11_numberDigest 50 = .ok (.lstore 4, 2) := by decide +kernel
theorem dX11_numberDigest_52 : decode cX11_numberDigest 52 = .ok (.ldc2_w 286, 3) := by decide +kernel
theorem dX11_numberDigest_55 : decode cX11_numberDigest 55 = .ok (.lload 4, 2) := by decide +kernel
theorem dX11_numberDigest_57 : decode cX11_numberDigest 57 = .ok (.lmul, 1) := by decide +kernel
theorem dX11_numberDigest_58 : decode cX11_numberDigest 58 = .ok (.aload_n 0, 1) := by decide +kernel
theorem dX11_numberDigest_59 : decode cX11_numberDigest 59 = .ok (.iload_n 3, 1) := by decide +kernel
theorem dX11_numberDigest_60 : decode cX11_numberDigest 60 = .ok (.iconst 0, 1) := by decide +kernel
theorem dX11_numberDigest_61 : decode cX11_numberDigest 61 = .ok (.invokevirtual 183, 3) := by decide +kernel
theorem dX11_numberDigest_64 : decode cX11_numberDigest 64 = .ok (.ladd, 1) := by decide +kernel
theorem dX11_numberDigest_65 : decode cX11_numberDigest 65 = .ok (.lstore 4, 2) := by decide +kernel
theorem dX11_numberDigest_67 : decode cX11_numberDigest 67 = .ok (.ldc2_w 286, 3) := by decide +kernel
theorem dX11_numberDigest_70 : decode cX11_numberDigest 70 = .ok (.lload 4, 2) := by decide +kernel
theorem dX11_numberDigest_72 : decode cX11_numberDigest 72 = .ok (.lmul, 1) := by decide +kernel
theorem dX11_numberDigest_73 : decode cX11_numberDigest 73 = .ok (.aload_n 0, 1) := by decide +kernel
theorem dX11_numberDigest_74 : decode cX11_numberDigest 74 = .ok (.iload_n 3, 1) := by decide +kernel
theorem dX11_numberDigest_75 : decode cX11_numberDigest 75 = .ok (.iconst 1, 1) := by decide +kernel
theorem dX11_numberDigest_76 : decode cX11_numberDigest 76 = .ok (.invokevirtual 183, 3) := by decide +kernel
theorem dX11_numberDigest_79 : decode cX11_numberDigest 79 = .ok (.ladd, 1) := by decide +kernel
theorem dX11_numberDigest_80 : decode cX11_numberDigest 80 = .ok (.lreturn, 1) := by decide +kernel
theorem dX11_digest_0 : decode cX11_digest 0 = .ok (.ldc2_w 291, 3) := by decide +kernel
theorem dX11_digest_3 : decode cX11_digest 3 = .ok (.lstore_n 1, 1) := by decide +kernel
theorem dX11_digest_4 : decode cX11_digest 4 = .ok (.iconst 0, 1) := by decide +kernel
theorem dX11_digest_5 : decode cX11_digest 5 = .ok (.istore_n 3, 1) := by decide +kernel
theorem dX11_digest_6 : decode cX11_digest 6 = .ok (.iload_n 3, 1) := by decide +kernel
theorem dX11_digest_7 : decode cX11_digest 7 = .ok (.bipush 8, 2) := by decide +kernel
theorem dX11_digest_9 : decode cX11_digest 9 = .ok (.if_icmp .ge 22, 3) := by decide +kernel
theorem dX11_digest_12 : decode cX11_digest 12 = .ok (.ldc2_w 286, 3) := by decide +kernel
theorem dX11_digest_15 : decode cX11_digest 15 = .ok (.lload_n 1, 1) := by decide +kernel
theorem dX11_digest_16 : decode cX11_digest 16 = .ok (.lmul, 1) := by decide +kernel
theorem dX11_digest_17 : decode cX11_digest 17 = .ok (.aload_n 0, 1) := by decide +kernel
theorem dX11_digest_18 : decode cX11_digest 18 = .ok (.iload_n 3, 1) := by decide +kernel
theorem dX11_digest_19 : decode cX11_digest 19 = .ok (.invokevirtual 293, 3) := by decide +kernel
theorem dX11_digest_22 : decode cX11_digest 22 = .ok (.i2l, 1) := by decide +kernel
theorem dX11_digest_23 : decode cX11_digest 23 = .ok (.ladd, 1) := by decide +kernel
theorem dX11_digest_24 : decode cX11_digest 24 = .ok (.lstore_n 1, 1) := by decide +kernel
theorem dX11_digest_25 : decode cX11_digest 25 = .ok (.iinc 3 1, 3) := by decide +kernel
theorem dX11_digest_28 : decode cX11_digest 28 = .ok (.goto (-22), 3) := by decide +kernel
theorem dX11_digest_31 : decode cX11_digest 31 = .ok (.ldc2_w 286, 3) := by decide +kernel
theorem dX11_digest_34 : decode cX11_digest 34 = .ok (.lload_n 1, 1) := by decide +kernel
theorem dX11_digest_35 : decode cX11_digest 35 = .ok (.lmul, 1) := by decide +kernel
theorem dX11_digest_36 : decode cX11_digest 36 = .ok (.aload_n 0, 1) := by decide +kernel
theorem dX11_digest_37 : decode cX11_digest 37 = .ok (.invokevirtual 118, 3) := by decide +kernel
theorem dX11_digest_40 : decode cX11_digest 40 = .ok (.i2l, 1) := by decide +kernel
theorem dX11_digest_41 : decode cX11_digest 41 = .ok (.ladd, 1) := by decide +kernel
theorem dX11_digest_42 : decode cX11_digest 42 = .ok (.lstore_n 1, 1) := by decide +kernel
theorem dX11_digest_43 : decode cX11_digest 43 = .ok (.aload_n 0, 1) := by decide +kernel
theorem dX11_digest_44 : decode cX11_digest 44 = .ok (.lload_n 1, 1) := by decide +kernel
theorem dX11_digest_45 : decode cX11_digest 45 = .ok (.iconst 1, 1) := by decide +kernel
theorem dX11_digest_46 : decode cX11_digest 46 = .ok (.invokevirtual 296, 3) := by decide +kernel
theorem dX11_digest_49 : decode cX11_digest 49 = .ok (.lstore_n 1, 1) := by decide +kernel
theorem dX11_digest_50 : decode cX11_digest 50 = .ok (.aload_n 0, 1) := by decide +kernel
theorem dX11_digest_51 : decode cX11_digest 51 = .ok (.lload_n 1, 1) := by decide +kernel
theorem dX11_digest_52 : decode cX11_digest 52 = .ok (.bipush 10, 2) := by decide +kernel
theorem dX11_digest_54 : decode cX11_digest 54 = .ok (.invokevirtual 296, 3) := by decide +kernel
theorem dX11_digest_57 : decode cX11_digest 57 = .ok (.lstore_n 1, 1) := by decide +kernel
theorem dX11_digest_58 : decode cX11_digest 58 = .ok (.aload_n 0, 1) := by decide +kernel
theorem dX11_digest_59 : decode cX11_digest 59 = .ok (.lload_n 1, 1) := by decide +kernel
theorem dX11_digest_60 : decode cX11_digest 60 = .ok (.bipush 30, 2) := by decide +kernel
theorem dX11_digest_62 : decode cX11_digest 62 = .ok (.invokevirtual 296, 3) := by decide +kernel
theorem dX11_digest_65 : decode cX11_digest 65 = .ok (.lstore_n 1, 1) := by decide +kernel
theorem dX11_digest_66 : decode cX11_digest 66 = .ok (.ldc2_w 286, 3) := by decide +kernel
theorem dX11_digest_69 : decode cX11_digest 69 = .ok (.lload_n 1, 1) := by decide +kernel
theorem dX11_digest_70 : decode cX11_digest 70 = .ok (.lmul, 1) := by decide +kernel
theorem dX11_digest_71 : decode cX11_digest 71 = .ok (.aload_n 0, 1) := by decide +kernel
theorem dX11_digest_72 : decode cX11_digest 72 = .ok (.invokevirtual 190, 3) := by decide +kernel
theorem dX11_digest_75 : decode cX11_digest 75 = .ok (.i2l, 1) := by decide +kernel
theorem dX11_digest_76 : decode cX11_digest 76 = .ok (.ladd, 1) := by decide +kernel
theorem dX11_digest_77 : decode cX11_digest 77 = .ok (.lstore_n 1, 1) := by decide +kernel
theorem dX11_digest_78 : decode cX11_digest 78 = .ok (.bipush (-2), 2) := by decide +kernel
theorem dX11_digest_80 : decode cX11_digest 80 = .ok (.istore_n 3, 1) := by decide +kernel
theorem dX11_digest_81 : decode cX11_digest 81 = .ok (.iload_n 3, 1) := by decide +kernel
theorem dX11_digest_82 : decode cX11_digest 82 = .ok (.iconst 3, 1) := by decide +kernel
theorem dX11_digest_83 : decode cX11_digest 83 = .ok (.if_icmp .ge 39, 3) := by decide +kernel
theorem dX11_digest_86 : decode cX11_digest 86 = .ok (.ldc2_w 286, 3) := by decide +kernel
theorem dX11_digest_89 : decode cX11_digest 89 = .ok (.lload_n 1, 1) := by decide +kernel
theorem dX11_digest_90 : decode cX11_digest 90 = .ok (.lmul, 1) := by decide +kernel
theorem dX11_digest_91 : decode cX11_digest 91 = .ok (.aload_n 0, 1) := by decide +kernel
theorem dX11_digest_92 : decode cX11_digest 92 = .ok (.bipush 20, 2) := by decide +kernel
theorem dX11_digest_94 : decode cX11_digest 94 = .ok (.iload_n 3, 1) := by decide +kernel
theorem dX11_digest_95 : decode cX11_digest 95 = .ok (.iconst 0, 1) := by decide +kernel
theorem dX11_digest_96 : decode cX11_digest 96 = .ok (.invokevirtual 300, 3) := by decide +kernel
theorem dX11_digest_99 : decode cX11_digest 99 = .ok (.ladd, 1) := by decide +kernel
theorem dX11_digest_100 : decode cX11_digest 100 = .ok (.lstore_n 1, 1) := by decide +kernel
theorem dX11_digest_101 : decode cX11_digest 101 = .ok (.ldc2_w 286, 3) := by decide +kernel
theorem dX11_digest_104 : decode cX11_digest 104 = .ok (.lload_n 1, 1) := by decide +kernel
theorem dX11_digest_105 : decode cX11_digest 105 = .ok (.lmul, 1) := by decide +kernel
theorem dX11_digest_106 : decode cX11_digest 106 = .ok (.aload_n 0, 1) := by decide +kernel
theorem dX11_digest_107 : decode cX11_digest 107 = .ok (.bipush 20, 2) := by decide +kernel
theorem dX11_digest_109 : decode cX11_digest 109 = .ok (.iload_n 3, 1) := by decide +kernel
theorem dX11_digest_110 : decode cX11_digest 110 = .ok (.iconst 1, 1) := by decide +kernel
theorem dX11_digest_111 : decode cX11_digest 111 = .ok (.invokevirtual 300, 3) := by decide +kernel
theorem dX11_digest_114 : decode cX11_digest 114 = .ok (.ladd, 1) := by decide +kernel
theorem dX11_digest_115 : decode cX11_digest 115 = .ok (.lstore_n 1, 1) := by decide +kernel
theorem dX11_digest_116 : decode cX11_digest 116 = .ok (.iinc 3 1, 3) := by decide +kernel
theorem dX11_digest_119 : decode cX11_digest 119 = .ok (.goto (-38), 3) := by decide +kernel
theorem dX11_digest_122 : decode cX11_digest 122 = .ok (.iconst 0, 1) := by decide +kernel
theorem dX11_digest_123 : decode cX11_digest 123 = .ok (.istore_n 3, 1) := by decide +kernel
theorem dX11_digest_124 : decode cX11_digest 124 = .ok (.iload_n 3, 1) := by decide +kernel
theorem dX11_digest_125 : decode cX11_digest 125 = .ok (.iconst 2, 1) := by decide +kernel
theorem dX11_digest_126 : decode cX11_digest 126 = .ok (.if_icmp .ge 35, 3) := by decide +kernel
theorem dX11_digest_129 : decode cX11_digest 129 = .ok (.ldc2_w 286, 3) := by decide +kernel
theorem dX11_digest_132 : decode cX11_digest 132 = .ok (.lload_n 1, 1) := by decide +kernel
theorem dX11_digest_133 : decode cX11_digest 133 = .ok (.lmul, 1) := by decide +kernel
theorem dX11_digest_134 : decode cX11_digest 134 = .ok (.aload_n 0, 1) := by decide +kernel
theorem dX11_digest_135 : decode cX11_digest 135 = .ok (.iload_n 3, 1) := by decide +kernel
theorem dX11_digest_136 : decode cX11_digest 136 = .ok (.iconst 0, 1) := by decide +kernel
theorem dX11_digest_137 : decode cX11_digest 137 = .ok (.invokevirtual 303, 3) := by decide +kernel
theorem dX11_digest_140 : decode cX11_digest 140 = .ok (.ladd, 1) := by decide +kernel
theorem dX11_digest_141 : decode cX11_digest 141 = .ok (.lstore_n 1, 1) := by decide +kernel
theorem dX11_digest_142 : decode cX11_digest 142 = .ok (.ldc2_w 286, 3) := by decide +kernel
theorem dX11_digest_145 : decode cX11_digest 145 = .ok (.lload_n 1, 1) := by decide +kernel
theorem dX11_digest_146 : decode cX11_digest 146 = .ok (.lmul, 1) := by decide +kernel
theorem dX11_digest_147 : decode cX11_digest 147 = .ok (.aload_n 0, 1) := by decide +kernel
theorem dX11_digest_148 : decode cX11_digest 148 = .ok (.iload_n 3, 1) := by decide +kernel
theorem dX11_digest_149 : decode cX11_digest 149 = .ok (.iconst 1, 1) := by decide +kernel
theorem dX11_digest_150 : decode cX11_digest 150 = .ok (.invokevirtual 303, 3) := by decide +kernel
theorem dX11_digest_153 : decode cX11_digest 153 = .ok (.ladd, 1) := by decide +kernel
theorem dX11_digest_154 : decode cX11_digest 154 = .ok (.lstore_n 1, 1) := by decide +kernel
theorem dX11_digest_155 : decode cX11_digest 155 = .ok (.iinc 3 1, 3) := by decide +kernel
theorem dX11_digest_158 : decode cX11_digest 158 = .ok (.goto (-34), 3) := by decide +kernel
theorem dX11_digest_161 : decode cX11_digest 161 = .ok (.ldc2_w 286, 3) := by decide +kernel
theorem dX11_digest_164 : decode cX11_digest 164 = .ok (.lload_n 1, 1) := by decide +kernel
theorem dX11_digest_165 : decode cX11_digest 165 = .ok (.lmul, 1) := by decide +kernel
theorem dX11_digest_166 : decode cX11_digest 166 = .ok (.aload_n 0, 1) := by decide +kernel
theorem dX11_digest_167 : decode cX11_digest 167 = .ok (.iconst 1, 1) := by decide +kernel
theorem dX11_digest_168 : decode cX11_digest 168 = .ok (.invokevirtual 306, 3) := by decide +kernel
theorem dX11_digest_171 : decode cX11_digest 171 = .ok (.i2l, 1) := by decide +kernel
theorem dX11_digest_172 : decode cX11_digest 172 = .ok (.ladd, 1) := by decide +kernel
theorem dX11_digest_173 : decode cX11_digest 173 = .ok (.lstore_n 1, 1) := by decide +kernel
theorem dX11_digest_174 : decode cX11_digest 174 = .ok (.ldc2_w 286, 3) := by decide +kernel
theorem dX11_digest_177 : decode cX11_digest 177 = .ok (.lload_n 1, 1) := by decide +kernel
theorem dX11_digest_178 : decode cX11_digest 178 = .ok (.lmul, 1) := by decide +kernel
theorem dX11_digest_179 : decode cX11_digest 179 = .ok (.aload_n 0, 1) := by decide +kernel
theorem dX11_digest_180 : decode cX11_digest 180 = .ok (.iconst 2, 1) := by decide +kernel
theorem dX11_digest_181 : decode cX11_digest 181 = .ok (.invokevirtual 306, 3) := by decide +kernel
theorem dX11_digest_184 : decode cX11_digest 184 = .ok (.i2l, 1) := by decide +kernel
theorem dX11_digest_185 : decode cX11_digest 185 = .ok (.ladd, 1) := by decide +kernel
theorem dX11_digest_186 : decode cX11_digest 186 = .ok (.lstore_n 1, 1) := by decide +kernel
theorem dX11_digest_187 : decode cX11_digest 187 = .ok (.ldc2_w 286, 3) := by decide +kernel
theorem dX11_digest_190 : decode cX11_digest 190 = .ok (.lload_n 1, 1) := by decide +kernel
theorem dX11_digest_191 : decode cX11_digest 191 = .ok (.lmul, 1) := by decide +kernel
theorem dX11_digest_192 : decode cX11_digest 192 = .ok (.aload_n 0, 1) := by decide +kernel
theorem dX11_digest_193 : decode cX11_digest 193 = .ok (.bipush 8, 2) := by decide +kernel
theorem dX11_digest_195 : decode cX11_digest 195 = .ok (.invokevirtual 233, 3) := by decide +kernel
theorem dX11_digest_198 : decode cX11_digest 198 = .ok (.i2l, 1) := by decide +kernel
theorem dX11_digest_199 : decode cX11_digest 199 = .ok (.ladd, 1) := by decide +kernel
theorem dX11_digest_200 : decode cX11_digest 200 = .ok (.lstore_n 1, 1) := by decide +kernel
theorem dX11_digest_201 : decode cX11_digest 201 = .ok (.iconst 0, 1) := by decide +kernel
theorem dX11_digest_202 : decode cX11_digest 202 = .ok (.istore_n 3, 1) := by decide +kernel
theorem dX11_digest_203 : decode cX11_digest 203 = .ok (.iload_n 3, 1) := by decide +kernel
theorem dX11_digest_204 : decode cX11_digest 204 = .ok (.aload_n 0, 1) := by decide +kernel
theorem dX11_digest_205 : decode cX11_digest 205 = .ok (.getfield 100, 3) := by decide +kernel
theorem dX11_digest_208 : decode cX11_digest 208 = .ok (.if_icmp .ge 22, 3) := by decide +kernel
theorem dX11_digest_211 : decode cX11_digest 211 = .ok (.ldc2_w 286, 3) := by decide +kernel
theorem dX11_digest_214 : decode cX11_digest 214 = .ok (.lload_n 1, 1) := by decide +kernel
theorem dX11_digest_215 : decode cX11_digest 215 = .ok (.lmul, 1) := by decide +kernel
theorem dX11_digest_216 : decode cX11_digest 216 = .ok (.aload_n 0, 1) := by decide +kernel
theorem dX11_digest_217 : decode cX11_digest 217 = .ok (.iload_n 3, 1) := by decide +kernel
theorem dX11_digest_218 : decode cX11_digest 218 = .ok (.invokevirtual 236, 3) := by decide +kernel
theorem dX11_digest_221 : decode cX11_digest 221 = .ok (.i2l, 1) := by decide +kernel
theorem dX11_digest_222 : decode cX11_digest 222 = .ok (.ladd, 1) := by decide +kernel
theorem dX11_digest_223 : decode cX11_digest 223 = .ok (.lstore_n 1, 1) := by decide +kernel
theorem dX11_digest_224 : decode cX11_digest 224 = .ok (.iinc 3 1, 3) := by decide +kernel
theorem dX11_digest_227 : decode cX11_digest 227 = .ok (.goto (-24), 3) := by decide +kernel
theorem dX11_digest_230 : decode cX11_digest 230 = .ok (.ldc2_w 286, 3) := by decide +kernel
theorem dX11_digest_233 : decode cX11_digest 233 = .ok (.lload_n 1, 1) := by decide +kernel
theorem dX11_digest_234 : decode cX11_digest 234 = .ok (.lmul, 1) := by decide +kernel
theorem dX11_digest_235 : decode cX11_digest 235 = .ok (.aload_n 0, 1) := by decide +kernel
theorem dX11_digest_236 : decode cX11_digest 236 = .ok (.bipush 9, 2) := by decide +kernel
theorem dX11_digest_238 : decode cX11_digest 238 = .ok (.bipush 12, 2) := by decide +kernel
theorem dX11_digest_240 : decode cX11_digest 240 = .ok (.iconst 0, 1) := by decide +kernel
theorem dX11_digest_241 : decode cX11_digest 241 = .ok (.invokevirtual 309, 3) := by decide +kernel
theorem dX11_digest_244 : decode cX11_digest 244 = .ok (.ladd, 1) := by decide +kernel
theorem dX11_digest_245 : decode cX11_digest 245 = .ok (.lstore_n 1, 1) := by decide +kernel
theorem dX11_digest_246 : decode cX11_digest 246 = .ok (.ldc2_w 286, 3) := by decide +kernel
theorem dX11_digest_249 : decode cX11_digest 249 = .ok (.lload_n 1, 1) := by decide +kernel
theorem dX11_digest_250 : decode cX11_digest 250 = .ok (.lmul, 1) := by decide +kernel
theorem dX11_digest_251 : decode cX11_digest 251 = .ok (.aload_n 0, 1) := by decide +kernel
theorem dX11_digest_252 : decode cX11_digest 252 = .ok (.bipush 9, 2) := by decide +kernel
theorem dX11_digest_254 : decode cX11_digest 254 = .ok (.bipush 12, 2) := by decide +kernel
theorem dX11_digest_256 : decode cX11_digest 256 = .ok (.iconst 1, 1) := by decide +kernel
theorem dX11_digest_257 : decode cX11_digest 257 = .ok (.invokevirtual 309, 3) := by decide +kernel
theorem dX11_digest_260 : decode cX11_digest 260 = .ok (.ladd, 1) := by decide +kernel
theorem dX11_digest_261 : decode cX11_digest 261 = .ok (.lstore_n 1, 1) := by decide +kernel
theorem dX11_digest_262 : decode cX11_digest 262 = .ok (.ldc2_w 286, 3) := by decide +kernel
theorem dX11_digest_265 : decode cX11_digest 265 = .ok (.lload_n 1, 1) := by decide +kernel
theorem dX11_digest_266 : decode cX11_digest 266 = .ok (.lmul, 1) := by decide +kernel
theorem dX11_digest_267 : decode cX11_digest 267 = .ok (.aload_n 0, 1) := by decide +kernel
theorem dX11_digest_268 : decode cX11_digest 268 = .ok (.iconst 0, 1) := by decide +kernel
theorem dX11_digest_269 : decode cX11_digest 269 = .ok (.iconst 0, 1) := by decide +kernel
theorem dX11_digest_270 : decode cX11_digest 270 = .ok (.invokevirtual 242, 3) := by decide +kernel
theorem dX11_digest_273 : decode cX11_digest 273 = .ok (.ladd, 1) := by decide +kernel
theorem dX11_digest_274 : decode cX11_digest 274 = .ok (.lstore_n 1, 1) := by decide +kernel
theorem dX11_digest_275 : decode cX11_digest 275 = .ok (.ldc2_w 286, 3) := by decide +kernel
theorem dX11_digest_278 : decode cX11_digest 278 = .ok (.lload_n 1, 1) := by decide +kernel
theorem dX11_digest_279 : decode cX11_digest 279 = .ok (.lmul, 1) := by decide +kernel
theorem dX11_digest_280 : decode cX11_digest 280 = .ok (.aload_n 0, 1) := by decide +kernel
theorem dX11_digest_281 : decode cX11_digest 281 = .ok (.iconst 0, 1) := by decide +kernel
theorem dX11_digest_282 : decode cX11_digest 282 = .ok (.iconst 1, 1) := by decide +kernel
theorem dX11_digest_283 : decode cX11_digest 283 = .ok (.invokevirtual 242, 3) := by decide +kernel
theorem dX11_digest_286 : decode cX11_digest 286 = .ok (.ladd, 1) := by decide +kernel
theorem dX11_digest_287 : decode cX11_digest 287 = .ok (.lstore_n 1, 1) := by decide +kernel
theorem dX11_digest_288 : decode cX11_digest 288 = .ok (.ldc2_w 286, 3) := by decide +kernel
theorem dX11_digest_291 : decode cX11_digest 291 = .ok (.lload_n 1, 1) := by decide +kernel
theorem dX11_digest_292 : decode cX11_digest 292 = .ok (.lmul, 1) := by decide +kernel
theorem dX11_digest_293 : decode cX11_digest 293 = .ok (.aload_n 0, 1) := by decide +kernel
theorem dX11_digest_294 : decode cX11_digest 294 = .ok (.bipush 9, 2) := by decide +kernel
theorem dX11_digest_296 : decode cX11_digest 296 = .ok (.iconst 0, 1) := by decide +kernel
theorem dX11_digest_297 : decode cX11_digest 297 = .ok (.invokevirtual 242, 3) := by decide +kernel
theorem dX11_digest_300 : decode cX11_digest 300 = .ok (.ladd, 1) := by decide +kernel
theorem dX11_digest_301 : decode cX11_digest 301 = .ok (.lstore_n 1, 1) := by decide +kernel
theorem dX11_digest_302 : decode cX11_digest 302 = .ok (.ldc2_w 286, 3) := by decide +kernel
theorem dX11_digest_305 : decode cX11_digest 305 = .ok (.lload_n 1, 1) := by decide +kernel
theorem dX11_digest_306 : decode cX11_digest 306 = .ok (.lmul, 1) := by decide +kernel
theorem dX11_digest_307 : decode cX11_digest 307 = .ok (.aload_n 0, 1) := by decide +kernel
theorem dX11_digest_308 : decode cX11_digest 308 = .ok (.bipush 9, 2) := by decide +kernel
theorem dX11_digest_310 : decode cX11_digest 310 = .ok (.iconst 1, 1) := by decide +kernel
theorem dX11_digest_311 : decode cX11_digest 311 = .ok (.invokevirtual 242, 3) := by decide +kernel
theorem dX11_digest_314 : decode cX11_digest 314 = .ok (.ladd, 1) := by decide +kernel
theorem dX11_digest_315 : decode cX11_digest 315 = .ok (.lstore_n 1, 1) := by decide +kernel
theorem dX11_digest_316 : decode cX11_digest 316 = .ok (.ldc2_w 286, 3) := by decide +kernel
theorem dX11_digest_319 : decode cX11_digest 319 = .ok (.lload_n 1, 1) := by decide +kernel
theorem dX11_digest_320 : decode cX11_digest 320 = .ok (.lmul, 1) := by decide +kernel
theorem dX11_digest_321 : decode cX11_digest 321 = .ok (.aload_n 0, 1) := by decide +kernel
theorem dX11_digest_322 : decode cX11_digest 322 = .ok (.iconst 0, 1) := by decide +kernel
theorem dX11_digest_323 : decode cX11_digest 323 = .ok (.invokevirtual 245, 3) := by decide +kernel
theorem dX11_digest_326 : decode cX11_digest 326 = .ok (.i2l, 1) := by decide +kernel
theorem dX11_digest_327 : decode cX11_digest 327 = .ok (.ladd, 1) := by decide +kernel
theorem dX11_digest_328 : decode cX11_digest 328 = .ok (.lstore_n 1, 1) := by decide +kernel
theorem dX11_digest_329 : decode cX11_digest 329 = .ok (.ldc2_w 286, 3) := by decide +kernel
theorem dX11_digest_332 : decode cX11_digest 332 = .ok (.lload_n 1, 1) := by decide +kernel
theorem dX11_digest_333 : decode cX11_digest 333 = .ok (.lmul, 1) := by decide +kernel
theorem dX11_digest_334 : decode cX11_digest 334 = .ok (.aload_n 0, 1) := by decide +kernel
theorem dX11_digest_335 : decode cX11_digest 335 = .ok (.iconst 1, 1) := by decide +kernel
theorem dX11_digest_336 : decode cX11_digest 336 = .ok (.invokevirtual 245, 3) := by decide +kernel
theorem dX11_digest_339 : decode cX11_digest 339 = .ok (.i2l, 1) := by decide +kernel
theorem dX11_digest_340 : decode cX11_digest 340 = .ok (.ladd, 1) := by decide +kernel
theorem dX11_digest_341 : decode cX11_digest 341 = .ok (.lstore_n 1, 1) := by decide +kernel
theorem dX11_digest_342 : decode cX11_digest 342 = .ok (.ldc2_w 286, 3) := by decide +kernel
theorem dX11_digest_345 : decode cX11_digest 345 = .ok (.lload_n 1, 1) := by decide +kernel
theorem dX11_digest_346 : decode cX11_digest 346 = .ok (.lmul, 1) := by decide +kernel
theorem dX11_digest_347 : decode cX11_digest 347 = .ok (.aload_n 0, 1) := by decide +kernel
theorem dX11_digest_348 : decode cX11_digest 348 = .ok (.iconst 0, 1) := by decide +kernel
theorem dX11_digest_349 : decode cX11_digest 349 = .ok (.invokevirtual 254, 3) := by decide +kernel
theorem dX11_digest_352 : decode cX11_digest 352 = .ok (.i2l, 1) := by decide +kernel
theorem dX11_digest_353 : decode cX11_digest 353 = .ok (.ladd, 1) := by decide +kernel
theorem dX11_digest_354 : decode cX11_digest 354 = .ok (.lstore_n 1, 1) := by decide +kernel
theorem dX11_digest_355 : decode cX11_digest 355 = .ok (.ldc2_w 286, 3) := by decide +kernel
theorem dX11_digest_358 : decode cX11_digest 358 = .ok (.lload_n 1, 1) := by decide +kernel
theorem dX11_digest_359 : decode cX11_digest 359 = .ok (.lmul, 1) := by decide +kernel
theorem dX11_digest_360 : decode cX11_digest 360 = .ok (.aload_n 0, 1) := by decide +kernel
theorem dX11_digest_361 : decode cX11_digest 361 = .ok (.iconst 1, 1) := by decide +kernel
theorem dX11_digest_362 : decode cX11_digest 362 = .ok (.invokevirtual 254, 3) := by decide +kernel
theorem dX11_digest_365 : decode cX11_digest 365 = .ok (.i2l, 1) := by decide +kernel
theorem dX11_digest_366 : decode cX11_digest 366 = .ok (.ladd, 1) := by decide +kernel
theorem dX11_digest_367 : decode cX11_digest 367 = .ok (.lstore_n 1, 1) := by decide +kernel
theorem dX11_digest_368 : decode cX11_digest 368 = .ok (.ldc2_w 286, 3) := by decide +kernel
theorem dX11_digest_371 : decode cX11_digest 371 = .ok (.lload_n 1, 1) := by decide +kernel
theorem dX11_digest_372 : decode cX11_digest 372 = .ok (.lmul, 1) := by decide +kernel
theorem dX11_digest_373 : decode cX11_digest 373 = .ok (.aload_n 0, 1) := by decide +kernel
theorem dX11_digest_374 : decode cX11_digest 374 = .ok (.bipush 9, 2) := by decide +kernel
theorem dX11_digest_376 : decode cX11_digest 376 = .ok (.invokevirtual 257, 3) := by decide +kernel
theorem dX11_digest_379 : decode cX11_digest 379 = .ok (.i2l, 1) := by decide +kernel
theorem dX11_digest_380 : decode cX11_digest 380 = .ok (.ladd, 1) := by decide +kernel
theorem dX11_digest_381 : decode cX11_digest 381 = .ok (.lstore_n 1, 1) := by decide +kernel
theorem dX11_digest_382 : decode cX11_digest 382 = .ok (.ldc2_w 286, 3) := by decide +kernel
theorem dX11_digest_385 : decode cX11_digest 385 = .ok (.lload_n 1, 1) := by decide +kernel
theorem dX11_digest_386 : decode cX11_digest 386 = .ok (.lmul, 1) := by decide +kernel
theorem dX11_digest_387 : decode cX11_digest 387 = .ok (.aload_n 0, 1) := by decide +kernel
theorem dX11_digest_388 : decode cX11_digest 388 = .ok (.iconst 0, 1) := by decide +kernel
theorem dX11_digest_389 : decode cX11_digest 389 = .ok (.invokevirtual 263, 3) := by decide +kernel
theorem dX11_digest_392 : decode cX11_digest 392 = .ok (.i2l, 1) := by decide +kernel
theorem dX11_digest_393 : decode cX11_digest 393 = .ok (.ladd, 1) := by decide +kernel
theorem dX11_digest_394 : decode cX11_digest 394 = .ok (.lstore_n 1, 1) := by decide +kernel
theorem dX11_digest_395 : decode cX11_digest 395 = .ok (.ldc2_w 286, 3) := by decide +kernel
theorem dX11_digest_398 : decode cX11_digest 398 = .ok (.lload_n 1, 1) := by decide +kernel
theorem dX11_digest_399 : decode cX11_digest 399 = .ok (.lmul, 1) := by decide +kernel
theorem dX11_digest_400 : decode cX11_digest 400 = .ok (.aload_n 0, 1) := by decide +kernel
theorem dX11_digest_401 : decode cX11_digest 401 = .ok (.iconst 1, 1) := by decide +kernel
theorem dX11_digest_402 : decode cX11_digest 402 = .ok (.invokevirtual 263, 3) := by decide +kernel
theorem dX11_digest_405 : decode cX11_digest 405 = .ok (.i2l, 1) := by decide +kernel
theorem dX11_digest_406 : decode cX11_digest 406 = .ok (.ladd, 1) := by decide +kernel
theorem dX11_digest_407 : decode cX11_digest 407 = .ok (.lstore_n 1, 1) := by decide +kernel
theorem dX11_digest_408 : decode cX11_digest 408 = .ok (.ldc2_w 286, 3) := by decide +kernel
theorem dX11_digest_411 : decode cX11_digest 411 = .ok (.lload_n 1, 1) := by decide +kernel
theorem dX11_digest_412 : decode cX11_digest 412 = .ok (.lmul, 1) := by decide +kernel
theorem dX11_digest_413 : decode cX11_digest 413 = .ok (.aload_n 0, 1) := by decide +kernel
theorem dX11_digest_414 : decode cX11_digest 414 = .ok (.invokevirtual 266, 3) := by decide +kernel
theorem dX11_digest_417 : decode cX11_digest 417 = .ok (.i2l, 1) := by decide +kernel
theorem dX11_digest_418 : decode cX11_digest 418 = .ok (.ladd, 1) := by decide +kernel
theorem dX11_digest_419 : decode cX11_digest 419 = .ok (.lstore_n 1, 1) := by decide +kernel
theorem dX11_digest_420 : decode cX11_digest 420 = .ok (.ldc2_w 286, 3) := by decide +kernel
theorem dX11_digest_423 : decode cX11_digest 423 = .ok (.lload_n 1, 1) := by decide +kernel
theorem dX11_digest_424 : decode cX11_digest 424 = .ok (.lmul, 1) := by decide +kernel
theorem dX11_digest_425 : decode cX11_digest 425 = .ok (.aload_n 0, 1) := by decide +kernel
theorem dX11_digest_426 : decode cX11_digest 426 = .ok (.bipush 7, 2) := by decide +kernel
theorem dX11_digest_428 : decode cX11_digest 428 = .ok (.iconst 0, 1) := by decide +kernel
theorem dX11_digest_429 : decode cX11_digest 429 = .ok (.invokevirtual 270, 3) := by decide +kernel
theorem dX11_digest_432 : decode cX11_digest 432 = .ok (.i2l, 1) := by decide +kernel
theorem dX11_digest_433 : decode cX11_digest 433 = .ok (.ladd, 1) := by decide +kernel
theorem dX11_digest_434 : decode cX11_digest 434 = .ok (.lstore_n 1, 1) := by decide +kernel
theorem dX11_digest_435 : decode cX11_digest 435 = .ok (.ldc2_w 286, 3) := by decide +kernel
theorem dX11_digest_438 : decode cX11_digest 438 = .ok (.lload_n 1, 1) := by decide +kernel
theorem dX11_digest_439 : decode cX11_digest 439 = .ok (.lmul, 1) := by decide +kernel
theorem dX11_digest_440 : decode cX11_digest 440 = .ok (.aload_n 0, 1) := by decide +kernel
theorem dX11_digest_441 : decode cX11_digest 441 = .ok (.bipush 7, 2) := by decide +kernel
theorem dX11_digest_443 : decode cX11_digest 443 = .ok (.bipush 20, 2) := by decide +kernel
theorem dX11_digest_445 : decode cX11_digest 445 = .ok (.invokevirtual 270, 3) := by decide +kernel
theorem dX11_digest_448 : decode cX11_digest 448 = .ok (.i2l, 1) := by decide +kernel
theorem dX11_digest_449 : decode cX11_digest 449 = .ok (.ladd, 1) := by decide +kernel
theorem dX11_digest_450 : decode cX11_digest 450 = .ok (.lreturn, 1) := by decide +kernel
