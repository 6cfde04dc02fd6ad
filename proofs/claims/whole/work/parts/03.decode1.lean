theorem dX9_scan_0 : decode cX9_scan 0 = .ok (.aload_n 0, 1) := by decide +kernel
theorem dX9_scan_1 : decode cX9_scan 1 = .ok (.getfield 19, 3) := by decide +kernel
theorem dX9_scan_4 : decode cX9_scan 4 = .ok (.aload_n 0, 1) := by decide +kernel
theorem dX9_scan_5 : decode cX9_scan 5 = .ok (.getfield 15, 3) := by decide +kernel
theorem dX9_scan_8 : decode cX9_scan 8 = .ok (.if_icmp .ge 30, 3) := by decide +kernel
theorem dX9_scan_11 : decode cX9_scan 11 = .ok (.aload_n 0, 1) := by decide +kernel
theorem dX9_scan_12 : decode cX9_scan 12 = .ok (.getfield 11, 3) := by decide +kernel
theorem dX9_scan_15 : decode cX9_scan 15 = .ok (.aload_n 0, 1) := by decide +kernel
theorem dX9_scan_16 : decode cX9_scan 16 = .ok (.getfield 19, 3) := by decide +kernel
theorem dX9_scan_19 : decode cX9_scan 19 = .ok (.iaload, 1) := by decide +kernel
theorem dX9_scan_20 : decode cX9_scan 20 = .ok (.bipush 32, 2) := by decide +kernel
theorem dX9_scan_22 : decode cX9_scan 22 = .ok (.if_icmp .ne 16, 3) := by decide +kernel
theorem dX9_scan_25 : decode cX9_scan 25 = .ok (.aload_n 0, 1) := by decide +kernel
theorem dX9_scan_26 : decode cX9_scan 26 = .ok (.dup, 1) := by decide +kernel
theorem dX9_scan_27 : decode cX9_scan 27 = .ok (.getfield 19, 3) := by decide +kernel
theorem dX9_scan_30 : decode cX9_scan 30 = .ok (.iconst 1, 1) := by decide +kernel
theorem dX9_scan_31 : decode cX9_scan 31 = .ok (.iadd, 1) := by decide +kernel
theorem dX9_scan_32 : decode cX9_scan 32 = .ok (.putfield 19, 3) := by decide +kernel
theorem dX9_scan_35 : decode cX9_scan 35 = .ok (.goto (-35), 3) := by decide +kernel
theorem dX9_scan_38 : decode cX9_scan 38 = .ok (.aload_n 0, 1) := by decide +kernel
theorem dX9_scan_39 : decode cX9_scan 39 = .ok (.aload_n 0, 1) := by decide +kernel
theorem dX9_scan_40 : decode cX9_scan 40 = .ok (.getfield 19, 3) := by decide +kernel
theorem dX9_scan_43 : decode cX9_scan 43 = .ok (.putfield 28, 3) := by decide +kernel
theorem dX9_scan_46 : decode cX9_scan 46 = .ok (.aload_n 0, 1) := by decide +kernel
theorem dX9_scan_47 : decode cX9_scan 47 = .ok (.iconst 0, 1) := by decide +kernel
theorem dX9_scan_48 : decode cX9_scan 48 = .ok (.putfield 31, 3) := by decide +kernel
theorem dX9_scan_51 : decode cX9_scan 51 = .ok (.aload_n 0, 1) := by decide +kernel
theorem dX9_scan_52 : decode cX9_scan 52 = .ok (.iconst 0, 1) := by decide +kernel
theorem dX9_scan_53 : decode cX9_scan 53 = .ok (.putfield 34, 3) := by decide +kernel
theorem dX9_scan_56 : decode cX9_scan 56 = .ok (.aload_n 0, 1) := by decide +kernel
theorem dX9_scan_57 : decode cX9_scan 57 = .ok (.getfield 19, 3) := by decide +kernel
theorem dX9_scan_60 : decode cX9_scan 60 = .ok (.aload_n 0, 1) := by decide +kernel
theorem dX9_scan_61 : decode cX9_scan 61 = .ok (.getfield 15, 3) := by decide +kernel
theorem dX9_scan_64 : decode cX9_scan 64 = .ok (.if_icmp .ge 90, 3) := by decide +kernel
theorem dX9_scan_67 : decode cX9_scan 67 = .ok (.aload_n 0, 1) := by decide +kernel
theorem dX9_scan_68 : decode cX9_scan 68 = .ok (.getfield 11, 3) := by decide +kernel
theorem dX9_scan_71 : decode cX9_scan 71 = .ok (.aload_n 0, 1) := by decide +kernel
theorem dX9_scan_72 : decode cX9_scan 72 = .ok (.getfield 19, 3) := by decide +kernel
theorem dX9_scan_75 : decode cX9_scan 75 = .ok (.iaload, 1) := by decide +kernel
theorem dX9_scan_76 : decode cX9_scan 76 = .ok (.bipush 48, 2) := by decide +kernel
theorem dX9_scan_78 : decode cX9_scan 78 = .ok (.if_icmp .lt 76, 3) := by decide +kernel
theorem dX9_scan_81 : decode cX9_scan 81 = .ok (.aload_n 0, 1) := by decide +kernel
theorem dX9_scan_82 : decode cX9_scan 82 = .ok (.getfield 11, 3) := by decide +kernel
theorem dX9_scan_85 : decode cX9_scan 85 = .ok (.aload_n 0, 1) := by decide +kernel
theorem dX9_scan_86 : decode cX9_scan 86 = .ok (.getfield 19, 3) := by decide +kernel
theorem dX9_scan_89 : decode cX9_scan 89 = .ok (.iaload, 1) := by decide +kernel
theorem dX9_scan_90 : decode cX9_scan 90 = .ok (.bipush 57, 2) := by decide +kernel
theorem dX9_scan_92 : decode cX9_scan 92 = .ok (.if_icmp .gt 62, 3) := by decide +kernel
theorem dX9_scan_95 : decode cX9_scan 95 = .ok (.aload_n 0, 1) := by decide +kernel
theorem dX9_scan_96 : decode cX9_scan 96 = .ok (.iconst 1, 1) := by decide +kernel
theorem dX9_scan_97 : decode cX9_scan 97 = .ok (.putfield 34, 3) := by decide +kernel
theorem dX9_scan_100 : decode cX9_scan 100 = .ok (.aload_n 0, 1) := by decide +kernel
theorem dX9_scan_101 : decode cX9_scan 101 = .ok (.aload_n 0, 1) := by decide +kernel
theorem dX9_scan_102 : decode cX9_scan 102 = .ok (.getfield 19, 3) := by decide +kernel
theorem dX9_scan_105 : decode cX9_scan 105 = .ok (.aload_n 0, 1) := by decide +kernel
theorem dX9_scan_106 : decode cX9_scan 106 = .ok (.getfield 28, 3) := by decide +kernel
theorem dX9_scan_109 : decode cX9_scan 109 = .ok (.isub, 1) := by decide +kernel
theorem dX9_scan_110 : decode cX9_scan 110 = .ok (.iconst 5, 1) := by decide +kernel
theorem dX9_scan_111 : decode cX9_scan 111 = .ok (.if_icmp .ge 26, 3) := by decide +kernel
theorem dX9_scan_114 : decode cX9_scan 114 = .ok (.aload_n 0, 1) := by decide +kernel
theorem dX9_scan_115 : decode cX9_scan 115 = .ok (.getfield 31, 3) := by decide +kernel
theorem dX9_scan_118 : decode cX9_scan 118 = .ok (.bipush 10, 2) := by decide +kernel
theorem dX9_scan_120 : decode cX9_scan 120 = .ok (.imul, 1) := by decide +kernel
theorem dX9_scan_121 : decode cX9_scan 121 = .ok (.aload_n 0, 1) := by decide +kernel
theorem dX9_scan_122 : decode cX9_scan 122 = .ok (.getfield 11, 3) := by decide +kernel
theorem dX9_scan_125 : decode cX9_scan 125 = .ok (.aload_n 0, 1) := by decide +kernel
theorem dX9_scan_126 : decode cX9_scan 126 = .ok (.getfield 19, 3) := by decide +kernel
theorem dX9_scan_129 : decode cX9_scan 129 = .ok (.iaload, 1) := by decide +kernel
theorem dX9_scan_130 : decode cX9_scan 130 = .ok (.iadd, 1) := by decide +kernel
theorem dX9_scan_131 : decode cX9_scan 131 = .ok (.bipush 48, 2) := by decide +kernel
theorem dX9_scan_133 : decode cX9_scan 133 = .ok (.isub, 1) := by decide +kernel
theorem dX9_scan_134 : decode cX9_scan 134 = .ok (.goto 4, 3) := by decide +kernel
theorem dX9_scan_137 : decode cX9_scan 137 = .ok (.iconst (-1), 1) := by decide +kernel
theorem dX9_scan_138 : decode cX9_scan 138 = .ok (.putfield 31, 3) := by decide +kernel
theorem dX9_scan_141 : decode cX9_scan 141 = .ok (.aload_n 0, 1) := by decide +kernel
theorem dX9_scan_142 : decode cX9_scan 142 = .ok (.dup, 1) := by decide +kernel
theorem dX9_scan_143 : decode cX9_scan 143 = .ok (.getfield 19, 3) := by decide +kernel
theorem dX9_scan_146 : decode cX9_scan 146 = .ok (.iconst 1, 1) := by decide +kernel
theorem dX9_scan_147 : decode cX9_scan 147 = .ok (.iadd, 1) := by decide +kernel
theorem dX9_scan_148 : decode cX9_scan 148 = .ok (.putfield 19, 3) := by decide +kernel
theorem dX9_scan_151 : decode cX9_scan 151 = .ok (.goto (-95), 3) := by decide +kernel
theorem dX9_scan_154 : decode cX9_scan 154 = .ok (.aload_n 0, 1) := by decide +kernel
theorem dX9_scan_155 : decode cX9_scan 155 = .ok (.getfield 34, 3) := by decide +kernel
theorem dX9_scan_158 : decode cX9_scan 158 = .ok (.iconst 1, 1) := by decide +kernel
theorem dX9_scan_159 : decode cX9_scan 159 = .ok (.if_icmp .eq 60, 3) := by decide +kernel
theorem dX9_scan_162 : decode cX9_scan 162 = .ok (.aload_n 0, 1) := by decide +kernel
theorem dX9_scan_163 : decode cX9_scan 163 = .ok (.getfield 19, 3) := by decide +kernel
theorem dX9_scan_166 : decode cX9_scan 166 = .ok (.aload_n 0, 1) := by decide +kernel
theorem dX9_scan_167 : decode cX9_scan 167 = .ok (.getfield 15, 3) := by decide +kernel
theorem dX9_scan_170 : decode cX9_scan 170 = .ok (.if_icmp .ge 49, 3) := by decide +kernel
theorem dX9_scan_173 : decode cX9_scan 173 = .ok (.aload_n 0, 1) := by decide +kernel
theorem dX9_scan_174 : decode cX9_scan 174 = .ok (.getfield 11, 3) := by decide +kernel
theorem dX9_scan_177 : decode cX9_scan 177 = .ok (.aload_n 0, 1) := by decide +kernel
theorem dX9_scan_178 : decode cX9_scan 178 = .ok (.getfield 19, 3) := by decide +kernel
theorem dX9_scan_181 : decode cX9_scan 181 = .ok (.iaload, 1) := by decide +kernel
theorem dX9_scan_182 : decode cX9_scan 182 = .ok (.bipush 97, 2) := by decide +kernel
theorem dX9_scan_184 : decode cX9_scan 184 = .ok (.if_icmp .lt 35, 3) := by decide +kernel
theorem dX9_scan_187 : decode cX9_scan 187 = .ok (.aload_n 0, 1) := by decide +kernel
theorem dX9_scan_188 : decode cX9_scan 188 = .ok (.getfield 11, 3) := by decide +kernel
theorem dX9_scan_191 : decode cX9_scan 191 = .ok (.aload_n 0, 1) := by decide +kernel
theorem dX9_scan_192 : decode cX9_scan 192 = .ok (.getfield 19, 3) := by decide +kernel
theorem dX9_scan_195 : decode cX9_scan 195 = .ok (.iaload, 1) := by decide +kernel
theorem dX9_scan_196 : decode cX9_scan 196 = .ok (.bipush 122, 2) := by decide +kernel
theorem dX9_scan_198 : decode cX9_scan 198 = .ok (.if_icmp .gt 21, 3) := by decide +kernel
theorem dX9_scan_201 : decode cX9_scan 201 = .ok (.aload_n 0, 1) := by decide +kernel
theorem dX9_scan_202 : decode cX9_scan 202 = .ok (.iconst 2, 1) := by decide +kernel
theorem dX9_scan_203 : decode cX9_scan 203 = .ok (.putfield 34, 3) := by decide +kernel
theorem dX9_scan_206 : decode cX9_scan 206 = .ok (.aload_n 0, 1) := by decide +kernel
theorem dX9_scan_207 : decode cX9_scan 207 = .ok (.dup, 1) := by decide +kernel
theorem dX9_scan_208 : decode cX9_scan 208 = .ok (.getfield 19, 3) := by decide +kernel
theorem dX9_scan_211 : decode cX9_scan 211 = .ok (.iconst 1, 1) := by decide +kernel
theorem dX9_scan_212 : decode cX9_scan 212 = .ok (.iadd, 1) := by decide +kernel
theorem dX9_scan_213 : decode cX9_scan 213 = .ok (.putfield 19, 3) := by decide +kernel
theorem dX9_scan_216 : decode cX9_scan 216 = .ok (.goto (-62), 3) := by decide +kernel
theorem dX9_scan_219 : decode cX9_scan 219 = .ok (.aload_n 0, 1) := by decide +kernel
theorem dX9_scan_220 : decode cX9_scan 220 = .ok (.getfield 34, 3) := by decide +kernel
theorem dX9_scan_223 : decode cX9_scan 223 = .ok (.ifCond .ne 107, 3) := by decide +kernel
theorem dX9_scan_226 : decode cX9_scan 226 = .ok (.aload_n 0, 1) := by decide +kernel
theorem dX9_scan_227 : decode cX9_scan 227 = .ok (.getfield 19, 3) := by decide +kernel
theorem dX9_scan_230 : decode cX9_scan 230 = .ok (.aload_n 0, 1) := by decide +kernel
theorem dX9_scan_231 : decode cX9_scan 231 = .ok (.getfield 15, 3) := by decide +kernel
theorem dX9_scan_234 : decode cX9_scan 234 = .ok (.if_icmp .ge 96, 3) := by decide +kernel
theorem dX9_scan_237 : decode cX9_scan 237 = .ok (.aload_n 0, 1) := by decide +kernel
theorem dX9_scan_238 : decode cX9_scan 238 = .ok (.iconst 3, 1) := by decide +kernel
theorem dX9_scan_239 : decode cX9_scan 239 = .ok (.putfield 34, 3) := by decide +kernel
theorem dX9_scan_242 : decode cX9_scan 242 = .ok (.aload_n 0, 1) := by decide +kernel
theorem dX9_scan_243 : decode cX9_scan 243 = .ok (.aload_n 0, 1) := by decide +kernel
theorem dX9_scan_244 : decode cX9_scan 244 = .ok (.getfield 11, 3) := by decide +kernel
theorem dX9_scan_247 : decode cX9_scan 247 = .ok (.aload_n 0, 1) := by decide +kernel
theorem dX9_scan_248 : decode cX9_scan 248 = .ok (.getfield 19, 3) := by decide +kernel
theorem dX9_scan_251 : decode cX9_scan 251 = .ok (.iaload, 1) := by decide +kernel
theorem dX9_scan_252 : decode cX9_scan 252 = .ok (.putfield 31, 3) := by decide +kernel
theorem dX9_scan_255 : decode cX9_scan 255 = .ok (.aload_n 0, 1) := by decide +kernel
theorem dX9_scan_256 : decode cX9_scan 256 = .ok (.dup, 1) := by decide +kernel
theorem dX9_scan_257 : decode cX9_scan 257 = .ok (.getfield 19, 3) := by decide +kernel
theorem dX9_scan_260 : decode cX9_scan 260 = .ok (.iconst 1, 1) := by decide +kernel
theorem dX9_scan_261 : decode cX9_scan 261 = .ok (.iadd, 1) := by decide +kernel
theorem dX9_scan_262 : decode cX9_scan 262 = .ok (.putfield 19, 3) := by decide +kernel
theorem dX9_scan_265 : decode cX9_scan 265 = .ok (.aload_n 0, 1) := by decide +kernel
theorem dX9_scan_266 : decode cX9_scan 266 = .ok (.getfield 31, 3) := by decide +kernel
theorem dX9_scan_269 : decode cX9_scan 269 = .ok (.bipush 60, 2) := by decide +kernel
theorem dX9_scan_271 : decode cX9_scan 271 = .ok (.if_icmp .eq 12, 3) := by decide +kernel
theorem dX9_scan_274 : decode cX9_scan 274 = .ok (.aload_n 0, 1) := by decide +kernel
theorem dX9_scan_275 : decode cX9_scan 275 = .ok (.getfield 31, 3) := by decide +kernel
theorem dX9_scan_278 : decode cX9_scan 278 = .ok (.bipush 62, 2) := by decide +kernel
theorem dX9_scan_280 : decode cX9_scan 280 = .ok (.if_icmp .ne 50, 3) := by decide +kernel
theorem dX9_scan_283 : decode cX9_scan 283 = .ok (.aload_n 0, 1) := by decide +kernel
theorem dX9_scan_284 : decode cX9_scan 284 = .ok (.getfield 19, 3) := by decide +kernel
theorem dX9_scan_287 : decode cX9_scan 287 = .ok (.aload_n 0, 1) := by decide +kernel
theorem dX9_scan_288 : decode cX9_scan 288 = .ok (.getfield 15, 3) := by decide +kernel
theorem dX9_scan_291 : decode cX9_scan 291 = .ok (.if_icmp .ge 39, 3) := by decide +kernel
theorem dX9_scan_294 : decode cX9_scan 294 = .ok (.aload_n 0, 1) := by decide +kernel
theorem dX9_scan_295 : decode cX9_scan 295 = .ok (.getfield 11, 3) := by decide +kernel
theorem dX9_scan_298 : decode cX9_scan 298 = .ok (.aload_n 0, 1) := by decide +kernel
theorem dX9_scan_299 : decode cX9_scan 299 = .ok (.getfield 19, 3) := by decide +kernel
theorem dX9_scan_302 : decode cX9_scan 302 = .ok (.iaload, 1) := by decide +kernel
theorem dX9_scan_303 : decode cX9_scan 303 = .ok (.bipush 61, 2) := by decide +kernel
theorem dX9_scan_305 : decode cX9_scan 305 = .ok (.if_icmp .ne 25, 3) := by decide +kernel
theorem dX9_scan_308 : decode cX9_scan 308 = .ok (.aload_n 0, 1) := by decide +kernel
theorem dX9_scan_309 : decode cX9_scan 309 = .ok (.dup, 1) := by decide +kernel
theorem dX9_scan_310 : decode cX9_scan 310 = .ok (.getfield 31, 3) := by decide +kernel
theorem dX9_scan_313 : decode cX9_scan 313 = .ok (.sipush 256, 3) := by decide +kernel
theorem dX9_scan_316 : decode cX9_scan 316 = .ok (.iadd, 1) := by decide +kernel
theorem dX9_scan_317 : decode cX9_scan 317 = .ok (.putfield 31, 3) := by decide +kernel
theorem dX9_scan_320 : decode cX9_scan 320 = .ok (.aload_n 0, 1) := by decide +kernel
theorem dX9_scan_321 : decode cX9_scan 321 = .ok (.dup, 1) := by decide +kernel
theorem dX9_scan_322 : decode cX9_scan 322 = .ok (.getfield 19, 3) := by decide +kernel
theorem dX9_scan_325 : decode cX9_scan 325 = .ok (.iconst 1, 1) := by decide +kernel
theorem dX9_scan_326 : decode cX9_scan 326 = .ok (.iadd, 1) := by decide +kernel
theorem dX9_scan_327 : decode cX9_scan 327 = .ok (.putfield 19, 3) := by decide +kernel
theorem dX9_scan_330 : decode cX9_scan 330 = .ok (.return_, 1) := by decide +kernel
theorem dX9_isSign_0 : decode cX9_isSign 0 = .ok (.aload_n 0, 1) := by decide +kernel
theorem dX9_isSign_1 : decode cX9_isSign 1 = .ok (.getfield 34, 3) := by decide +kernel
theorem dX9_isSign_4 : decode cX9_isSign 4 = .ok (.iconst 3, 1) := by decide +kernel
theorem dX9_isSign_5 : decode cX9_isSign 5 = .ok (.if_icmp .ne 15, 3) := by decide +kernel
theorem dX9_isSign_8 : decode cX9_isSign 8 = .ok (.aload_n 0, 1) := by decide +kernel
theorem dX9_isSign_9 : decode cX9_isSign 9 = .ok (.getfield 31, 3) := by decide +kernel
theorem dX9_isSign_12 : decode cX9_isSign 12 = .ok (.iload_n 1, 1) := by decide +kernel
theorem dX9_isSign_13 : decode cX9_isSign 13 = .ok (.if_icmp .ne 7, 3) := by decide +kernel
theorem dX9_isSign_16 : decode cX9_isSign 16 = .ok (.iconst 1, 1) := by decide +kernel
theorem dX9_isSign_17 : decode cX9_isSign 17 = .ok (.goto 4, 3) := by decide +kernel
theorem dX9_isSign_20 : decode cX9_isSign 20 = .ok (.iconst 0, 1) := by decide +kernel
theorem dX9_isSign_21 : decode cX9_isSign 21 = .ok (.ireturn, 1) := by decide +kernel
theorem dX9_among_0 : decode cX9_among 0 = .ok (.aload_n 0, 1) := by decide +kernel
theorem dX9_among_1 : decode cX9_among 1 = .ok (.getfield 34, 3) := by decide +kernel
theorem dX9_among_4 : decode cX9_among 4 = .ok (.iconst 2, 1) := by decide +kernel
theorem dX9_among_5 : decode cX9_among 5 = .ok (.if_icmp .eq 5, 3) := by decide +kernel
theorem dX9_among_8 : decode cX9_among 8 = .ok (.iconst (-1), 1) := by decide +kernel
theorem dX9_among_9 : decode cX9_among 9 = .ok (.ireturn, 1) := by decide +kernel
theorem dX9_among_10 : decode cX9_among 10 = .ok (.iconst 0, 1) := by decide +kernel
theorem dX9_among_11 : decode cX9_among 11 = .ok (.istore_n 2, 1) := by decide +kernel
theorem dX9_among_12 : decode cX9_among 12 = .ok (.aload_n 0, 1) := by decide +kernel
theorem dX9_among_13 : decode cX9_among 13 = .ok (.getfield 28, 3) := by decide +kernel
theorem dX9_among_16 : decode cX9_among 16 = .ok (.istore_n 3, 1) := by decide +kernel
theorem dX9_among_17 : decode cX9_among 17 = .ok (.iconst 0, 1) := by decide +kernel
theorem dX9_among_18 : decode cX9_among 18 = .ok (.istore 4, 2) := by decide +kernel
theorem dX9_among_20 : decode cX9_among 20 = .ok (.iload 4, 2) := by decide +kernel
theorem dX9_among_22 : decode cX9_among 22 = .ok (.aload_n 1, 1) := by decide +kernel
theorem dX9_among_23 : decode cX9_among 23 = .ok (.invokevirtual 37, 3) := by decide +kernel
theorem dX9_among_26 : decode cX9_among 26 = .ok (.if_icmp .gt 86, 3) := by decide +kernel
theorem dX9_among_29 : decode cX9_among 29 = .ok (.iload 4, 2) := by decide +kernel
theorem dX9_among_31 : decode cX9_among 31 = .ok (.aload_n 1, 1) := by decide +kernel
theorem dX9_among_32 : decode cX9_among 32 = .ok (.invokevirtual 37, 3) := by decide +kernel
theorem dX9_among_35 : decode cX9_among 35 = .ok (.if_icmp .eq 14, 3) := by decide +kernel
theorem dX9_among_38 : decode cX9_among 38 = .ok (.aload_n 1, 1) := by decide +kernel
theorem dX9_among_39 : decode cX9_among 39 = .ok (.iload 4, 2) := by decide +kernel
theorem dX9_among_41 : decode cX9_among 41 = .ok (.invokevirtual 42, 3) := by decide +kernel
theorem dX9_among_44 : decode cX9_among 44 = .ok (.bipush 32, 2) := by decide +kernel
theorem dX9_among_46 : decode cX9_among 46 = .ok (.if_icmp .ne 24, 3) := by decide +kernel
theorem dX9_among_49 : decode cX9_among 49 = .ok (.iload_n 3, 1) := by decide +kernel
theorem dX9_among_50 : decode cX9_among 50 = .ok (.aload_n 0, 1) := by decide +kernel
theorem dX9_among_51 : decode cX9_among 51 = .ok (.getfield 19, 3) := by decide +kernel
theorem dX9_among_54 : decode cX9_among 54 = .ok (.if_icmp .ne 5, 3) := by decide +kernel
theorem dX9_among_57 : decode cX9_among 57 = .ok (.iload_n 2, 1) := by decide +kernel
theorem dX9_among_58 : decode cX9_among 58 = .ok (.ireturn, 1) := by decide +kernel
theorem dX9_among_59 : decode cX9_among 59 = .ok (.iinc 2 1, 3) := by decide +kernel
theorem dX9_among_62 : decode cX9_among 62 = .ok (.aload_n 0, 1) := by decide +kernel
theorem dX9_among_63 : decode cX9_among 63 = .ok (.getfield 28, 3) := by decide +kernel
theorem dX9_among_66 : decode cX9_among 66 = .ok (.istore_n 3, 1) := by decide +kernel
theorem dX9_among_67 : decode cX9_among 67 = .ok (.goto 39, 3) := by decide +kernel
theorem dX9_among_70 : decode cX9_among 70 = .ok (.iload_n 3, 1) := by decide +kernel
theorem dX9_among_71 : decode cX9_among 71 = .ok (.iconst (-1), 1) := by decide +kernel
theorem dX9_among_72 : decode cX9_among 72 = .ok (.if_icmp .eq 34, 3) := by decide +kernel
theorem dX9_among_75 : decode cX9_among 75 = .ok (.iload_n 3, 1) := by decide +kernel
theorem dX9_among_76 : decode cX9_among 76 = .ok (.aload_n 0, 1) := by decide +kernel
theorem dX9_among_77 : decode cX9_among 77 = .ok (.getfield 19, 3) := by decide +kernel
theorem dX9_among_80 : decode cX9_among 80 = .ok (.if_icmp .ge 24, 3) := by decide +kernel
theorem dX9_among_83 : decode cX9_among 83 = .ok (.aload_n 0, 1) := by decide +kernel
theorem dX9_among_84 : decode cX9_among 84 = .ok (.getfield 11, 3) := by decide +kernel
theorem dX9_among_87 : decode cX9_among 87 = .ok (.iload_n 3, 1) := by decide +kernel
theorem dX9_among_88 : decode cX9_among 88 = .ok (.iaload, 1) := by decide +kernel
theorem dX9_among_89 : decode cX9_among 89 = .ok (.aload_n 1, 1) := by decide +kernel
theorem dX9_among_90 : decode cX9_among 90 = .ok (.iload 4, 2) := by decide +kernel
theorem dX9_among_92 : decode cX9_among 92 = .ok (.invokevirtual 42, 3) := by decide +kernel
theorem dX9_among_95 : decode cX9_among 95 = .ok (.if_icmp .ne 9, 3) := by decide +kernel
theorem dX9_among_98 : decode cX9_among 98 = .ok (.iload_n 3, 1) := by decide +kernel
theorem dX9_among_99 : decode cX9_among 99 = .ok (.iconst 1, 1) := by decide +kernel
theorem dX9_among_100 : decode cX9_among 100 = .ok (.iadd, 1) := by decide +kernel
theorem dX9_among_101 : decode cX9_among 101 = .ok (.goto 4, 3) := by decide +kernel
theorem dX9_among_104 : decode cX9_among 104 = .ok (.iconst (-1), 1) := by decide +kernel
theorem dX9_among_105 : decode cX9_among 105 = .ok (.istore_n 3, 1) := by decide +kernel
theorem dX9_among_106 : decode cX9_among 106 = .ok (.iinc 4 1, 3) := by decide +kernel
theorem dX9_among_109 : decode cX9_among 109 = .ok (.goto (-89), 3) := by decide +kernel
theorem dX9_among_112 : decode cX9_among 112 = .ok (.iconst (-1), 1) := by decide +kernel
theorem dX9_among_113 : decode cX9_among 113 = .ok (.ireturn, 1) := by decide +kernel
theorem dX9_takeNumber_0 : decode cX9_takeNumber 0 = .ok (.aload_n 0, 1) := by decide +kernel
theorem dX9_takeNumber_1 : decode cX9_takeNumber 1 = .ok (.getfield 34, 3) := by decide +kernel
theorem dX9_takeNumber_4 : decode cX9_takeNumber 4 = .ok (.iconst 1, 1) := by decide +kernel
theorem dX9_takeNumber_5 : decode cX9_takeNumber 5 = .ok (.if_icmp .eq 13, 3) := by decide +kernel
theorem dX9_takeNumber_8 : decode cX9_takeNumber 8 = .ok (.aload_n 0, 1) := by decide +kernel
theorem dX9_takeNumber_9 : decode cX9_takeNumber 9 = .ok (.aload_n 0, 1) := by decide +kernel
theorem dX9_takeNumber_10 : decode cX9_takeNumber 10 = .ok (.getfield 28, 3) := by decide +kernel
theorem dX9_takeNumber_13 : decode cX9_takeNumber 13 = .ok (.iconst 0, 1) := by decide +kernel
theorem dX9_takeNumber_14 : decode cX9_takeNumber 14 = .ok (.invokevirtual 46, 3) := by decide +kernel
theorem dX9_takeNumber_17 : decode cX9_takeNumber 17 = .ok (.ireturn, 1) := by decide +kernel
theorem dX9_takeNumber_18 : decode cX9_takeNumber 18 = .ok (.aload_n 0, 1) := by decide +kernel
theorem dX9_takeNumber_19 : decode cX9_takeNumber 19 = .ok (.getfield 31, 3) := by decide +kernel
theorem dX9_takeNumber_22 : decode cX9_takeNumber 22 = .ok (.iload_n 1, 1) := by decide +kernel
theorem dX9_takeNumber_23 : decode cX9_takeNumber 23 = .ok (.if_icmp .lt 11, 3) := by decide +kernel
theorem dX9_takeNumber_26 : decode cX9_takeNumber 26 = .ok (.aload_n 0, 1) := by decide +kernel
theorem dX9_takeNumber_27 : decode cX9_takeNumber 27 = .ok (.getfield 31, 3) := by decide +kernel
theorem dX9_takeNumber_30 : decode cX9_takeNumber 30 = .ok (.iload_n 2, 1) := by decide +kernel
theorem dX9_takeNumber_31 : decode cX9_takeNumber 31 = .ok (.if_icmp .le 13, 3) := by decide +kernel
theorem dX9_takeNumber_34 : decode cX9_takeNumber 34 = .ok (.aload_n 0, 1) := by decide +kernel
theorem dX9_takeNumber_35 : decode cX9_takeNumber 35 = .ok (.aload_n 0, 1) := by decide +kernel
theorem dX9_takeNumber_36 : decode cX9_takeNumber 36 = .ok (.getfield 28, 3) := by decide +kernel
theorem dX9_takeNumber_39 : decode cX9_takeNumber 39 = .ok (.iconst 1, 1) := by decide +kernel
theorem dX9_takeNumber_40 : decode cX9_takeNumber 40 = .ok (.invokevirtual 46, 3) := by decide +kernel
theorem dX9_takeNumber_43 : decode cX9_takeNumber 43 = .ok (.ireturn, 1) := by decide +kernel
theorem dX9_takeNumber_44 : decode cX9_takeNumber 44 = .ok (.aload_n 0, 1) := by decide +kernel
theorem dX9_takeNumber_45 : decode cX9_takeNumber 45 = .ok (.aload_n 0, 1) := by decide +kernel
theorem dX9_takeNumber_46 : decode cX9_takeNumber 46 = .ok (.getfield 31, 3) := by decide +kernel
theorem dX9_takeNumber_49 : decode cX9_takeNumber 49 = .ok (.putfield 50, 3) := by decide +kernel
theorem dX9_takeNumber_52 : decode cX9_takeNumber 52 = .ok (.aload_n 0, 1) := by decide +kernel
theorem dX9_takeNumber_53 : decode cX9_takeNumber 53 = .ok (.invokevirtual 25, 3) := by decide +kernel
theorem dX9_takeNumber_56 : decode cX9_takeNumber 56 = .ok (.iconst 1, 1) := by decide +kernel
theorem dX9_takeNumber_57 : decode cX9_takeNumber 57 = .ok (.ireturn, 1) := by decide +kernel
theorem dX9_fail_0 : decode cX9_fail 0 = .ok (.aload_n 0, 1) := by decide +kernel
theorem dX9_fail_1 : decode cX9_fail 1 = .ok (.aload_n 0, 1) := by decide +kernel
theorem dX9_fail_2 : decode cX9_fail 2 = .ok (.getfield 28, 3) := by decide +kernel
theorem dX9_fail_5 : decode cX9_fail 5 = .ok (.iload_n 1, 1) := by decide +kernel
theorem dX9_fail_6 : decode cX9_fail 6 = .ok (.invokevirtual 46, 3) := by decide +kernel
theorem dX9_fail_9 : decode cX9_fail 9 = .ok (.ireturn, 1) := by decide +kernel
theorem dX9_failAt_0 : decode cX9_failAt 0 = .ok (.aload_n 0, 1) := by decide +kernel
theorem dX9_failAt_1 : decode cX9_failAt 1 = .ok (.getfield 22, 3) := by decide +kernel
theorem dX9_failAt_4 : decode cX9_failAt 4 = .ok (.ifCond .ne 15, 3) := by decide +kernel
theorem dX9_failAt_7 : decode cX9_failAt 7 = .ok (.aload_n 0, 1) := by decide +kernel
theorem dX9_failAt_8 : decode cX9_failAt 8 = .ok (.iconst 1, 1) := by decide +kernel
theorem dX9_failAt_9 : decode cX9_failAt 9 = .ok (.bipush 8, 2) := by decide +kernel
theorem dX9_failAt_11 : decode cX9_failAt 11 = .ok (.iload_n 1, 1) := by decide +kernel
theorem dX9_failAt_12 : decode cX9_failAt 12 = .ok (.imul, 1) := by decide +kernel
theorem dX9_failAt_13 : decode cX9_failAt 13 = .ok (.iadd, 1) := by decide +kernel
theorem dX9_failAt_14 : decode cX9_failAt 14 = .ok (.iload_n 2, 1) := by decide +kernel
theorem dX9_failAt_15 : decode cX9_failAt 15 = .ok (.iadd, 1) := by decide +kernel
theorem dX9_failAt_16 : decode cX9_failAt 16 = .ok (.putfield 22, 3) := by decide +kernel
theorem dX9_failAt_19 : decode cX9_failAt 19 = .ok (.iconst 0, 1) := by decide +kernel
theorem dX9_failAt_20 : decode cX9_failAt 20 = .ok (.ireturn, 1) := by decide +kernel
theorem dX10_init_0 : decode cX10_init 0 = .ok (.aload_n 0, 1) := by decide +kernel
theorem dX10_init_1 : decode cX10_init 1 = .ok (.invokespecial 3, 3) := by decide +kernel
theorem dX10_init_4 : decode cX10_init 4 = .ok (.aload_n 0, 1) := by decide +kernel
theorem dX10_init_5 : decode cX10_init 5 = .ok (.bipush 64, 2) := by decide +kernel
theorem dX10_init_7 : decode cX10_init 7 = .ok (.newarray .int, 2) := by decide +kernel
theorem dX10_init_9 : decode cX10_init 9 = .ok (.putfield 9, 3) := by decide +kernel
theorem dX10_init_12 : decode cX10_init 12 = .ok (.aload_n 0, 1) := by decide +kernel
theorem dX10_init_13 : decode cX10_init 13 = .ok (.sipush 2048, 3) := by decide +kernel
theorem dX10_init_16 : decode cX10_init 16 = .ok (.newarray .int, 2) := by decide +kernel
theorem dX10_init_18 : decode cX10_init 18 = .ok (.putfield 15, 3) := by decide +kernel
theorem dX10_init_21 : decode cX10_init 21 = .ok (.return_, 1) := by decide +kernel
theorem dX10_fewestSteps_0 : decode cX10_fewestSteps 0 = .ok (.iload_n 3, 1) := by decide +kernel
theorem dX10_fewestSteps_1 : decode cX10_fewestSteps 1 = .ok (.iconst 1, 1) := by decide +kernel
theorem dX10_fewestSteps_2 : decode cX10_fewestSteps 2 = .ok (.iload_n 2, 1) := by decide +kernel
theorem dX10_fewestSteps_3 : decode cX10_fewestSteps 3 = .ok (.ishl, 1) := by decide +kernel
theorem dX10_fewestSteps_4 : decode cX10_fewestSteps 4 = .ok (.ior, 1) := by decide +kernel
theorem dX10_fewestSteps_5 : decode cX10_fewestSteps 5 = .ok (.istore 4, 2) := by decide +kernel
theorem dX10_fewestSteps_7 : decode cX10_fewestSteps 7 = .ok (.iconst 0, 1) := by decide +kernel
theorem dX10_fewestSteps_8 : decode cX10_fewestSteps 8 = .ok (.istore 5, 2) := by decide +kernel
theorem dX10_fewestSteps_10 : decode cX10_fewestSteps 10 = .ok (.iload 5, 2) := by decide +kernel
theorem dX10_fewestSteps_12 : decode cX10_fewestSteps 12 = .ok (.aload_n 1, 1) := by decide +kernel
theorem dX10_fewestSteps_13 : decode cX10_fewestSteps 13 = .ok (.getfield 18, 3) := by decide +kernel
theorem dX10_fewestSteps_16 : decode cX10_fewestSteps 16 = .ok (.if_icmp .ge 16, 3) := by decide +kernel
theorem dX10_fewestSteps_19 : decode cX10_fewestSteps 19 = .ok (.aload_n 0, 1) := by decide +kernel
theorem dX10_fewestSteps_20 : decode cX10_fewestSteps 20 = .ok (.aload_n 1, 1) := by decide +kernel
theorem dX10_fewestSteps_21 : decode cX10_fewestSteps 21 = .ok (.iload 5, 2) := by decide +kernel
theorem dX10_fewestSteps_23 : decode cX10_fewestSteps 23 = .ok (.invokevirtual 24, 3) := by decide +kernel
theorem dX10_fewestSteps_26 : decode cX10_fewestSteps 26 = .ok (.iinc 5 1, 3) := by decide +kernel
theorem dX10_fewestSteps_29 : decode cX10_fewestSteps 29 = .ok (.goto (-19), 3) := by decide +kernel
theorem dX10_fewestSteps_32 : decode cX10_fewestSteps 32 = .ok (.aload_n 0, 1) := by decide +kernel
theorem dX10_fewestSteps_33 : decode cX10_fewestSteps 33 = .ok (.getfield 15, 3) := by decide +kernel
theorem dX10_fewestSteps_36 : decode cX10_fewestSteps 36 = .ok (.ldc 28, 2) := by decide +kernel
theorem dX10_fewestSteps_38 : decode cX10_fewestSteps 38 = .ok (.invokestatic 29, 3) := by decide +kernel
theorem dX10_fewestSteps_41 : decode cX10_fewestSteps 41 = .ok (.aload_n 0, 1) := by decide +kernel
theorem dX10_fewestSteps_42 : decode cX10_fewestSteps 42 = .ok (.getfield 15, 3) := by decide +kernel
theorem dX10_fewestSteps_45 : decode cX10_fewestSteps 45 = .ok (.iconst 1, 1) := by decide +kernel
theorem dX10_fewestSteps_46 : decode cX10_fewestSteps 46 = .ok (.iload_n 2, 1) := by decide +kernel
theorem dX10_fewestSteps_47 : decode cX10_fewestSteps 47 = .ok (.ishl, 1) := by decide +kernel
theorem dX10_fewestSteps_48 : decode cX10_fewestSteps 48 = .ok (.bipush 8, 2) := by decide +kernel
theorem dX10_fewestSteps_50 : decode cX10_fewestSteps 50 = .ok (.imul, 1) := by decide +kernel
theorem dX10_fewestSteps_51 : decode cX10_fewestSteps 51 = .ok (.iload_n 2, 1) := by decide +kernel
theorem dX10_fewestSteps_52 : decode cX10_fewestSteps 52 = .ok (.iadd, 1) := by decide +kernel
theorem dX10_fewestSteps_53 : decode cX10_fewestSteps 53 = .ok (.iconst 0, 1) := by decide +kernel
theorem dX10_fewestSteps_54 : decode cX10_fewestSteps 54 = .ok (.iastore, 1) := by decide +kernel
theorem dX10_fewestSteps_55 : decode cX10_fewestSteps 55 = .ok (.iconst 0, 1) := by decide +kernel
theorem dX10_fewestSteps_56 : decode cX10_fewestSteps 56 = .ok (.istore 5, 2) := by decide +kernel
theorem dX10_fewestSteps_58 : decode cX10_fewestSteps 58 = .ok (.iload 5, 2) := by decide +kernel
theorem dX10_fewestSteps_60 : decode cX10_fewestSteps 60 = .ok (.iload 4, 2) := by decide +kernel
theorem dX10_fewestSteps_62 : decode cX10_fewestSteps 62 = .ok (.if_icmp .gt 38, 3) := by decide +kernel
theorem dX10_fewestSteps_65 : decode cX10_fewestSteps 65 = .ok (.iconst 0, 1) := by decide +kernel
theorem dX10_fewestSteps_66 : decode cX10_fewestSteps 66 = .ok (.istore 6, 2) := by decide +kernel
theorem dX10_fewestSteps_68 : decode cX10_fewestSteps 68 = .ok (.iload 6, 2) := by decide +kernel
theorem dX10_fewestSteps_70 : decode cX10_fewestSteps 70 = .ok (.aload_n 1, 1) := by decide +kernel
theorem dX10_fewestSteps_71 : decode cX10_fewestSteps 71 = .ok (.getfield 18, 3) := by decide +kernel
theorem dX10_fewestSteps_74 : decode cX10_fewestSteps 74 = .ok (.if_icmp .ge 20, 3) := by decide +kernel
theorem dX10_fewestSteps_77 : decode cX10_fewestSteps 77 = .ok (.aload_n 0, 1) := by decide +kernel
theorem dX10_fewestSteps_78 : decode cX10_fewestSteps 78 = .ok (.aload_n 1, 1) := by decide +kernel
theorem dX10_fewestSteps_79 : decode cX10_fewestSteps 79 = .ok (.iload 4, 2) := by decide +kernel
theorem dX10_fewestSteps_81 : decode cX10_fewestSteps 81 = .ok (.iload 5, 2) := by decide +kernel
theorem dX10_fewestSteps_83 : decode cX10_fewestSteps 83 = .ok (.iload 6, 2) := by decide +kernel
theorem dX10_fewestSteps_85 : decode cX10_fewestSteps 85 = .ok (.invokevirtual 35, 3) := by decide +kernel
theorem dX10_fewestSteps_88 : decode cX10_fewestSteps 88 = .ok (.iinc 6 1, 3) := by decide +kernel
theorem dX10_fewestSteps_91 : decode cX10_fewestSteps 91 = .ok (.goto (-23), 3) := by decide +kernel
theorem dX10_fewestSteps_94 : decode cX10_fewestSteps 94 = .ok (.iinc 5 1, 3) := by decide +kernel
theorem dX10_fewestSteps_97 : decode cX10_fewestSteps 97 = .ok (.goto (-39), 3) := by decide +kernel
theorem dX10_fewestSteps_100 : decode cX10_fewestSteps 100 = .ok (.ldc 28, 2) := by decide +kernel
theorem dX10_fewestSteps_102 : decode cX10_fewestSteps 102 = .ok (.istore 5, 2) := by decide +kernel
theorem dX10_fewestSteps_104 : decode cX10_fewestSteps 104 = .ok (.iconst 0, 1) := by decide +kernel
theorem dX10_fewestSteps_105 : decode cX10_fewestSteps 105 = .ok (.istore 6, 2) := by decide +kernel
theorem dX10_fewestSteps_107 : decode cX10_fewestSteps 107 = .ok (.iload 6, 2) := by decide +kernel
theorem dX10_fewestSteps_109 : decode cX10_fewestSteps 109 = .ok (.aload_n 1, 1) := by decide +kernel
theorem dX10_fewestSteps_110 : decode cX10_fewestSteps 110 = .ok (.getfield 18, 3) := by decide +kernel
theorem dX10_fewestSteps_113 : decode cX10_fewestSteps 113 = .ok (.if_icmp .ge 29, 3) := by decide +kernel
theorem dX10_fewestSteps_116 : decode cX10_fewestSteps 116 = .ok (.iload 5, 2) := by decide +kernel
theorem dX10_fewestSteps_118 : decode cX10_fewestSteps 118 = .ok (.aload_n 0, 1) := by decide +kernel
theorem dX10_fewestSteps_119 : decode cX10_fewestSteps 119 = .ok (.getfield 15, 3) := by decide +kernel
theorem dX10_fewestSteps_122 : decode cX10_fewestSteps 122 = .ok (.iload 4, 2) := by decide +kernel
theorem dX10_fewestSteps_124 : decode cX10_fewestSteps 124 = .ok (.bipush 8, 2) := by decide +kernel
theorem dX10_fewestSteps_126 : decode cX10_fewestSteps 126 = .ok (.imul, 1) := by decide +kernel
theorem dX10_fewestSteps_127 : decode cX10_fewestSteps 127 = .ok (.iload 6, 2) := by decide +kernel
theorem dX10_fewestSteps_129 : decode cX10_fewestSteps 129 = .ok (.iadd, 1) := by decide +kernel
theorem dX10_fewestSteps_130 : decode cX10_fewestSteps 130 = .ok (.iaload, 1) := by decide +kernel
theorem dX10_fewestSteps_131 : decode cX10_fewestSteps 131 = .ok (.invokestatic 39, 3) := by decide +kernel
theorem dX10_fewestSteps_134 : decode cX10_fewestSteps 134 = .ok (.istore 5, 2) := by decide +kernel
theorem dX10_fewestSteps_136 : decode cX10_fewestSteps 136 = .ok (.iinc 6 1, 3) := by decide +kernel
theorem dX10_fewestSteps_139 : decode cX10_fewestSteps 139 = .ok (.goto (-32), 3) := by decide +kernel
theorem dX10_fewestSteps_142 : decode cX10_fewestSteps 142 = .ok (.iload 5, 2) := by decide +kernel
theorem dX10_fewestSteps_144 : decode cX10_fewestSteps 144 = .ok (.ldc 28, 2) := by decide +kernel
theorem dX10_fewestSteps_146 : decode cX10_fewestSteps 146 = .ok (.if_icmp .lt 8, 3) := by decide +kernel
theorem dX10_fewestSteps_149 : decode cX10_fewestSteps 149 = .ok (.bipush (-2), 2) := by decide +kernel
theorem dX10_fewestSteps_151 : decode cX10_fewestSteps 151 = .ok (.goto 5, 3) := by decide +kernel
theorem dX10_fewestSteps_154 : decode cX10_fewestSteps 154 = .ok (.iload 5, 2) := by decide +kernel
theorem dX10_fewestSteps_156 : decode cX10_fewestSteps 156 = .ok (.ireturn, 1) := by decide +kernel
theorem dX10_goOn_0 : decode cX10_goOn 0 = .ok (.aload_n 0, 1) := by decide +kernel
theorem dX10_goOn_1 : decode cX10_goOn 1 = .ok (.getfield 15, 3) := by decide +kernel
theorem dX10_goOn_4 : decode cX10_goOn 4 = .ok (.iload_n 3, 1) := by decide +kernel
theorem dX10_goOn_5 : decode cX10_goOn 5 = .ok (.bipush 8, 2) := by decide +kernel
theorem dX10_goOn_7 : decode cX10_goOn 7 = .ok (.imul, 1) := by decide +kernel
theorem dX10_goOn_8 : decode cX10_goOn 8 = .ok (.iload 4, 2) := by decide +kernel
theorem dX10_goOn_10 : decode cX10_goOn 10 = .ok (.iadd, 1) := by decide +kernel
theorem dX10_goOn_11 : decode cX10_goOn 11 = .ok (.iaload, 1) := by decide +kernel
theorem dX10_goOn_12 : decode cX10_goOn 12 = .ok (.istore 5, 2) := by decide +kernel
theorem dX10_goOn_14 : decode cX10_goOn 14 = .ok (.iconst 0, 1) := by decide +kernel
theorem dX10_goOn_15 : decode cX10_goOn 15 = .ok (.istore 6, 2) := by decide +kernel
theorem dX10_goOn_17 : decode cX10_goOn 17 = .ok (.iload 6, 2) := by decide +kernel
theorem dX10_goOn_19 : decode cX10_goOn 19 = .ok (.aload_n 1, 1) := by decide +kernel
theorem dX10_goOn_20 : decode cX10_goOn 20 = .ok (.getfield 18, 3) := by decide +kernel
theorem dX10_goOn_23 : decode cX10_goOn 23 = .ok (.if_icmp .ge 76, 3) := by decide +kernel
theorem dX10_goOn_26 : decode cX10_goOn 26 = .ok (.iload 5, 2) := by decide +kernel
theorem dX10_goOn_28 : decode cX10_goOn 28 = .ok (.ldc 28, 2) := by decide +kernel
theorem dX10_goOn_30 : decode cX10_goOn 30 = .ok (.if_icmp .ge 69, 3) := by decide +kernel
theorem dX10_goOn_33 : decode cX10_goOn 33 = .ok (.iload_n 2, 1) := by decide +kernel
theorem dX10_goOn_34 : decode cX10_goOn 34 = .ok (.iload_n 3, 1) := by decide +kernel
theorem dX10_goOn_35 : decode cX10_goOn 35 = .ok (.iconst (-1), 1) := by decide +kernel
theorem dX10_goOn_36 : decode cX10_goOn 36 = .ok (.ixor, 1) := by decide +kernel
theorem dX10_goOn_37 : decode cX10_goOn 37 = .ok (.iand, 1) := by decide +kernel
theorem dX10_goOn_38 : decode cX10_goOn 38 = .ok (.iload 6, 2) := by decide +kernel
theorem dX10_goOn_40 : decode cX10_goOn 40 = .ok (.ishr, 1) := by decide +kernel
theorem dX10_goOn_41 : decode cX10_goOn 41 = .ok (.iconst 1, 1) := by decide +kernel
theorem dX10_goOn_42 : decode cX10_goOn 42 = .ok (.iand, 1) := by decide +kernel
theorem dX10_goOn_43 : decode cX10_goOn 43 = .ok (.ifCond .eq 50, 3) := by decide +kernel
theorem dX10_goOn_46 : decode cX10_goOn 46 = .ok (.iload_n 3, 1) := by decide +kernel
theorem dX10_goOn_47 : decode cX10_goOn 47 = .ok (.iconst 1, 1) := by decide +kernel
theorem dX10_goOn_48 : decode cX10_goOn 48 = .ok (.iload 6, 2) := by decide +kernel
theorem dX10_goOn_50 : decode cX10_goOn 50 = .ok (.ishl, 1) := by decide +kernel
theorem dX10_goOn_51 : decode cX10_goOn 51 = .ok (.ior, 1) := by decide +kernel
theorem dX10_goOn_52 : decode cX10_goOn 52 = .ok (.bipush 8, 2) := by decide +kernel
theorem dX10_goOn_54 : decode cX10_goOn 54 = .ok (.imul, 1) := by decide +kernel
theorem dX10_goOn_55 : decode cX10_goOn 55 = .ok (.iload 6, 2) := by decide +kernel
theorem dX10_goOn_57 : decode cX10_goOn 57 = .ok (.iadd, 1) := by decide +kernel
theorem dX10_goOn_58 : decode cX10_goOn 58 = .ok (.istore 7, 2) := by decide +kernel
theorem dX10_goOn_60 : decode cX10_goOn 60 = .ok (.aload_n 0, 1) := by decide +kernel
theorem dX10_goOn_61 : decode cX10_goOn 61 = .ok (.getfield 15, 3) := by decide +kernel
theorem dX10_goOn_64 : decode cX10_goOn 64 = .ok (.iload 7, 2) := by decide +kernel
theorem dX10_goOn_66 : decode cX10_goOn 66 = .ok (.aload_n 0, 1) := by decide +kernel
theorem dX10_goOn_67 : decode cX10_goOn 67 = .ok (.getfield 15, 3) := by decide +kernel
theorem dX10_goOn_70 : decode cX10_goOn 70 = .ok (.iload 7, 2) := by decide +kernel
theorem dX10_goOn_72 : decode cX10_goOn 72 = .ok (.iaload, 1) := by decide +kernel
theorem dX10_goOn_73 : decode cX10_goOn 73 = .ok (.iload 5, 2) := by decide +kernel
theorem dX10_goOn_75 : decode cX10_goOn 75 = .ok (.aload_n 0, 1) := by decide +kernel
theorem dX10_goOn_76 : decode cX10_goOn 76 = .ok (.getfield 9, 3) := by decide +kernel
theorem dX10_goOn_79 : decode cX10_goOn 79 = .ok (.iload 4, 2) := by decide +kernel
theorem dX10_goOn_81 : decode cX10_goOn 81 = .ok (.bipush 8, 2) := by decide +kernel
theorem dX10_goOn_83 : decode cX10_goOn 83 = .ok (.imul, 1) := by decide +kernel
theorem dX10_goOn_84 : decode cX10_goOn 84 = .ok (.iload 6, 2) := by decide +kernel
theorem dX10_goOn_86 : decode cX10_goOn 86 = .ok (.iadd, 1) := by decide +kernel
theorem dX10_goOn_87 : decode cX10_goOn 87 = .ok (.iaload, 1) := by decide +kernel
theorem dX10_goOn_88 : decode cX10_goOn 88 = .ok (.iadd, 1) := by decide +kernel
theorem dX10_goOn_89 : decode cX10_goOn 89 = .ok (.invokestatic 39, 3) := by decide +kernel
theorem dX10_goOn_92 : decode cX10_goOn 92 = .ok (.iastore, 1) := by decide +kernel
theorem dX10_goOn_93 : decode cX10_goOn 93 = .ok (.iinc 6 1, 3) := by decide +kernel
theorem dX10_goOn_96 : decode cX10_goOn 96 = .ok (.goto (-79), 3) := by decide +kernel
theorem dX10_goOn_99 : decode cX10_goOn 99 = .ok (.return_, 1) := by decide +kernel
theorem dX10_spread_0 : decode cX10_spread 0 = .ok (.lconst 1, 1) := by decide +kernel
theorem dX10_spread_1 : decode cX10_spread 1 = .ok (.aload_n 1, 1) := by decide +kernel
theorem dX10_spread_2 : decode cX10_spread 2 = .ok (.getfield 45, 3) := by decide +kernel
theorem dX10_spread_5 : decode cX10_spread 5 = .ok (.iload_n 2, 1) := by decide +kernel
theorem dX10_spread_6 : decode cX10_spread 6 = .ok (.iaload, 1) := by decide +kernel
theorem dX10_spread_7 : decode cX10_spread 7 = .ok (.lshl, 1) := by decide +kernel
theorem dX10_spread_8 : decode cX10_spread 8 = .ok (.lstore_n 3, 1) := by decide +kernel
theorem dX10_spread_9 : decode cX10_spread 9 = .ok (.iconst 0, 1) := by decide +kernel
theorem dX10_spread_10 : decode cX10_spread 10 = .ok (.istore 5, 2) := by decide +kernel
theorem dX10_spread_12 : decode cX10_spread 12 = .ok (.iload 5, 2) := by decide +kernel
theorem dX10_spread_14 : decode cX10_spread 14 = .ok (.aload_n 1, 1) := by decide +kernel
theorem dX10_spread_15 : decode cX10_spread 15 = .ok (.getfield 18, 3) := by decide +kernel
theorem dX10_spread_18 : decode cX10_spread 18 = .ok (.if_icmp .ge 23, 3) := by decide +kernel
theorem dX10_spread_21 : decode cX10_spread 21 = .ok (.aload_n 0, 1) := by decide +kernel
theorem dX10_spread_22 : decode cX10_spread 22 = .ok (.getfield 9, 3) := by decide +kernel
theorem dX10_spread_25 : decode cX10_spread 25 = .ok (.iload_n 2, 1) := by decide +kernel
theorem dX10_spread_26 : decode cX10_spread 26 = .ok (.bipush 8, 2) := by decide +kernel
theorem dX10_spread_28 : decode cX10_spread 28 = .ok (.imul, 1) := by decide +kernel
theorem dX10_spread_29 : decode cX10_spread 29 = .ok (.iload 5, 2) := by decide +kernel
theorem dX10_spread_31 : decode cX10_spread 31 = .ok (.iadd, 1) := by decide +kernel
theorem dX10_spread_32 : decode cX10_spread 32 = .ok (.ldc 28, 2) := by decide +kernel
theorem dX10_spread_34 : decode cX10_spread 34 = .ok (.iastore, 1) := by decide +kernel
theorem dX10_spread_35 : decode cX10_spread 35 = .ok (.iinc 5 1, 3) := by decide +kernel
theorem dX10_spread_38 : decode cX10_spread 38 = .ok (.goto (-26), 3) := by decide +kernel
theorem dX10_spread_41 : decode cX10_spread 41 = .ok (.iconst 0, 1) := by decide +kernel
theorem dX10_spread_42 : decode cX10_spread 42 = .ok (.istore 5, 2) := by decide +kernel
theorem dX10_spread_44 : decode cX10_spread 44 = .ok (.iload 5, 2) := by decide +kernel
theorem dX10_spread_46 : decode cX10_spread 46 = .ok (.bipush 36, 2) := by decide +kernel
theorem dX10_spread_48 : decode cX10_spread 48 = .ok (.if_icmp .ge 85, 3) := by decide +kernel
theorem dX10_spread_51 : decode cX10_spread 51 = .ok (.iconst 0, 1) := by decide +kernel
theorem dX10_spread_52 : decode cX10_spread 52 = .ok (.istore 6, 2) := by decide +kernel
theorem dX10_spread_54 : decode cX10_spread 54 = .ok (.iload 6, 2) := by decide +kernel
theorem dX10_spread_56 : decode cX10_spread 56 = .ok (.aload_n 1, 1) := by decide +kernel
theorem dX10_spread_57 : decode cX10_spread 57 = .ok (.getfield 18, 3) := by decide +kernel
theorem dX10_spread_60 : decode cX10_spread 60 = .ok (.if_icmp .ge 55, 3) := by decide +kernel
theorem dX10_spread_63 : decode cX10_spread 63 = .ok (.iload_n 2, 1) := by decide +kernel
theorem dX10_spread_64 : decode cX10_spread 64 = .ok (.bipush 8, 2) := by decide +kernel
theorem dX10_spread_66 : decode cX10_spread 66 = .ok (.imul, 1) := by decide +kernel
theorem dX10_spread_67 : decode cX10_spread 67 = .ok (.iload 6, 2) := by decide +kernel
theorem dX10_spread_69 : decode cX10_spread 69 = .ok (.iadd, 1) := by decide +kernel
theorem dX10_spread_70 : decode cX10_spread 70 = .ok (.istore 7, 2) := by decide +kernel
theorem dX10_spread_72 : decode cX10_spread 72 = .ok (.lload_n 3, 1) := by decide +kernel
theorem dX10_spread_73 : decode cX10_spread 73 = .ok (.aload_n 1, 1) := by decide +kernel
theorem dX10_spread_74 : decode cX10_spread 74 = .ok (.getfield 45, 3) := by decide +kernel
theorem dX10_spread_77 : decode cX10_spread 77 = .ok (.iload 6, 2) := by decide +kernel
theorem dX10_spread_79 : decode cX10_spread 79 = .ok (.iaload, 1) := by decide +kernel
theorem dX10_spread_80 : decode cX10_spread 80 = .ok (.lushr, 1) := by decide +kernel
theorem dX10_spread_81 : decode cX10_spread 81 = .ok (.lconst 1, 1) := by decide +kernel
theorem dX10_spread_82 : decode cX10_spread 82 = .ok (.land, 1) := by decide +kernel
theorem dX10_spread_83 : decode cX10_spread 83 = .ok (.lconst 0, 1) := by decide +kernel
theorem dX10_spread_84 : decode cX10_spread 84 = .ok (.lcmp, 1) := by decide +kernel
theorem dX10_spread_85 : decode cX10_spread 85 = .ok (.ifCond .eq 24, 3) := by decide +kernel
theorem dX10_spread_88 : decode cX10_spread 88 = .ok (.aload_n 0, 1) := by decide +kernel
theorem dX10_spread_89 : decode cX10_spread 89 = .ok (.getfield 9, 3) := by decide +kernel
theorem dX10_spread_92 : decode cX10_spread 92 = .ok (.iload 7, 2) := by decide +kernel
theorem dX10_spread_94 : decode cX10_spread 94 = .ok (.iaload, 1) := by decide +kernel
theorem dX10_spread_95 : decode cX10_spread 95 = .ok (.ldc 28, 2) := by decide +kernel
theorem dX10_spread_97 : decode cX10_spread 97 = .ok (.if_icmp .ne 12, 3) := by decide +kernel
theorem dX10_spread_100 : decode cX10_spread 100 = .ok (.aload_n 0, 1) := by decide +kernel
theorem dX10_spread_101 : decode cX10_spread 101 = .ok (.getfield 9, 3) := by decide +kernel
theorem dX10_spread_104 : decode cX10_spread 104 = .ok (.iload 7, 2) := by decide +kernel
theorem dX10_spread_106 : decode cX10_spread 106 = .ok (.iload 5, 2) := by decide +kernel
theorem dX10_spread_108 : decode cX10_spread 108 = .ok (.iastore, 1) := by decide +kernel
theorem dX10_spread_109 : decode cX10_spread 109 = .ok (.iinc 6 1, 3) := by decide +kernel
theorem dX10_spread_112 : decode cX10_spread 112 = .ok (.goto (-58), 3) := by decide +kernel
theorem dX10_spread_115 : decode cX10_spread 115 = .ok (.lload_n 3, 1) := by decide +kernel
theorem dX10_spread_116 : decode cX10_spread 116 = .ok (.lload_n 3, 1) := by decide +kernel
theorem dX10_spread_117 : decode cX10_spread 117 = .ok (.invokestatic 48, 3) := by decide +kernel
theorem dX10_spread_120 : decode cX10_spread 120 = .ok (.aload_n 1, 1) := by decide +kernel
theorem dX10_spread_121 : decode cX10_spread 121 = .ok (.invokevirtual 54, 3) := by decide +kernel
theorem dX10_spread_124 : decode cX10_spread 124 = .ok (.land, 1) := by decide +kernel
theorem dX10_spread_125 : decode cX10_spread 125 = .ok (.lor, 1) := by decide +kernel
theorem dX10_spread_126 : decode cX10_spread 126 = .ok (.lstore_n 3, 1) := by decide +kernel
theorem dX10_spread_127 : decode cX10_spread 127 = .ok (.iinc 5 1, 3) := by decide +kernel
theorem dX10_spread_130 : decode cX10_spread 130 = .ok (.goto (-86), 3) := by decide +kernel
theorem dX10_spread_133 : decode cX10_spread 133 = .ok (.return_, 1) := by decide +kernel
theorem dX11_init_0 : decode cX11_init 0 = .ok (.aload_n 0, 1) := by decide +kernel
theorem dX11_init_1 : decode cX11_init 1 = .ok (.invokespecial 1, 3) := by decide +kernel
theorem dX11_init_4 : decode cX11_init 4 = .ok (.aload_n 0, 1) := by decide +kernel
theorem dX11_init_5 : decode cX11_init 5 = .ok (.new 7, 3) := by decide +kernel
theorem dX11_init_8 : decode cX11_init 8 = .ok (.dup, 1) := by decide +kernel
theorem dX11_init_9 : decode cX11_init 9 = .ok (.invokespecial 9, 3) := by decide +kernel
theorem dX11_init_12 : decode cX11_init 12 = .ok (.putfield 10, 3) := by decide +kernel
theorem dX11_init_15 : decode cX11_init 15 = .ok (.aload_n 0, 1) := by decide +kernel
theorem dX11_init_16 : decode cX11_init 16 = .ok (.new 16, 3) := by decide +kernel
theorem dX11_init_19 : decode cX11_init 19 = .ok (.dup, 1) := by decide +kernel
theorem dX11_init_20 : decode cX11_init 20 = .ok (.invokespecial 18, 3) := by decide +kernel
theorem dX11_init_23 : decode cX11_init 23 = .ok (.putfield 19, 3) := by decide +kernel
theorem dX11_init_26 : decode cX11_init 26 = .ok (.aload_n 0, 1) := by decide +kernel
theorem dX11_init_27 : decode cX11_init 27 = .ok (.iconst 4, 1) := by decide +kernel
theorem dX11_init_28 : decode cX11_init 28 = .ok (.anewarray 16, 3) := by decide +kernel
theorem dX11_init_31 : decode cX11_init 31 = .ok (.putfield 23, 3) := by decide +kernel
theorem dX11_init_34 : decode cX11_init 34 = .ok (.aload_n 0, 1) := by decide +kernel
theorem dX11_init_35 : decode cX11_init 35 = .ok (.iconst 4, 1) := by decide +kernel
theorem dX11_init_36 : decode cX11_init 36 = .ok (.newarray .boolean, 2) := by decide +kernel
theorem dX11_init_38 : decode cX11_init 38 = .ok (.putfield 27, 3) := by decide +kernel
theorem dX11_init_41 : decode cX11_init 41 = .ok (.aload_n 0, 1) := by decide +kernel
theorem dX11_init_42 : decode cX11_init 42 = .ok (.iconst 4, 1) := by decide +kernel
theorem dX11_init_43 : decode cX11_init 43 = .ok (.anewarray 31, 3) := by decide +kernel
theorem dX11_init_46 : decode cX11_init 46 = .ok (.putfield 33, 3) := by decide +kernel
theorem dX11_init_49 : decode cX11_init 49 = .ok (.aload_n 0, 1) := by decide +kernel
theorem dX11_init_50 : decode cX11_init 50 = .ok (.new 37, 3) := by decide +kernel
theorem dX11_init_53 : decode cX11_init 53 = .ok (.dup, 1) := by decide +kernel
theorem dX11_init_54 : decode cX11_init 54 = .ok (.invokespecial 39, 3) := by decide +kernel
theorem dX11_init_57 : decode cX11_init 57 = .ok (.putfield 40, 3) := by decide +kernel
theorem dX11_init_60 : decode cX11_init 60 = .ok (.aload_n 0, 1) := by decide +kernel
theorem dX11_init_61 : decode cX11_init 61 = .ok (.new 44, 3) := by decide +kernel
theorem dX11_init_64 : decode cX11_init 64 = .ok (.dup, 1) := by decide +kernel
theorem dX11_init_65 : decode cX11_init 65 = .ok (.aload_n 0, 1) := by decide +kernel
theorem dX11_init_66 : decode cX11_init 66 = .ok (.getfield 10, 3) := by decide +kernel
theorem dX11_init_69 : decode cX11_init 69 = .ok (.aload_n 0, 1) := by decide +kernel
theorem dX11_init_70 : decode cX11_init 70 = .ok (.getfield 40, 3) := by decide +kernel
theorem dX11_init_73 : decode cX11_init 73 = .ok (.invokespecial 46, 3) := by decide +kernel
theorem dX11_init_76 : decode cX11_init 76 = .ok (.putfield 49, 3) := by decide +kernel
theorem dX11_init_79 : decode cX11_init 79 = .ok (.aload_n 0, 1) := by decide +kernel
theorem dX11_init_80 : decode cX11_init 80 = .ok (.new 53, 3) := by decide +kernel
theorem dX11_init_83 : decode cX11_init 83 = .ok (.dup, 1) := by decide +kernel
theorem dX11_init_84 : decode cX11_init 84 = .ok (.aload_n 0, 1) := by decide +kernel
theorem dX11_init_85 : decode cX11_init 85 = .ok (.getfield 10, 3) := by decide +kernel
theorem dX11_init_88 : decode cX11_init 88 = .ok (.invokespecial 55, 3) := by decide +kernel
theorem dX11_init_91 : decode cX11_init 91 = .ok (.putfield 58, 3) := by decide +kernel
theorem dX11_init_94 : decode cX11_init 94 = .ok (.aload_n 0, 1) := by decide +kernel
theorem dX11_init_95 : decode cX11_init 95 = .ok (.new 62, 3) := by decide +kernel
theorem dX11_init_98 : decode cX11_init 98 = .ok (.dup, 1) := by decide +kernel
theorem dX11_init_99 : decode cX11_init 99 = .ok (.aload_n 0, 1) := by decide +kernel
theorem dX11_init_100 : decode cX11_init 100 = .ok (.getfield 19, 3) := by decide +kernel
theorem dX11_init_103 : decode cX11_init 103 = .ok (.invokespecial 64, 3) := by decide +kernel
theorem dX11_init_106 : decode cX11_init 106 = .ok (.putfield 67, 3) := by decide +kernel
theorem dX11_init_109 : decode cX11_init 109 = .ok (.aload_n 0, 1) := by decide +kernel
theorem dX11_init_110 : decode cX11_init 110 = .ok (.new 71, 3) := by decide +kernel
theorem dX11_init_113 : decode cX11_init 113 = .ok (.dup, 1) := by decide +kernel
theorem dX11_init_114 : decode cX11_init 114 = .ok (.invokespecial 73, 3) := by decide +kernel
theorem dX11_init_117 : decode cX11_init 117 = .ok (.putfield 74, 3) := by decide +kernel
theorem dX11_init_120 : decode cX11_init 120 = .ok (.aload_n 0, 1) := by decide +kernel
theorem dX11_init_121 : decode cX11_init 121 = .ok (.new 78, 3) := by decide +kernel
theorem dX11_init_124 : decode cX11_init 124 = .ok (.dup, 1) := by decide +kernel
theorem dX11_init_125 : decode cX11_init 125 = .ok (.invokespecial 80, 3) := by decide +kernel
theorem dX11_init_128 : decode cX11_init 128 = .ok (.putfield 81, 3) := by decide +kernel
theorem dX11_init_131 : decode cX11_init 131 = .ok (.aload_n 0, 1) := by decide +kernel
theorem dX11_init_132 : decode cX11_init 132 = .ok (.new 85, 3) := by decide +kernel
theorem dX11_init_135 : decode cX11_init 135 = .ok (.dup, 1) := by decide +kernel
theorem dX11_init_136 : decode cX11_init 136 = .ok (.invokespecial 87, 3) := by decide +kernel
theorem dX11_init_139 : decode cX11_init 139 = .ok (.putfield 88, 3) := by decide +kernel
theorem dX11_init_142 : decode cX11_init 142 = .ok (.aload_n 0, 1) := by decide +kernel
theorem dX11_init_143 : decode cX11_init 143 = .ok (.iconst 1, 1) := by decide +kernel
theorem dX11_init_144 : decode cX11_init 144 = .ok (.putfield 92, 3) := by decide +kernel
theorem dX11_init_147 : decode cX11_init 147 = .ok (.iconst 0, 1) := by decide +kernel
theorem dX11_init_148 : decode cX11_init 148 = .ok (.istore_n 1, 1) := by decide +kernel
theorem dX11_init_149 : decode cX11_init 149 = .ok (.iload_n 1, 1) := by decide +kernel
theorem dX11_init_150 : decode cX11_init 150 = .ok (.iconst 4, 1) := by decide +kernel
theorem dX11_init_151 : decode cX11_init 151 = .ok (.if_icmp .ge 22, 3) := by decide +kernel
theorem dX11_init_154 : decode cX11_init 154 = .ok (.aload_n 0, 1) := by decide +kernel
theorem dX11_init_155 : decode cX11_init 155 = .ok (.getfield 23, 3) := by decide +kernel
theorem dX11_init_158 : decode cX11_init 158 = .ok (.iload_n 1, 1) := by decide +kernel
theorem dX11_init_159 : decode cX11_init 159 = .ok (.new 16, 3) := by decide +kernel
theorem dX11_init_162 : decode cX11_init 162 = .ok (.dup, 1) := by decide +kernel
theorem dX11_init_163 : decode cX11_init 163 = .ok (.invokespecial 18, 3) := by decide +kernel
theorem dX11_init_166 : decode cX11_init 166 = .ok (.aastore, 1) := by decide +kernel
theorem dX11_init_167 : decode cX11_init 167 = .ok (.iinc 1 1, 3) := by decide +kernel
theorem dX11_init_170 : decode cX11_init 170 = .ok (.goto (-21), 3) := by decide +kernel
theorem dX11_init_173 : decode cX11_init 173 = .ok (.iconst 0, 1) := by decide +kernel
theorem dX11_init_174 : decode cX11_init 174 = .ok (.istore_n 1, 1) := by decide +kernel
theorem dX11_init_175 : decode cX11_init 175 = .ok (.iload_n 1, 1) := by decide +kernel
theorem dX11_init_176 : decode cX11_init 176 = .ok (.iconst 4, 1) := by decide +kernel
theorem dX11_init_177 : decode cX11_init 177 = .ok (.if_icmp .ge 22, 3) := by decide +kernel
theorem dX11_init_180 : decode cX11_init 180 = .ok (.aload_n 0, 1) := by decide +kernel
theorem dX11_init_181 : decode cX11_init 181 = .ok (.getfield 33, 3) := by decide +kernel
theorem dX11_init_184 : decode cX11_init 184 = .ok (.iload_n 1, 1) := by decide +kernel
theorem dX11_init_185 : decode cX11_init 185 = .ok (.new 31, 3) := by decide +kernel
theorem dX11_init_188 : decode cX11_init 188 = .ok (.dup, 1) := by decide +kernel
theorem dX11_init_189 : decode cX11_init 189 = .ok (.invokespecial 96, 3) := by decide +kernel
theorem dX11_init_192 : decode cX11_init 192 = .ok (.aastore, 1) := by decide +kernel
theorem dX11_init_193 : decode cX11_init 193 = .ok (.iinc 1 1, 3) := by decide +kernel
theorem dX11_init_196 : decode cX11_init 196 = .ok (.goto (-21), 3) := by decide +kernel
theorem dX11_init_199 : decode cX11_init 199 = .ok (.return_, 1) := by decide +kernel
theorem dX11_feed_0 : decode cX11_feed 0 = .ok (.aload_n 0, 1) := by decide +kernel
theorem dX11_feed_1 : decode cX11_feed 1 = .ok (.getfield 10, 3) := by decide +kernel
theorem dX11_feed_4 : decode cX11_feed 4 = .ok (.getfield 97, 3) := by decide +kernel
theorem dX11_feed_7 : decode cX11_feed 7 = .ok (.bipush 20, 2) := by decide +kernel
theorem dX11_feed_9 : decode cX11_feed 9 = .ok (.iadd, 1) := by decide +kernel
theorem dX11_feed_10 : decode cX11_feed 10 = .ok (.sipush 400, 3) := by decide +kernel
theorem dX11_feed_13 : decode cX11_feed 13 = .ok (.if_icmp .le 5, 3) := by decide +kernel
theorem dX11_feed_16 : decode cX11_feed 16 = .ok (.iconst (-1), 1) := by decide +kernel
theorem dX11_feed_17 : decode cX11_feed 17 = .ok (.ireturn, 1) := by decide +kernel
theorem dX11_feed_18 : decode cX11_feed 18 = .ok (.aload_n 0, 1) := by decide +kernel
theorem dX11_feed_19 : decode cX11_feed 19 = .ok (.getfield 10, 3) := by decide +kernel
theorem dX11_feed_22 : decode cX11_feed 22 = .ok (.iload_n 1, 1) := by decide +kernel
theorem dX11_feed_23 : decode cX11_feed 23 = .ok (.invokevirtual 100, 3) := by decide +kernel
theorem dX11_feed_26 : decode cX11_feed 26 = .ok (.aload_n 0, 1) := by decide +kernel
theorem dX11_feed_27 : decode cX11_feed 27 = .ok (.getfield 10, 3) := by decide +kernel
theorem dX11_feed_30 : decode cX11_feed 30 = .ok (.iload_n 2, 1) := by decide +kernel
theorem dX11_feed_31 : decode cX11_feed 31 = .ok (.invokevirtual 100, 3) := by decide +kernel
theorem dX11_feed_34 : decode cX11_feed 34 = .ok (.aload_n 0, 1) := by decide +kernel
theorem dX11_feed_35 : decode cX11_feed 35 = .ok (.getfield 10, 3) := by decide +kernel
theorem dX11_feed_38 : decode cX11_feed 38 = .ok (.iload_n 3, 1) := by decide +kernel
theorem dX11_feed_39 : decode cX11_feed 39 = .ok (.invokevirtual 100, 3) := by decide +kernel
theorem dX11_feed_42 : decode cX11_feed 42 = .ok (.aload_n 0, 1) := by decide +kernel
theorem dX11_feed_43 : decode cX11_feed 43 = .ok (.getfield 10, 3) := by decide +kernel
theorem dX11_feed_46 : decode cX11_feed 46 = .ok (.iload 4, 2) := by decide +kernel
theorem dX11_feed_48 : decode cX11_feed 48 = .ok (.invokevirtual 100, 3) := by decide +kernel
theorem dX11_feed_51 : decode cX11_feed 51 = .ok (.aload_n 0, 1) := by decide +kernel
theorem dX11_feed_52 : decode cX11_feed 52 = .ok (.getfield 10, 3) := by decide +kernel
theorem dX11_feed_55 : decode cX11_feed 55 = .ok (.iload 5, 2) := by decide +kernel
theorem dX11_feed_57 : decode cX11_feed 57 = .ok (.invokevirtual 100, 3) := by decide +kernel
theorem dX11_feed_60 : decode cX11_feed 60 = .ok (.aload_n 0, 1) := by decide +kernel
theorem dX11_feed_61 : decode cX11_feed 61 = .ok (.getfield 10, 3) := by decide +kernel
theorem dX11_feed_64 : decode cX11_feed 64 = .ok (.getfield 97, 3) := by decide +kernel
theorem dX11_feed_67 : decode cX11_feed 67 = .ok (.ireturn, 1) := by decide +kernel
theorem dX11_end_0 : decode cX11_end 0 = .ok (.iload_n 1, 1) := by decide +kernel
theorem dX11_end_1 : decode cX11_end 1 = .ok (.ifCond .lt 14, 3) := by decide +kernel
theorem dX11_end_4 : decode cX11_end 4 = .ok (.iload_n 1, 1) := by decide +kernel
theorem dX11_end_5 : decode cX11_end 5 = .ok (.aload_n 0, 1) := by decide +kernel
theorem dX11_end_6 : decode cX11_end 6 = .ok (.getfield 10, 3) := by decide +kernel
theorem dX11_end_9 : decode cX11_end 9 = .ok (.getfield 97, 3) := by decide +kernel
theorem dX11_end_12 : decode cX11_end 12 = .ok (.if_icmp .le 5, 3) := by decide +kernel
theorem dX11_end_15 : decode cX11_end 15 = .ok (.iconst (-1), 1) := by decide +kernel
theorem dX11_end_16 : decode cX11_end 16 = .ok (.ireturn, 1) := by decide +kernel
theorem dX11_end_17 : decode cX11_end 17 = .ok (.aload_n 0, 1) := by decide +kernel
theorem dX11_end_18 : decode cX11_end 18 = .ok (.getfield 10, 3) := by decide +kernel
theorem dX11_end_21 : decode cX11_end 21 = .ok (.iload_n 1, 1) := by decide +kernel
theorem dX11_end_22 : decode cX11_end 22 = .ok (.putfield 97, 3) := by decide +kernel
theorem dX11_end_25 : decode cX11_end 25 = .ok (.iload_n 1, 1) := by decide +kernel
theorem dX11_end_26 : decode cX11_end 26 = .ok (.ireturn, 1) := by decide +kernel
theorem dX11_land_0 : decode cX11_land 0 = .ok (.aload_n 0, 1) := by decide +kernel
theorem dX11_land_1 : decode cX11_land 1 = .ok (.getfield 49, 3) := by decide +kernel
theorem dX11_land_4 : decode cX11_land 4 = .ok (.invokevirtual 104, 3) := by decide +kernel
theorem dX11_land_7 : decode cX11_land 7 = .ok (.istore_n 1, 1) := by decide +kernel
theorem dX11_land_8 : decode cX11_land 8 = .ok (.aload_n 0, 1) := by decide +kernel
theorem dX11_land_9 : decode cX11_land 9 = .ok (.getfield 10, 3) := by decide +kernel
theorem dX11_land_12 : decode cX11_land 12 = .ok (.iconst 0, 1) := by decide +kernel
theorem dX11_land_13 : decode cX11_land 13 = .ok (.putfield 97, 3) := by decide +kernel
theorem dX11_land_16 : decode cX11_land 16 = .ok (.iload_n 1, 1) := by decide +kernel
theorem dX11_land_17 : decode cX11_land 17 = .ok (.ifCond .eq 8, 3) := by decide +kernel
theorem dX11_land_20 : decode cX11_land 20 = .ok (.bipush (-2), 2) := by decide +kernel
theorem dX11_land_22 : decode cX11_land 22 = .ok (.iload_n 1, 1) := by decide +kernel
theorem dX11_land_23 : decode cX11_land 23 = .ok (.isub, 1) := by decide +kernel
theorem dX11_land_24 : decode cX11_land 24 = .ok (.ireturn, 1) := by decide +kernel
theorem dX11_land_25 : decode cX11_land 25 = .ok (.aload_n 0, 1) := by decide +kernel
theorem dX11_land_26 : decode cX11_land 26 = .ok (.getfield 19, 3) := by decide +kernel
theorem dX11_land_29 : decode cX11_land 29 = .ok (.getfield 108, 3) := by decide +kernel
theorem dX11_land_32 : decode cX11_land 32 = .ok (.aload_n 0, 1) := by decide +kernel
theorem dX11_land_33 : decode cX11_land 33 = .ok (.getfield 40, 3) := by decide +kernel
theorem dX11_land_36 : decode cX11_land 36 = .ok (.invokevirtual 111, 3) := by decide +kernel
theorem dX11_land_39 : decode cX11_land 39 = .ok (.aload_n 0, 1) := by decide +kernel
theorem dX11_land_40 : decode cX11_land 40 = .ok (.getfield 19, 3) := by decide +kernel
theorem dX11_land_43 : decode cX11_land 43 = .ok (.iconst 0, 1) := by decide +kernel
theorem dX11_land_44 : decode cX11_land 44 = .ok (.putfield 115, 3) := by decide +kernel
theorem dX11_land_47 : decode cX11_land 47 = .ok (.aload_n 0, 1) := by decide +kernel
theorem dX11_land_48 : decode cX11_land 48 = .ok (.dup, 1) := by decide +kernel
theorem dX11_land_49 : decode cX11_land 49 = .ok (.getfield 92, 3) := by decide +kernel
theorem dX11_land_52 : decode cX11_land 52 = .ok (.iconst 1, 1) := by decide +kernel
theorem dX11_land_53 : decode cX11_land 53 = .ok (.iadd, 1) := by decide +kernel
theorem dX11_land_54 : decode cX11_land 54 = .ok (.putfield 92, 3) := by decide +kernel
theorem dX11_land_57 : decode cX11_land 57 = .ok (.aload_n 0, 1) := by decide +kernel
theorem dX11_land_58 : decode cX11_land 58 = .ok (.getfield 19, 3) := by decide +kernel
theorem dX11_land_61 : decode cX11_land 61 = .ok (.getfield 108, 3) := by decide +kernel
theorem dX11_land_64 : decode cX11_land 64 = .ok (.getfield 118, 3) := by decide +kernel
theorem dX11_land_67 : decode cX11_land 67 = .ok (.ireturn, 1) := by decide +kernel
theorem dX11_law_0 : decode cX11_law 0 = .ok (.aload_n 0, 1) := by decide +kernel
theorem dX11_law_1 : decode cX11_law 1 = .ok (.getfield 121, 3) := by decide +kernel
theorem dX11_law_4 : decode cX11_law 4 = .ok (.iconst 4, 1) := by decide +kernel
theorem dX11_law_5 : decode cX11_law 5 = .ok (.if_icmp .lt 5, 3) := by decide +kernel
theorem dX11_law_8 : decode cX11_law 8 = .ok (.iconst (-1), 1) := by decide +kernel
theorem dX11_law_9 : decode cX11_law 9 = .ok (.ireturn, 1) := by decide +kernel
theorem dX11_law_10 : decode cX11_law 10 = .ok (.aload_n 0, 1) := by decide +kernel
theorem dX11_law_11 : decode cX11_law 11 = .ok (.getfield 58, 3) := by decide +kernel
theorem dX11_law_14 : decode cX11_law 14 = .ok (.aload_n 0, 1) := by decide +kernel
theorem dX11_law_15 : decode cX11_law 15 = .ok (.getfield 33, 3) := by decide +kernel
theorem dX11_law_18 : decode cX11_law 18 = .ok (.aload_n 0, 1) := by decide +kernel
theorem dX11_law_19 : decode cX11_law 19 = .ok (.getfield 121, 3) := by decide +kernel
theorem dX11_law_22 : decode cX11_law 22 = .ok (.aaload, 1) := by decide +kernel
theorem dX11_law_23 : decode cX11_law 23 = .ok (.invokevirtual 124, 3) := by decide +kernel
theorem dX11_law_26 : decode cX11_law 26 = .ok (.istore_n 1, 1) := by decide +kernel
theorem dX11_law_27 : decode cX11_law 27 = .ok (.aload_n 0, 1) := by decide +kernel
theorem dX11_law_28 : decode cX11_law 28 = .ok (.getfield 10, 3) := by decide +kernel
theorem dX11_law_31 : decode cX11_law 31 = .ok (.iconst 0, 1) := by decide +kernel
theorem dX11_law_32 : decode cX11_law 32 = .ok (.putfield 97, 3) := by decide +kernel
theorem dX11_law_35 : decode cX11_law 35 = .ok (.iload_n 1, 1) := by decide +kernel
theorem dX11_law_36 : decode cX11_law 36 = .ok (.ifCond .eq 8, 3) := by decide +kernel
theorem dX11_law_39 : decode cX11_law 39 = .ok (.bipush (-2), 2) := by decide +kernel
theorem dX11_law_41 : decode cX11_law 41 = .ok (.iload_n 1, 1) := by decide +kernel
theorem dX11_law_42 : decode cX11_law 42 = .ok (.isub, 1) := by decide +kernel
theorem dX11_law_43 : decode cX11_law 43 = .ok (.ireturn, 1) := by decide +kernel
theorem dX11_law_44 : decode cX11_law 44 = .ok (.aload_n 0, 1) := by decide +kernel
theorem dX11_law_45 : decode cX11_law 45 = .ok (.dup, 1) := by decide +kernel
theorem dX11_law_46 : decode cX11_law 46 = .ok (.getfield 121, 3) := by decide +kernel
theorem dX11_law_49 : decode cX11_law 49 = .ok (.iconst 1, 1) := by decide +kernel
theorem dX11_law_50 : decode cX11_law 50 = .ok (.iadd, 1) := by decide +kernel
theorem dX11_law_51 : decode cX11_law 51 = .ok (.putfield 121, 3) := by decide +kernel
theorem dX11_law_54 : decode cX11_law 54 = .ok (.aload_n 0, 1) := by decide +kernel
theorem dX11_law_55 : decode cX11_law 55 = .ok (.getfield 121, 3) := by decide +kernel
theorem dX11_law_58 : decode cX11_law 58 = .ok (.iconst 1, 1) := by decide +kernel
theorem dX11_law_59 : decode cX11_law 59 = .ok (.isub, 1) := by decide +kernel
theorem dX11_law_60 : decode cX11_law 60 = .ok (.ireturn, 1) := by decide +kernel
theorem dX11_stands_0 : decode cX11_stands 0 = .ok (.iload_n 1, 1) := by decide +kernel
theorem dX11_stands_1 : decode cX11_stands 1 = .ok (.iconst (-1), 1) := by decide +kernel
theorem dX11_stands_2 : decode cX11_stands 2 = .ok (.if_icmp .lt 11, 3) := by decide +kernel
theorem dX11_stands_5 : decode cX11_stands 5 = .ok (.iload_n 1, 1) := by decide +kernel
theorem dX11_stands_6 : decode cX11_stands 6 = .ok (.aload_n 0, 1) := by decide +kernel
theorem dX11_stands_7 : decode cX11_stands 7 = .ok (.getfield 121, 3) := by decide +kernel
theorem dX11_stands_10 : decode cX11_stands 10 = .ok (.if_icmp .lt 6, 3) := by decide +kernel
theorem dX11_stands_13 : decode cX11_stands 13 = .ok (.bipush (-2), 2) := by decide +kernel
theorem dX11_stands_15 : decode cX11_stands 15 = .ok (.ireturn, 1) := by decide +kernel
theorem dX11_stands_16 : decode cX11_stands 16 = .ok (.aload_n 0, 1) := by decide +kernel
theorem dX11_stands_17 : decode cX11_stands 17 = .ok (.getfield 19, 3) := by decide +kernel
theorem dX11_stands_20 : decode cX11_stands 20 = .ok (.getfield 127, 3) := by decide +kernel
theorem dX11_stands_23 : decode cX11_stands 23 = .ok (.istore_n 2, 1) := by decide +kernel
theorem dX11_stands_24 : decode cX11_stands 24 = .ok (.aload_n 0, 1) := by decide +kernel
theorem dX11_stands_25 : decode cX11_stands 25 = .ok (.getfield 19, 3) := by decide +kernel
theorem dX11_stands_28 : decode cX11_stands 28 = .ok (.iload_n 1, 1) := by decide +kernel
theorem dX11_stands_29 : decode cX11_stands 29 = .ok (.putfield 127, 3) := by decide +kernel
theorem dX11_stands_32 : decode cX11_stands 32 = .ok (.aload_n 0, 1) := by decide +kernel
theorem dX11_stands_33 : decode cX11_stands 33 = .ok (.dup, 1) := by decide +kernel
theorem dX11_stands_34 : decode cX11_stands 34 = .ok (.getfield 92, 3) := by decide +kernel
theorem dX11_stands_37 : decode cX11_stands 37 = .ok (.iconst 1, 1) := by decide +kernel
theorem dX11_stands_38 : decode cX11_stands 38 = .ok (.iadd, 1) := by decide +kernel
theorem dX11_stands_39 : decode cX11_stands 39 = .ok (.putfield 92, 3) := by decide +kernel
theorem dX11_stands_42 : decode cX11_stands 42 = .ok (.iload_n 2, 1) := by decide +kernel
theorem dX11_stands_43 : decode cX11_stands 43 = .ok (.ireturn, 1) := by decide +kernel
theorem dX11_note_0 : decode cX11_note 0 = .ok (.aload_n 0, 1) := by decide +kernel
theorem dX11_note_1 : decode cX11_note 1 = .ok (.getfield 19, 3) := by decide +kernel
theorem dX11_note_4 : decode cX11_note 4 = .ok (.getfield 115, 3) := by decide +kernel
theorem dX11_note_7 : decode cX11_note 7 = .ok (.bipush 10, 2) := by decide +kernel
theorem dX11_note_9 : decode cX11_note 9 = .ok (.if_icmp .ge 32, 3) := by decide +kernel
theorem dX11_note_12 : decode cX11_note 12 = .ok (.iload_n 1, 1) := by decide +kernel
theorem dX11_note_13 : decode cX11_note 13 = .ok (.bipush 6, 2) := by decide +kernel
theorem dX11_note_15 : decode cX11_note 15 = .ok (.invokestatic 130, 3) := by decide +kernel
theorem dX11_note_18 : decode cX11_note 18 = .ok (.ifCond .eq 23, 3) := by decide +kernel
theorem dX11_note_21 : decode cX11_note 21 = .ok (.iload_n 2, 1) := by decide +kernel
theorem dX11_note_22 : decode cX11_note 22 = .ok (.iconst 2, 1) := by decide +kernel
theorem dX11_note_23 : decode cX11_note 23 = .ok (.invokestatic 130, 3) := by decide +kernel
theorem dX11_note_26 : decode cX11_note 26 = .ok (.ifCond .eq 15, 3) := by decide +kernel
theorem dX11_note_29 : decode cX11_note 29 = .ok (.iload 5, 2) := by decide +kernel
theorem dX11_note_31 : decode cX11_note 31 = .ok (.iconst (-1), 1) := by decide +kernel
theorem dX11_note_32 : decode cX11_note 32 = .ok (.if_icmp .lt 9, 3) := by decide +kernel
theorem dX11_note_35 : decode cX11_note 35 = .ok (.iload 5, 2) := by decide +kernel
theorem dX11_note_37 : decode cX11_note 37 = .ok (.iconst 3, 1) := by decide +kernel
theorem dX11_note_38 : decode cX11_note 38 = .ok (.if_icmp .le 5, 3) := by decide +kernel
theorem dX11_note_41 : decode cX11_note 41 = .ok (.iconst (-1), 1) := by decide +kernel
theorem dX11_note_42 : decode cX11_note 42 = .ok (.ireturn, 1) := by decide +kernel
theorem dX11_note_43 : decode cX11_note 43 = .ok (.iload_n 3, 1) := by decide +kernel
theorem dX11_note_44 : decode cX11_note 44 = .ok (.iload_n 2, 1) := by decide +kernel
theorem dX11_note_45 : decode cX11_note 45 = .ok (.ifCond .ne 16, 3) := by decide +kernel
theorem dX11_note_48 : decode cX11_note 48 = .ok (.aload_n 0, 1) := by decide +kernel
theorem dX11_note_49 : decode cX11_note 49 = .ok (.getfield 19, 3) := by decide +kernel
theorem dX11_note_52 : decode cX11_note 52 = .ok (.getfield 108, 3) := by decide +kernel
theorem dX11_note_55 : decode cX11_note 55 = .ok (.getfield 118, 3) := by decide +kernel
theorem dX11_note_58 : decode cX11_note 58 = .ok (.goto 13, 3) := by decide +kernel
theorem dX11_note_61 : decode cX11_note 61 = .ok (.aload_n 0, 1) := by decide +kernel
theorem dX11_note_62 : decode cX11_note 62 = .ok (.getfield 19, 3) := by decide +kernel
theorem dX11_note_65 : decode cX11_note 65 = .ok (.getfield 108, 3) := by decide +kernel
theorem dX11_note_68 : decode cX11_note 68 = .ok (.getfield 134, 3) := by decide +kernel
theorem dX11_note_71 : decode cX11_note 71 = .ok (.invokestatic 130, 3) := by decide +kernel
theorem dX11_note_74 : decode cX11_note 74 = .ok (.ifCond .eq 21, 3) := by decide +kernel
theorem dX11_note_77 : decode cX11_note 77 = .ok (.iload 4, 2) := by decide +kernel
theorem dX11_note_79 : decode cX11_note 79 = .ok (.aload_n 0, 1) := by decide +kernel
theorem dX11_note_80 : decode cX11_note 80 = .ok (.getfield 19, 3) := by decide +kernel
theorem dX11_note_83 : decode cX11_note 83 = .ok (.getfield 108, 3) := by decide +kernel
theorem dX11_note_86 : decode cX11_note 86 = .ok (.getfield 137, 3) := by decide +kernel
theorem dX11_note_89 : decode cX11_note 89 = .ok (.invokestatic 130, 3) := by decide +kernel
theorem dX11_note_92 : decode cX11_note 92 = .ok (.ifCond .ne 5, 3) := by decide +kernel
theorem dX11_note_95 : decode cX11_note 95 = .ok (.iconst (-1), 1) := by decide +kernel
theorem dX11_note_96 : decode cX11_note 96 = .ok (.ireturn, 1) := by decide +kernel
theorem dX11_note_97 : decode cX11_note 97 = .ok (.aload_n 0, 1) := by decide +kernel
theorem dX11_note_98 : decode cX11_note 98 = .ok (.getfield 19, 3) := by decide +kernel
theorem dX11_note_101 : decode cX11_note 101 = .ok (.iload_n 1, 1) := by decide +kernel
theorem dX11_note_102 : decode cX11_note 102 = .ok (.iload_n 2, 1) := by decide +kernel
theorem dX11_note_103 : decode cX11_note 103 = .ok (.iload_n 3, 1) := by decide +kernel
theorem dX11_note_104 : decode cX11_note 104 = .ok (.iload 4, 2) := by decide +kernel
theorem dX11_note_106 : decode cX11_note 106 = .ok (.iload 5, 2) := by decide +kernel
theorem dX11_note_108 : decode cX11_note 108 = .ok (.invokevirtual 140, 3) := by decide +kernel
theorem dX11_note_111 : decode cX11_note 111 = .ok (.aload_n 0, 1) := by decide +kernel
theorem dX11_note_112 : decode cX11_note 112 = .ok (.dup, 1) := by decide +kernel
theorem dX11_note_113 : decode cX11_note 113 = .ok (.getfield 92, 3) := by decide +kernel
theorem dX11_note_116 : decode cX11_note 116 = .ok (.iconst 1, 1) := by decide +kernel
theorem dX11_note_117 : decode cX11_note 117 = .ok (.iadd, 1) := by decide +kernel
theorem dX11_note_118 : decode cX11_note 118 = .ok (.putfield 92, 3) := by decide +kernel
theorem dX11_note_121 : decode cX11_note 121 = .ok (.aload_n 0, 1) := by decide +kernel
theorem dX11_note_122 : decode cX11_note 122 = .ok (.getfield 19, 3) := by decide +kernel
theorem dX11_note_125 : decode cX11_note 125 = .ok (.getfield 115, 3) := by decide +kernel
theorem dX11_note_128 : decode cX11_note 128 = .ok (.iconst 1, 1) := by decide +kernel
theorem dX11_note_129 : decode cX11_note 129 = .ok (.isub, 1) := by decide +kernel
theorem dX11_note_130 : decode cX11_note 130 = .ok (.ireturn, 1) := by decide +kernel
theorem dX11_square_0 : decode cX11_square 0 = .ok (.aload_n 0, 1) := by decide +kernel
theorem dX11_square_1 : decode cX11_square 1 = .ok (.getfield 19, 3) := by decide +kernel
theorem dX11_square_4 : decode cX11_square 4 = .ok (.getfield 108, 3) := by decide +kernel
theorem dX11_square_7 : decode cX11_square 7 = .ok (.astore 4, 2) := by decide +kernel
theorem dX11_square_9 : decode cX11_square 9 = .ok (.aload 4, 2) := by decide +kernel
theorem dX11_square_11 : decode cX11_square 11 = .ok (.iload_n 1, 1) := by decide +kernel
theorem dX11_square_12 : decode cX11_square 12 = .ok (.iload_n 2, 1) := by decide +kernel
theorem dX11_square_13 : decode cX11_square 13 = .ok (.invokevirtual 144, 3) := by decide +kernel
theorem dX11_square_16 : decode cX11_square 16 = .ok (.ifCond .ne 5, 3) := by decide +kernel
theorem dX11_square_19 : decode cX11_square 19 = .ok (.iconst (-1), 1) := by decide +kernel
theorem dX11_square_20 : decode cX11_square 20 = .ok (.ireturn, 1) := by decide +kernel
theorem dX11_square_21 : decode cX11_square 21 = .ok (.bipush 6, 2) := by decide +kernel
theorem dX11_square_23 : decode cX11_square 23 = .ok (.iload_n 2, 1) := by decide +kernel
theorem dX11_square_24 : decode cX11_square 24 = .ok (.imul, 1) := by decide +kernel
theorem dX11_square_25 : decode cX11_square 25 = .ok (.iload_n 1, 1) := by decide +kernel
theorem dX11_square_26 : decode cX11_square 26 = .ok (.iadd, 1) := by decide +kernel
theorem dX11_square_27 : decode cX11_square 27 = .ok (.istore 5, 2) := by decide +kernel
theorem dX11_square_29 : decode cX11_square 29 = .ok (.iload_n 3, 1) := by decide +kernel
theorem dX11_square_30 : decode cX11_square 30 = .ok (.tableswitch 105 0 5 #[38, 59, 67, 75, 83, 91], 38) := by decide +kernel
theorem dX11_square_68 : decode cX11_square 68 = .ok (.aload 4, 2) := by decide +kernel
theorem dX11_square_70 : decode cX11_square 70 = .ok (.getfield 147, 3) := by decide +kernel
theorem dX11_square_73 : decode cX11_square 73 = .ok (.iload 5, 2) := by decide +kernel
theorem dX11_square_75 : decode cX11_square 75 = .ok (.lushr, 1) := by decide +kernel
theorem dX11_square_76 : decode cX11_square 76 = .ok (.lconst 1, 1) := by decide +kernel
theorem dX11_square_77 : decode cX11_square 77 = .ok (.land, 1) := by decide +kernel
theorem dX11_square_78 : decode cX11_square 78 = .ok (.lconst 0, 1) := by decide +kernel
theorem dX11_square_79 : decode cX11_square 79 = .ok (.lcmp, 1) := by decide +kernel
theorem dX11_square_80 : decode cX11_square 80 = .ok (.ifCond .eq 7, 3) := by decide +kernel
theorem dX11_square_83 : decode cX11_square 83 = .ok (.iconst 1, 1) := by decide +kernel
theorem dX11_square_84 : decode cX11_square 84 = .ok (.goto 4, 3) := by decide +kernel
theorem dX11_square_87 : decode cX11_square 87 = .ok (.iconst 0, 1) := by decide +kernel
theorem dX11_square_88 : decode cX11_square 88 = .ok (.ireturn, 1) := by decide +kernel
theorem dX11_square_89 : decode cX11_square 89 = .ok (.aload 4, 2) := by decide +kernel
theorem dX11_square_91 : decode cX11_square 91 = .ok (.iload 5, 2) := by decide +kernel
theorem dX11_square_93 : decode cX11_square 93 = .ok (.invokevirtual 151, 3) := by decide +kernel
theorem dX11_square_96 : decode cX11_square 96 = .ok (.ireturn, 1) := by decide +kernel
theorem dX11_square_97 : decode cX11_square 97 = .ok (.aload 4, 2) := by decide +kernel
theorem dX11_square_99 : decode cX11_square 99 = .ok (.iload 5, 2) := by decide +kernel
theorem dX11_square_101 : decode cX11_square 101 = .ok (.invokevirtual 155, 3) := by decide +kernel
theorem dX11_square_104 : decode cX11_square 104 = .ok (.ireturn, 1) := by decide +kernel
theorem dX11_square_105 : decode cX11_square 105 = .ok (.aload 4, 2) := by decide +kernel
theorem dX11_square_107 : decode cX11_square 107 = .ok (.iload 5, 2) := by decide +kernel
theorem dX11_square_109 : decode cX11_square 109 = .ok (.invokevirtual 158, 3) := by decide +kernel
theorem dX11_square_112 : decode cX11_square 112 = .ok (.ireturn, 1) := by decide +kernel
theorem dX11_square_113 : decode cX11_square 113 = .ok (.aload 4, 2) := by decide +kernel
theorem dX11_square_115 : decode cX11_square 115 = .ok (.iload 5, 2) := by decide +kernel
theorem dX11_square_117 : decode cX11_square 117 = .ok (.invokevirtual 161, 3) := by decide +kernel
theorem dX11_square_120 : decode cX11_square 120 = .ok (.ireturn, 1) := by decide +kernel
theorem dX11_square_121 : decode cX11_square 121 = .ok (.aload_n 0, 1) := by decide +kernel
theorem dX11_square_122 : decode cX11_square 122 = .ok (.invokevirtual 164, 3) := by decide +kernel
theorem dX11_square_125 : decode cX11_square 125 = .ok (.aload_n 0, 1) := by decide +kernel
theorem dX11_square_126 : decode cX11_square 126 = .ok (.getfield 67, 3) := by decide +kernel
theorem dX11_square_129 : decode cX11_square 129 = .ok (.iload 5, 2) := by decide +kernel
theorem dX11_square_131 : decode cX11_square 131 = .ok (.invokevirtual 167, 3) := by decide +kernel
theorem dX11_square_134 : decode cX11_square 134 = .ok (.ireturn, 1) := by decide +kernel
theorem dX11_square_135 : decode cX11_square 135 = .ok (.iconst (-1), 1) := by decide +kernel
theorem dX11_square_136 : decode cX11_square 136 = .ok (.ireturn, 1) := by decide +kernel
theorem dX11_sees_0 : decode cX11_sees 0 = .ok (.iload_n 1, 1) := by decide +kernel
theorem dX11_sees_1 : decode cX11_sees 1 = .ok (.aload_n 0, 1) := by decide +kernel
theorem dX11_sees_2 : decode cX11_sees 2 = .ok (.getfield 19, 3) := by decide +kernel
theorem dX11_sees_5 : decode cX11_sees 5 = .ok (.getfield 108, 3) := by decide +kernel
theorem dX11_sees_8 : decode cX11_sees 8 = .ok (.getfield 118, 3) := by decide +kernel
theorem dX11_sees_11 : decode cX11_sees 11 = .ok (.invokestatic 130, 3) := by decide +kernel
theorem dX11_sees_14 : decode cX11_sees 14 = .ok (.ifCond .eq 18, 3) := by decide +kernel
theorem dX11_sees_17 : decode cX11_sees 17 = .ok (.aload_n 0, 1) := by decide +kernel
theorem dX11_sees_18 : decode cX11_sees 18 = .ok (.getfield 19, 3) := by decide +kernel
theorem dX11_sees_21 : decode cX11_sees 21 = .ok (.getfield 108, 3) := by decide +kernel
theorem dX11_sees_24 : decode cX11_sees 24 = .ok (.getfield 170, 3) := by decide +kernel
theorem dX11_sees_27 : decode cX11_sees 27 = .ok (.iload_n 1, 1) := by decide +kernel
theorem dX11_sees_28 : decode cX11_sees 28 = .ok (.laload, 1) := by decide +kernel
theorem dX11_sees_29 : decode cX11_sees 29 = .ok (.goto 6, 3) := by decide +kernel
theorem dX11_sees_32 : decode cX11_sees 32 = .ok (.ldc2_w 174, 3) := by decide +kernel
theorem dX11_sees_35 : decode cX11_sees 35 = .ok (.lreturn, 1) := by decide +kernel
theorem dX11_hidden_0 : decode cX11_hidden 0 = .ok (.aload_n 0, 1) := by decide +kernel
theorem dX11_hidden_1 : decode cX11_hidden 1 = .ok (.getfield 19, 3) := by decide +kernel
theorem dX11_hidden_4 : decode cX11_hidden 4 = .ok (.getfield 108, 3) := by decide +kernel
theorem dX11_hidden_7 : decode cX11_hidden 7 = .ok (.astore_n 1, 1) := by decide +kernel
theorem dX11_hidden_8 : decode cX11_hidden 8 = .ok (.aload_n 1, 1) := by decide +kernel
theorem dX11_hidden_9 : decode cX11_hidden 9 = .ok (.invokevirtual 176, 3) := by decide +kernel
theorem dX11_hidden_12 : decode cX11_hidden 12 = .ok (.ifCond .ne 7, 3) := by decide +kernel
theorem dX11_hidden_15 : decode cX11_hidden 15 = .ok (.ldc2_w 174, 3) := by decide +kernel
theorem dX11_hidden_18 : decode cX11_hidden 18 = .ok (.lreturn, 1) := by decide +kernel
theorem dX11_hidden_19 : decode cX11_hidden 19 = .ok (.aload_n 1, 1) := by decide +kernel
theorem dX11_hidden_20 : decode cX11_hidden 20 = .ok (.getfield 180, 3) := by decide +kernel
theorem dX11_hidden_23 : decode cX11_hidden 23 = .ok (.lstore_n 2, 1) := by decide +kernel
theorem dX11_hidden_24 : decode cX11_hidden 24 = .ok (.iconst 0, 1) := by decide +kernel
theorem dX11_hidden_25 : decode cX11_hidden 25 = .ok (.istore 4, 2) := by decide +kernel
theorem dX11_hidden_27 : decode cX11_hidden 27 = .ok (.iload 4, 2) := by decide +kernel
theorem dX11_hidden_29 : decode cX11_hidden 29 = .ok (.aload_n 1, 1) := by decide +kernel
theorem dX11_hidden_30 : decode cX11_hidden 30 = .ok (.getfield 118, 3) := by decide +kernel
theorem dX11_hidden_33 : decode cX11_hidden 33 = .ok (.if_icmp .ge 23, 3) := by decide +kernel
theorem dX11_hidden_36 : decode cX11_hidden 36 = .ok (.lload_n 2, 1) := by decide +kernel
theorem dX11_hidden_37 : decode cX11_hidden 37 = .ok (.aload_n 1, 1) := by decide +kernel
theorem dX11_hidden_38 : decode cX11_hidden 38 = .ok (.getfield 170, 3) := by decide +kernel
theorem dX11_hidden_41 : decode cX11_hidden 41 = .ok (.iload 4, 2) := by decide +kernel
theorem dX11_hidden_43 : decode cX11_hidden 43 = .ok (.laload, 1) := by decide +kernel
theorem dX11_hidden_44 : decode cX11_hidden 44 = .ok (.ldc2_w 174, 3) := by decide +kernel
theorem dX11_hidden_47 : decode cX11_hidden 47 = .ok (.lxor, 1) := by decide +kernel
theorem dX11_hidden_48 : decode cX11_hidden 48 = .ok (.land, 1) := by decide +kernel
theorem dX11_hidden_49 : decode cX11_hidden 49 = .ok (.lstore_n 2, 1) := by decide +kernel
theorem dX11_hidden_50 : decode cX11_hidden 50 = .ok (.iinc 4 1, 3) := by decide +kernel
theorem dX11_hidden_53 : decode cX11_hidden 53 = .ok (.goto (-26), 3) := by decide +kernel
theorem dX11_hidden_56 : decode cX11_hidden 56 = .ok (.lload_n 2, 1) := by decide +kernel
theorem dX11_hidden_57 : decode cX11_hidden 57 = .ok (.lreturn, 1) := by decide +kernel
theorem dX11_notes_0 : decode cX11_notes 0 = .ok (.iload_n 1, 1) := by decide +kernel
theorem dX11_notes_1 : decode cX11_notes 1 = .ok (.aload_n 0, 1) := by decide +kernel
theorem dX11_notes_2 : decode cX11_notes 2 = .ok (.getfield 19, 3) := by decide +kernel
theorem dX11_notes_5 : decode cX11_notes 5 = .ok (.getfield 115, 3) := by decide +kernel
theorem dX11_notes_8 : decode cX11_notes 8 = .ok (.invokestatic 130, 3) := by decide +kernel
theorem dX11_notes_11 : decode cX11_notes 11 = .ok (.ifCond .eq 23, 3) := by decide +kernel
theorem dX11_notes_14 : decode cX11_notes 14 = .ok (.iload_n 2, 1) := by decide +kernel
theorem dX11_notes_15 : decode cX11_notes 15 = .ok (.iconst 5, 1) := by decide +kernel
theorem dX11_notes_16 : decode cX11_notes 16 = .ok (.invokestatic 130, 3) := by decide +kernel
theorem dX11_notes_19 : decode cX11_notes 19 = .ok (.ifCond .eq 15, 3) := by decide +kernel
theorem dX11_notes_22 : decode cX11_notes 22 = .ok (.aload_n 0, 1) := by decide +kernel
theorem dX11_notes_23 : decode cX11_notes 23 = .ok (.getfield 19, 3) := by decide +kernel
theorem dX11_notes_26 : decode cX11_notes 26 = .ok (.iload_n 1, 1) := by decide +kernel
theorem dX11_notes_27 : decode cX11_notes 27 = .ok (.iload_n 2, 1) := by decide +kernel
theorem dX11_notes_28 : decode cX11_notes 28 = .ok (.invokevirtual 183, 3) := by decide +kernel
theorem dX11_notes_31 : decode cX11_notes 31 = .ok (.goto 5, 3) := by decide +kernel
theorem dX11_notes_34 : decode cX11_notes 34 = .ok (.bipush (-2), 2) := by decide +kernel
theorem dX11_notes_36 : decode cX11_notes 36 = .ok (.ireturn, 1) := by decide +kernel
theorem dX11_layings_0 : decode cX11_layings 0 = .ok (.aload_n 0, 1) := by decide +kernel
theorem dX11_layings_1 : decode cX11_layings 1 = .ok (.iload_n 1, 1) := by decide +kernel
theorem dX11_layings_2 : decode cX11_layings 2 = .ok (.invokevirtual 187, 3) := by decide +kernel
theorem dX11_layings_5 : decode cX11_layings 5 = .ok (.ifCond .eq 11, 3) := by decide +kernel
theorem dX11_layings_8 : decode cX11_layings 8 = .ok (.aload_n 0, 1) := by decide +kernel
theorem dX11_layings_9 : decode cX11_layings 9 = .ok (.iload_n 1, 1) := by decide +kernel
theorem dX11_layings_10 : decode cX11_layings 10 = .ok (.invokevirtual 191, 3) := by decide +kernel
theorem dX11_layings_13 : decode cX11_layings 13 = .ok (.goto 4, 3) := by decide +kernel
theorem dX11_layings_16 : decode cX11_layings 16 = .ok (.iconst (-1), 1) := by decide +kernel
theorem dX11_layings_17 : decode cX11_layings 17 = .ok (.ireturn, 1) := by decide +kernel
theorem dX11_may_0 : decode cX11_may 0 = .ok (.aload_n 0, 1) := by decide +kernel
theorem dX11_may_1 : decode cX11_may 1 = .ok (.iload_n 1, 1) := by decide +kernel
theorem dX11_may_2 : decode cX11_may 2 = .ok (.invokevirtual 187, 3) := by decide +kernel
theorem dX11_may_5 : decode cX11_may 5 = .ok (.ifCond .eq 36, 3) := by decide +kernel
theorem dX11_may_8 : decode cX11_may 8 = .ok (.aload_n 0, 1) := by decide +kernel
theorem dX11_may_9 : decode cX11_may 9 = .ok (.getfield 19, 3) := by decide +kernel
theorem dX11_may_12 : decode cX11_may 12 = .ok (.getfield 108, 3) := by decide +kernel
theorem dX11_may_15 : decode cX11_may 15 = .ok (.iload_n 2, 1) := by decide +kernel
theorem dX11_may_16 : decode cX11_may 16 = .ok (.iload_n 3, 1) := by decide +kernel
theorem dX11_may_17 : decode cX11_may 17 = .ok (.invokevirtual 144, 3) := by decide +kernel
theorem dX11_may_20 : decode cX11_may 20 = .ok (.ifCond .eq 21, 3) := by decide +kernel
theorem dX11_may_23 : decode cX11_may 23 = .ok (.iload 4, 2) := by decide +kernel
theorem dX11_may_25 : decode cX11_may 25 = .ok (.aload_n 0, 1) := by decide +kernel
theorem dX11_may_26 : decode cX11_may 26 = .ok (.getfield 19, 3) := by decide +kernel
theorem dX11_may_29 : decode cX11_may 29 = .ok (.getfield 108, 3) := by decide +kernel
theorem dX11_may_32 : decode cX11_may 32 = .ok (.getfield 137, 3) := by decide +kernel
theorem dX11_may_35 : decode cX11_may 35 = .ok (.invokestatic 130, 3) := by decide +kernel
theorem dX11_may_38 : decode cX11_may 38 = .ok (.ifCond .ne 5, 3) := by decide +kernel
theorem dX11_may_41 : decode cX11_may 41 = .ok (.iconst (-1), 1) := by decide +kernel
theorem dX11_may_42 : decode cX11_may 42 = .ok (.ireturn, 1) := by decide +kernel
theorem dX11_may_43 : decode cX11_may 43 = .ok (.aload_n 0, 1) := by decide +kernel
theorem dX11_may_44 : decode cX11_may 44 = .ok (.invokevirtual 164, 3) := by decide +kernel
theorem dX11_may_47 : decode cX11_may 47 = .ok (.aload_n 0, 1) := by decide +kernel
theorem dX11_may_48 : decode cX11_may 48 = .ok (.getfield 67, 3) := by decide +kernel
theorem dX11_may_51 : decode cX11_may 51 = .ok (.iload_n 1, 1) := by decide +kernel
theorem dX11_may_52 : decode cX11_may 52 = .ok (.iload 4, 2) := by decide +kernel
theorem dX11_may_54 : decode cX11_may 54 = .ok (.iload_n 2, 1) := by decide +kernel
theorem dX11_may_55 : decode cX11_may 55 = .ok (.iload_n 3, 1) := by decide +kernel
theorem dX11_may_56 : decode cX11_may 56 = .ok (.invokestatic 194, 3) := by decide +kernel
theorem dX11_may_59 : decode cX11_may 59 = .ok (.invokevirtual 200, 3) := by decide +kernel
theorem dX11_may_62 : decode cX11_may 62 = .ok (.aload_n 0, 1) := by decide +kernel
theorem dX11_may_63 : decode cX11_may 63 = .ok (.getfield 67, 3) := by decide +kernel
theorem dX11_may_66 : decode cX11_may 66 = .ok (.getfield 204, 3) := by decide +kernel
theorem dX11_may_69 : decode cX11_may 69 = .ok (.iconst 1, 1) := by decide +kernel
theorem dX11_may_70 : decode cX11_may 70 = .ok (.iaload, 1) := by decide +kernel
theorem dX11_may_71 : decode cX11_may 71 = .ok (.ifCond .ne 5, 3) := by decide +kernel
theorem dX11_may_74 : decode cX11_may 74 = .ok (.iconst 0, 1) := by decide +kernel
theorem dX11_may_75 : decode cX11_may 75 = .ok (.ireturn, 1) := by decide +kernel
theorem dX11_may_76 : decode cX11_may 76 = .ok (.aload_n 0, 1) := by decide +kernel
theorem dX11_may_77 : decode cX11_may 77 = .ok (.getfield 67, 3) := by decide +kernel
theorem dX11_may_80 : decode cX11_may 80 = .ok (.getfield 204, 3) := by decide +kernel
theorem dX11_may_83 : decode cX11_may 83 = .ok (.iconst 0, 1) := by decide +kernel
theorem dX11_may_84 : decode cX11_may 84 = .ok (.iaload, 1) := by decide +kernel
theorem dX11_may_85 : decode cX11_may 85 = .ok (.ifCond .ne 7, 3) := by decide +kernel
theorem dX11_may_88 : decode cX11_may 88 = .ok (.iconst 2, 1) := by decide +kernel
theorem dX11_may_89 : decode cX11_may 89 = .ok (.goto 4, 3) := by decide +kernel
theorem dX11_may_92 : decode cX11_may 92 = .ok (.iconst 1, 1) := by decide +kernel
theorem dX11_may_93 : decode cX11_may 93 = .ok (.ireturn, 1) := by decide +kernel
theorem dX11_odds_0 : decode cX11_odds 0 = .ok (.aload_n 0, 1) := by decide +kernel
theorem dX11_odds_1 : decode cX11_odds 1 = .ok (.iload_n 1, 1) := by decide +kernel
theorem dX11_odds_2 : decode cX11_odds 2 = .ok (.invokevirtual 187, 3) := by decide +kernel
theorem dX11_odds_5 : decode cX11_odds 5 = .ok (.ifCond .eq 45, 3) := by decide +kernel
theorem dX11_odds_8 : decode cX11_odds 8 = .ok (.aload_n 0, 1) := by decide +kernel
theorem dX11_odds_9 : decode cX11_odds 9 = .ok (.getfield 19, 3) := by decide +kernel
theorem dX11_odds_12 : decode cX11_odds 12 = .ok (.getfield 108, 3) := by decide +kernel
theorem dX11_odds_15 : decode cX11_odds 15 = .ok (.iload_n 2, 1) := by decide +kernel
theorem dX11_odds_16 : decode cX11_odds 16 = .ok (.iload_n 3, 1) := by decide +kernel
theorem dX11_odds_17 : decode cX11_odds 17 = .ok (.invokevirtual 144, 3) := by decide +kernel
theorem dX11_odds_20 : decode cX11_odds 20 = .ok (.ifCond .eq 30, 3) := by decide +kernel
theorem dX11_odds_23 : decode cX11_odds 23 = .ok (.iload 4, 2) := by decide +kernel
theorem dX11_odds_25 : decode cX11_odds 25 = .ok (.aload_n 0, 1) := by decide +kernel
theorem dX11_odds_26 : decode cX11_odds 26 = .ok (.getfield 19, 3) := by decide +kernel
theorem dX11_odds_29 : decode cX11_odds 29 = .ok (.getfield 108, 3) := by decide +kernel
theorem dX11_odds_32 : decode cX11_odds 32 = .ok (.getfield 137, 3) := by decide +kernel
theorem dX11_odds_35 : decode cX11_odds 35 = .ok (.invokestatic 130, 3) := by decide +kernel
theorem dX11_odds_38 : decode cX11_odds 38 = .ok (.ifCond .eq 12, 3) := by decide +kernel
theorem dX11_odds_41 : decode cX11_odds 41 = .ok (.iload 5, 2) := by decide +kernel
theorem dX11_odds_43 : decode cX11_odds 43 = .ok (.iconst 2, 1) := by decide +kernel
theorem dX11_odds_44 : decode cX11_odds 44 = .ok (.invokestatic 130, 3) := by decide +kernel
theorem dX11_odds_47 : decode cX11_odds 47 = .ok (.ifCond .ne 5, 3) := by decide +kernel
theorem dX11_odds_50 : decode cX11_odds 50 = .ok (.iconst (-1), 1) := by decide +kernel
theorem dX11_odds_51 : decode cX11_odds 51 = .ok (.ireturn, 1) := by decide +kernel
theorem dX11_odds_52 : decode cX11_odds 52 = .ok (.aload_n 0, 1) := by decide +kernel
theorem dX11_odds_53 : decode cX11_odds 53 = .ok (.invokevirtual 164, 3) := by decide +kernel
theorem dX11_odds_56 : decode cX11_odds 56 = .ok (.aload_n 0, 1) := by decide +kernel
theorem dX11_odds_57 : decode cX11_odds 57 = .ok (.getfield 67, 3) := by decide +kernel
theorem dX11_odds_60 : decode cX11_odds 60 = .ok (.iload_n 1, 1) := by decide +kernel
theorem dX11_odds_61 : decode cX11_odds 61 = .ok (.iload 4, 2) := by decide +kernel
theorem dX11_odds_63 : decode cX11_odds 63 = .ok (.iload_n 2, 1) := by decide +kernel
theorem dX11_odds_64 : decode cX11_odds 64 = .ok (.iload_n 3, 1) := by decide +kernel
theorem dX11_odds_65 : decode cX11_odds 65 = .ok (.invokestatic 194, 3) := by decide +kernel
theorem dX11_odds_68 : decode cX11_odds 68 = .ok (.invokevirtual 200, 3) := by decide +kernel
theorem dX11_odds_71 : decode cX11_odds 71 = .ok (.aload_n 0, 1) := by decide +kernel
theorem dX11_odds_72 : decode cX11_odds 72 = .ok (.getfield 67, 3) := by decide +kernel
theorem dX11_odds_75 : decode cX11_odds 75 = .ok (.getfield 204, 3) := by decide +kernel
theorem dX11_odds_78 : decode cX11_odds 78 = .ok (.iconst 1, 1) := by decide +kernel
theorem dX11_odds_79 : decode cX11_odds 79 = .ok (.iaload, 1) := by decide +kernel
theorem dX11_odds_80 : decode cX11_odds 80 = .ok (.istore 6, 2) := by decide +kernel
theorem dX11_odds_82 : decode cX11_odds 82 = .ok (.iload 6, 2) := by decide +kernel
theorem dX11_odds_84 : decode cX11_odds 84 = .ok (.aload_n 0, 1) := by decide +kernel
theorem dX11_odds_85 : decode cX11_odds 85 = .ok (.getfield 67, 3) := by decide +kernel
theorem dX11_odds_88 : decode cX11_odds 88 = .ok (.getfield 204, 3) := by decide +kernel
theorem dX11_odds_91 : decode cX11_odds 91 = .ok (.iconst 0, 1) := by decide +kernel
theorem dX11_odds_92 : decode cX11_odds 92 = .ok (.iaload, 1) := by decide +kernel
theorem dX11_odds_93 : decode cX11_odds 93 = .ok (.iadd, 1) := by decide +kernel
theorem dX11_odds_94 : decode cX11_odds 94 = .ok (.istore 7, 2) := by decide +kernel
theorem dX11_odds_96 : decode cX11_odds 96 = .ok (.iload 6, 2) := by decide +kernel
theorem dX11_odds_98 : decode cX11_odds 98 = .ok (.iload 7, 2) := by decide +kernel
theorem dX11_odds_100 : decode cX11_odds 100 = .ok (.invokestatic 208, 3) := by decide +kernel
theorem dX11_odds_103 : decode cX11_odds 103 = .ok (.istore 8, 2) := by decide +kernel
theorem dX11_odds_105 : decode cX11_odds 105 = .ok (.iload 8, 2) := by decide +kernel
theorem dX11_odds_107 : decode cX11_odds 107 = .ok (.ifCond .ne 6, 3) := by decide +kernel
theorem dX11_odds_110 : decode cX11_odds 110 = .ok (.iload 5, 2) := by decide +kernel
theorem dX11_odds_112 : decode cX11_odds 112 = .ok (.ireturn, 1) := by decide +kernel
theorem dX11_odds_113 : decode cX11_odds 113 = .ok (.iload 5, 2) := by decide +kernel
theorem dX11_odds_115 : decode cX11_odds 115 = .ok (.ifCond .ne 8, 3) := by decide +kernel
theorem dX11_odds_118 : decode cX11_odds 118 = .ok (.iload 6, 2) := by decide +kernel
theorem dX11_odds_120 : decode cX11_odds 120 = .ok (.goto 5, 3) := by decide +kernel
theorem dX11_odds_123 : decode cX11_odds 123 = .ok (.iload 7, 2) := by decide +kernel
theorem dX11_odds_125 : decode cX11_odds 125 = .ok (.iload 8, 2) := by decide +kernel
theorem dX11_odds_127 : decode cX11_odds 127 = .ok (.idiv, 1) := by decide +kernel
theorem dX11_odds_128 : decode cX11_odds 128 = .ok (.ireturn, 1) := by decide +kernel
theorem dX11_laying_0 : decode cX11_laying 0 = .ok (.aload_n 0, 1) := by decide +kernel
theorem dX11_laying_1 : decode cX11_laying 1 = .ok (.iload_n 1, 1) := by decide +kernel
theorem dX11_laying_2 : decode cX11_laying 2 = .ok (.invokevirtual 187, 3) := by decide +kernel
theorem dX11_laying_5 : decode cX11_laying 5 = .ok (.ifCond .eq 15, 3) := by decide +kernel
theorem dX11_laying_8 : decode cX11_laying 8 = .ok (.iload_n 2, 1) := by decide +kernel
theorem dX11_laying_9 : decode cX11_laying 9 = .ok (.ifCond .lt 11, 3) := by decide +kernel
theorem dX11_laying_12 : decode cX11_laying 12 = .ok (.iload_n 3, 1) := by decide +kernel
theorem dX11_laying_13 : decode cX11_laying 13 = .ok (.iconst 4, 1) := by decide +kernel
theorem dX11_laying_14 : decode cX11_laying 14 = .ok (.invokestatic 130, 3) := by decide +kernel
theorem dX11_laying_17 : decode cX11_laying 17 = .ok (.ifCond .ne 5, 3) := by decide +kernel
theorem dX11_laying_20 : decode cX11_laying 20 = .ok (.iconst (-1), 1) := by decide +kernel
theorem dX11_laying_21 : decode cX11_laying 21 = .ok (.ireturn, 1) := by decide +kernel
theorem dX11_laying_22 : decode cX11_laying 22 = .ok (.aload_n 0, 1) := by decide +kernel
theorem dX11_laying_23 : decode cX11_laying 23 = .ok (.invokevirtual 164, 3) := by decide +kernel
theorem dX11_laying_26 : decode cX11_laying 26 = .ok (.aload_n 0, 1) := by decide +kernel
theorem dX11_laying_27 : decode cX11_laying 27 = .ok (.getfield 67, 3) := by decide +kernel
theorem dX11_laying_30 : decode cX11_laying 30 = .ok (.iload_n 1, 1) := by decide +kernel
theorem dX11_laying_31 : decode cX11_laying 31 = .ok (.iload_n 2, 1) := by decide +kernel
theorem dX11_laying_32 : decode cX11_laying 32 = .ok (.iload_n 3, 1) := by decide +kernel
theorem dX11_laying_33 : decode cX11_laying 33 = .ok (.invokevirtual 211, 3) := by decide +kernel
theorem dX11_laying_36 : decode cX11_laying 36 = .ok (.ireturn, 1) := by decide +kernel
theorem dX11_rows_0 : decode cX11_rows 0 = .ok (.aload_n 0, 1) := by decide +kernel
theorem dX11_rows_1 : decode cX11_rows 1 = .ok (.iload_n 1, 1) := by decide +kernel
theorem dX11_rows_2 : decode cX11_rows 2 = .ok (.invokevirtual 187, 3) := by decide +kernel
theorem dX11_rows_5 : decode cX11_rows 5 = .ok (.ifCond .eq 37, 3) := by decide +kernel
theorem dX11_rows_8 : decode cX11_rows 8 = .ok (.iload_n 2, 1) := by decide +kernel
theorem dX11_rows_9 : decode cX11_rows 9 = .ok (.aload_n 0, 1) := by decide +kernel
theorem dX11_rows_10 : decode cX11_rows 10 = .ok (.getfield 19, 3) := by decide +kernel
theorem dX11_rows_13 : decode cX11_rows 13 = .ok (.getfield 108, 3) := by decide +kernel
theorem dX11_rows_16 : decode cX11_rows 16 = .ok (.getfield 137, 3) := by decide +kernel
theorem dX11_rows_19 : decode cX11_rows 19 = .ok (.invokestatic 130, 3) := by decide +kernel
theorem dX11_rows_22 : decode cX11_rows 22 = .ok (.ifCond .eq 20, 3) := by decide +kernel
theorem dX11_rows_25 : decode cX11_rows 25 = .ok (.iload_n 3, 1) := by decide +kernel
theorem dX11_rows_26 : decode cX11_rows 26 = .ok (.aload_n 0, 1) := by decide +kernel
theorem dX11_rows_27 : decode cX11_rows 27 = .ok (.getfield 19, 3) := by decide +kernel
theorem dX11_rows_30 : decode cX11_rows 30 = .ok (.getfield 108, 3) := by decide +kernel
theorem dX11_rows_33 : decode cX11_rows 33 = .ok (.getfield 215, 3) := by decide +kernel
theorem dX11_rows_36 : decode cX11_rows 36 = .ok (.invokestatic 130, 3) := by decide +kernel
theorem dX11_rows_39 : decode cX11_rows 39 = .ok (.ifCond .ne 5, 3) := by decide +kernel
theorem dX11_rows_42 : decode cX11_rows 42 = .ok (.iconst (-1), 1) := by decide +kernel
theorem dX11_rows_43 : decode cX11_rows 43 = .ok (.ireturn, 1) := by decide +kernel
theorem dX11_rows_44 : decode cX11_rows 44 = .ok (.iload 4, 2) := by decide +kernel
theorem dX11_rows_46 : decode cX11_rows 46 = .ok (.iconst 5, 1) := by decide +kernel
theorem dX11_rows_47 : decode cX11_rows 47 = .ok (.invokestatic 130, 3) := by decide +kernel
theorem dX11_rows_50 : decode cX11_rows 50 = .ok (.ifCond .ne 5, 3) := by decide +kernel
theorem dX11_rows_53 : decode cX11_rows 53 = .ok (.iconst (-1), 1) := by decide +kernel
theorem dX11_rows_54 : decode cX11_rows 54 = .ok (.ireturn, 1) := by decide +kernel
theorem dX11_rows_55 : decode cX11_rows 55 = .ok (.aload_n 0, 1) := by decide +kernel
theorem dX11_rows_56 : decode cX11_rows 56 = .ok (.invokevirtual 164, 3) := by decide +kernel
theorem dX11_rows_59 : decode cX11_rows 59 = .ok (.aload_n 0, 1) := by decide +kernel
theorem dX11_rows_60 : decode cX11_rows 60 = .ok (.getfield 67, 3) := by decide +kernel
theorem dX11_rows_63 : decode cX11_rows 63 = .ok (.iload_n 1, 1) := by decide +kernel
theorem dX11_rows_64 : decode cX11_rows 64 = .ok (.iload_n 2, 1) := by decide +kernel
theorem dX11_rows_65 : decode cX11_rows 65 = .ok (.iconst 0, 1) := by decide +kernel
theorem dX11_rows_66 : decode cX11_rows 66 = .ok (.iload_n 3, 1) := by decide +kernel
theorem dX11_rows_67 : decode cX11_rows 67 = .ok (.aload_n 0, 1) := by decide +kernel
theorem dX11_rows_68 : decode cX11_rows 68 = .ok (.getfield 19, 3) := by decide +kernel
theorem dX11_rows_71 : decode cX11_rows 71 = .ok (.getfield 108, 3) := by decide +kernel
theorem dX11_rows_74 : decode cX11_rows 74 = .ok (.getfield 218, 3) := by decide +kernel
theorem dX11_rows_77 : decode cX11_rows 77 = .ok (.iconst 1, 1) := by decide +kernel
theorem dX11_rows_78 : decode cX11_rows 78 = .ok (.isub, 1) := by decide +kernel
theorem dX11_rows_79 : decode cX11_rows 79 = .ok (.iload_n 3, 1) := by decide +kernel
theorem dX11_rows_80 : decode cX11_rows 80 = .ok (.invokestatic 221, 3) := by decide +kernel
theorem dX11_rows_83 : decode cX11_rows 83 = .ok (.invokevirtual 200, 3) := by decide +kernel
theorem dX11_rows_86 : decode cX11_rows 86 = .ok (.aload_n 0, 1) := by decide +kernel
theorem dX11_rows_87 : decode cX11_rows 87 = .ok (.getfield 67, 3) := by decide +kernel
theorem dX11_rows_90 : decode cX11_rows 90 = .ok (.getfield 204, 3) := by decide +kernel
theorem dX11_rows_93 : decode cX11_rows 93 = .ok (.iload 4, 2) := by decide +kernel
theorem dX11_rows_95 : decode cX11_rows 95 = .ok (.iaload, 1) := by decide +kernel
theorem dX11_rows_96 : decode cX11_rows 96 = .ok (.ireturn, 1) := by decide +kernel
theorem dX11_news_0 : decode cX11_news 0 = .ok (.aload_n 0, 1) := by decide +kernel
theorem dX11_news_1 : decode cX11_news 1 = .ok (.iload_n 1, 1) := by decide +kernel
theorem dX11_news_2 : decode cX11_news 2 = .ok (.invokevirtual 187, 3) := by decide +kernel
theorem dX11_news_5 : decode cX11_news 5 = .ok (.ifCond .eq 25, 3) := by decide +kernel
theorem dX11_news_8 : decode cX11_news 8 = .ok (.iload_n 2, 1) := by decide +kernel
theorem dX11_news_9 : decode cX11_news 9 = .ok (.aload_n 0, 1) := by decide +kernel
theorem dX11_news_10 : decode cX11_news 10 = .ok (.getfield 19, 3) := by decide +kernel
theorem dX11_news_13 : decode cX11_news 13 = .ok (.getfield 115, 3) := by decide +kernel
theorem dX11_news_16 : decode cX11_news 16 = .ok (.invokestatic 130, 3) := by decide +kernel
theorem dX11_news_19 : decode cX11_news 19 = .ok (.ifCond .eq 11, 3) := by decide +kernel
theorem dX11_news_22 : decode cX11_news 22 = .ok (.iload_n 1, 1) := by decide +kernel
theorem dX11_news_23 : decode cX11_news 23 = .ok (.iload_n 2, 1) := by decide +kernel
theorem dX11_news_24 : decode cX11_news 24 = .ok (.ishr, 1) := by decide +kernel
theorem dX11_news_25 : decode cX11_news 25 = .ok (.iconst 1, 1) := by decide +kernel
theorem dX11_news_26 : decode cX11_news 26 = .ok (.iand, 1) := by decide +kernel
theorem dX11_news_27 : decode cX11_news 27 = .ok (.ifCond .ne 5, 3) := by decide +kernel
theorem dX11_news_30 : decode cX11_news 30 = .ok (.iconst (-1), 1) := by decide +kernel
theorem dX11_news_31 : decode cX11_news 31 = .ok (.ireturn, 1) := by decide +kernel
theorem dX11_news_32 : decode cX11_news 32 = .ok (.aload_n 0, 1) := by decide +kernel
theorem dX11_news_33 : decode cX11_news 33 = .ok (.iload_n 1, 1) := by decide +kernel
theorem dX11_news_34 : decode cX11_news 34 = .ok (.iconst 1, 1) := by decide +kernel
theorem dX11_news_35 : decode cX11_news 35 = .ok (.iload_n 2, 1) := by decide +kernel
theorem dX11_news_36 : decode cX11_news 36 = .ok (.ishl, 1) := by decide +kernel
theorem dX11_news_37 : decode cX11_news 37 = .ok (.ixor, 1) := by decide +kernel
theorem dX11_news_38 : decode cX11_news 38 = .ok (.invokevirtual 191, 3) := by decide +kernel
theorem dX11_news_41 : decode cX11_news 41 = .ok (.aload_n 0, 1) := by decide +kernel
theorem dX11_news_42 : decode cX11_news 42 = .ok (.iload_n 1, 1) := by decide +kernel
theorem dX11_news_43 : decode cX11_news 43 = .ok (.invokevirtual 191, 3) := by decide +kernel
theorem dX11_news_46 : decode cX11_news 46 = .ok (.if_icmp .le 7, 3) := by decide +kernel
theorem dX11_news_49 : decode cX11_news 49 = .ok (.iconst 1, 1) := by decide +kernel
theorem dX11_news_50 : decode cX11_news 50 = .ok (.goto 4, 3) := by decide +kernel
theorem dX11_news_53 : decode cX11_news 53 = .ok (.iconst 0, 1) := by decide +kernel
theorem dX11_news_54 : decode cX11_news 54 = .ok (.ireturn, 1) := by decide +kernel
theorem dX11_quarrel_0 : decode cX11_quarrel 0 = .ok (.iload_n 1, 1) := by decide +kernel
theorem dX11_quarrel_1 : decode cX11_quarrel 1 = .ok (.aload_n 0, 1) := by decide +kernel
theorem dX11_quarrel_2 : decode cX11_quarrel 2 = .ok (.getfield 19, 3) := by decide +kernel
theorem dX11_quarrel_5 : decode cX11_quarrel 5 = .ok (.getfield 115, 3) := by decide +kernel
theorem dX11_quarrel_8 : decode cX11_quarrel 8 = .ok (.invokestatic 130, 3) := by decide +kernel
theorem dX11_quarrel_11 : decode cX11_quarrel 11 = .ok (.ifCond .eq 22, 3) := by decide +kernel
theorem dX11_quarrel_14 : decode cX11_quarrel 14 = .ok (.iload_n 2, 1) := by decide +kernel
theorem dX11_quarrel_15 : decode cX11_quarrel 15 = .ok (.aload_n 0, 1) := by decide +kernel
theorem dX11_quarrel_16 : decode cX11_quarrel 16 = .ok (.getfield 19, 3) := by decide +kernel
theorem dX11_quarrel_19 : decode cX11_quarrel 19 = .ok (.getfield 115, 3) := by decide +kernel
theorem dX11_quarrel_22 : decode cX11_quarrel 22 = .ok (.invokestatic 130, 3) := by decide +kernel
theorem dX11_quarrel_25 : decode cX11_quarrel 25 = .ok (.ifCond .eq 8, 3) := by decide +kernel
theorem dX11_quarrel_28 : decode cX11_quarrel 28 = .ok (.iload_n 1, 1) := by decide +kernel
theorem dX11_quarrel_29 : decode cX11_quarrel 29 = .ok (.iload_n 2, 1) := by decide +kernel
theorem dX11_quarrel_30 : decode cX11_quarrel 30 = .ok (.if_icmp .ne 5, 3) := by decide +kernel
theorem dX11_quarrel_33 : decode cX11_quarrel 33 = .ok (.iconst (-1), 1) := by decide +kernel
theorem dX11_quarrel_34 : decode cX11_quarrel 34 = .ok (.ireturn, 1) := by decide +kernel
theorem dX11_quarrel_35 : decode cX11_quarrel 35 = .ok (.aload_n 0, 1) := by decide +kernel
theorem dX11_quarrel_36 : decode cX11_quarrel 36 = .ok (.invokevirtual 164, 3) := by decide +kernel
theorem dX11_quarrel_39 : decode cX11_quarrel 39 = .ok (.iconst 1, 1) := by decide +kernel
theorem dX11_quarrel_40 : decode cX11_quarrel 40 = .ok (.iload_n 1, 1) := by decide +kernel
theorem dX11_quarrel_41 : decode cX11_quarrel 41 = .ok (.ishl, 1) := by decide +kernel
theorem dX11_quarrel_42 : decode cX11_quarrel 42 = .ok (.istore_n 3, 1) := by decide +kernel
theorem dX11_quarrel_43 : decode cX11_quarrel 43 = .ok (.iconst 1, 1) := by decide +kernel
theorem dX11_quarrel_44 : decode cX11_quarrel 44 = .ok (.iload_n 2, 1) := by decide +kernel
theorem dX11_quarrel_45 : decode cX11_quarrel 45 = .ok (.ishl, 1) := by decide +kernel
theorem dX11_quarrel_46 : decode cX11_quarrel 46 = .ok (.istore 4, 2) := by decide +kernel
theorem dX11_quarrel_48 : decode cX11_quarrel 48 = .ok (.aload_n 0, 1) := by decide +kernel
theorem dX11_quarrel_49 : decode cX11_quarrel 49 = .ok (.getfield 67, 3) := by decide +kernel
theorem dX11_quarrel_52 : decode cX11_quarrel 52 = .ok (.iload_n 3, 1) := by decide +kernel
theorem dX11_quarrel_53 : decode cX11_quarrel 53 = .ok (.invokevirtual 225, 3) := by decide +kernel
theorem dX11_quarrel_56 : decode cX11_quarrel 56 = .ok (.ifCond .eq 33, 3) := by decide +kernel
theorem dX11_quarrel_59 : decode cX11_quarrel 59 = .ok (.aload_n 0, 1) := by decide +kernel
theorem dX11_quarrel_60 : decode cX11_quarrel 60 = .ok (.getfield 67, 3) := by decide +kernel
theorem dX11_quarrel_63 : decode cX11_quarrel 63 = .ok (.iload 4, 2) := by decide +kernel
theorem dX11_quarrel_65 : decode cX11_quarrel 65 = .ok (.invokevirtual 225, 3) := by decide +kernel
theorem dX11_quarrel_68 : decode cX11_quarrel 68 = .ok (.ifCond .eq 21, 3) := by decide +kernel
theorem dX11_quarrel_71 : decode cX11_quarrel 71 = .ok (.aload_n 0, 1) := by decide +kernel
theorem dX11_quarrel_72 : decode cX11_quarrel 72 = .ok (.getfield 67, 3) := by decide +kernel
theorem dX11_quarrel_75 : decode cX11_quarrel 75 = .ok (.iload_n 3, 1) := by decide +kernel
theorem dX11_quarrel_76 : decode cX11_quarrel 76 = .ok (.iload 4, 2) := by decide +kernel
theorem dX11_quarrel_78 : decode cX11_quarrel 78 = .ok (.ior, 1) := by decide +kernel
theorem dX11_quarrel_79 : decode cX11_quarrel 79 = .ok (.invokevirtual 225, 3) := by decide +kernel
theorem dX11_quarrel_82 : decode cX11_quarrel 82 = .ok (.ifCond .ne 7, 3) := by decide +kernel
theorem dX11_quarrel_85 : decode cX11_quarrel 85 = .ok (.iconst 1, 1) := by decide +kernel
theorem dX11_quarrel_86 : decode cX11_quarrel 86 = .ok (.goto 4, 3) := by decide +kernel
theorem dX11_quarrel_89 : decode cX11_quarrel 89 = .ok (.iconst 0, 1) := by decide +kernel
theorem dX11_quarrel_90 : decode cX11_quarrel 90 = .ok (.ireturn, 1) := by decide +kernel
theorem dX11_least_0 : decode cX11_least 0 = .ok (.aload_n 0, 1) := by decide +kernel
theorem dX11_least_1 : decode cX11_least 1 = .ok (.iload_n 1, 1) := by decide +kernel
theorem dX11_least_2 : decode cX11_least 2 = .ok (.invokevirtual 187, 3) := by decide +kernel
theorem dX11_least_5 : decode cX11_least 5 = .ok (.ifCond .ne 5, 3) := by decide +kernel
theorem dX11_least_8 : decode cX11_least 8 = .ok (.iconst (-1), 1) := by decide +kernel
theorem dX11_least_9 : decode cX11_least 9 = .ok (.ireturn, 1) := by decide +kernel
theorem dX11_least_10 : decode cX11_least 10 = .ok (.aload_n 0, 1) := by decide +kernel
theorem dX11_least_11 : decode cX11_least 11 = .ok (.invokevirtual 228, 3) := by decide +kernel
theorem dX11_least_14 : decode cX11_least 14 = .ok (.aload_n 0, 1) := by decide +kernel
theorem dX11_least_15 : decode cX11_least 15 = .ok (.getfield 74, 3) := by decide +kernel
theorem dX11_least_18 : decode cX11_least 18 = .ok (.iload_n 1, 1) := by decide +kernel
theorem dX11_least_19 : decode cX11_least 19 = .ok (.invokevirtual 231, 3) := by decide +kernel
theorem dX11_least_22 : decode cX11_least 22 = .ok (.ireturn, 1) := by decide +kernel
theorem dX11_careless_0 : decode cX11_careless 0 = .ok (.aload_n 0, 1) := by decide +kernel
theorem dX11_careless_1 : decode cX11_careless 1 = .ok (.iload_n 1, 1) := by decide +kernel
theorem dX11_careless_2 : decode cX11_careless 2 = .ok (.invokevirtual 187, 3) := by decide +kernel
theorem dX11_careless_5 : decode cX11_careless 5 = .ok (.ifCond .ne 5, 3) := by decide +kernel
theorem dX11_careless_8 : decode cX11_careless 8 = .ok (.iconst (-1), 1) := by decide +kernel
theorem dX11_careless_9 : decode cX11_careless 9 = .ok (.ireturn, 1) := by decide +kernel
theorem dX11_careless_10 : decode cX11_careless 10 = .ok (.aload_n 0, 1) := by decide +kernel
theorem dX11_careless_11 : decode cX11_careless 11 = .ok (.invokevirtual 228, 3) := by decide +kernel
theorem dX11_careless_14 : decode cX11_careless 14 = .ok (.aload_n 0, 1) := by decide +kernel
theorem dX11_careless_15 : decode cX11_careless 15 = .ok (.getfield 74, 3) := by decide +kernel
theorem dX11_careless_18 : decode cX11_careless 18 = .ok (.iload_n 1, 1) := by decide +kernel
theorem dX11_careless_19 : decode cX11_careless 19 = .ok (.invokevirtual 234, 3) := by decide +kernel
theorem dX11_careless_22 : decode cX11_careless 22 = .ok (.ireturn, 1) := by decide +kernel
theorem dX11_trust_0 : decode cX11_trust 0 = .ok (.aload_n 0, 1) := by decide +kernel
theorem dX11_trust_1 : decode cX11_trust 1 = .ok (.iload_n 1, 1) := by decide +kernel
theorem dX11_trust_2 : decode cX11_trust 2 = .ok (.invokevirtual 187, 3) := by decide +kernel
theorem dX11_trust_5 : decode cX11_trust 5 = .ok (.ifCond .ne 5, 3) := by decide +kernel
theorem dX11_trust_8 : decode cX11_trust 8 = .ok (.iconst (-1), 1) := by decide +kernel
theorem dX11_trust_9 : decode cX11_trust 9 = .ok (.ireturn, 1) := by decide +kernel
theorem dX11_trust_10 : decode cX11_trust 10 = .ok (.aload_n 0, 1) := by decide +kernel
theorem dX11_trust_11 : decode cX11_trust 11 = .ok (.invokevirtual 228, 3) := by decide +kernel
theorem dX11_trust_14 : decode cX11_trust 14 = .ok (.aload_n 0, 1) := by decide +kernel
theorem dX11_trust_15 : decode cX11_trust 15 = .ok (.getfield 74, 3) := by decide +kernel
theorem dX11_trust_18 : decode cX11_trust 18 = .ok (.aload_n 0, 1) := by decide +kernel
theorem dX11_trust_19 : decode cX11_trust 19 = .ok (.getfield 19, 3) := by decide +kernel
theorem dX11_trust_22 : decode cX11_trust 22 = .ok (.iload_n 1, 1) := by decide +kernel
theorem dX11_trust_23 : decode cX11_trust 23 = .ok (.invokevirtual 237, 3) := by decide +kernel
theorem dX11_trust_26 : decode cX11_trust 26 = .ok (.ireturn, 1) := by decide +kernel
theorem dX11_worst_0 : decode cX11_worst 0 = .ok (.aload_n 0, 1) := by decide +kernel
theorem dX11_worst_1 : decode cX11_worst 1 = .ok (.iload_n 1, 1) := by decide +kernel
theorem dX11_worst_2 : decode cX11_worst 2 = .ok (.invokevirtual 187, 3) := by decide +kernel
theorem dX11_worst_5 : decode cX11_worst 5 = .ok (.ifCond .eq 20, 3) := by decide +kernel
theorem dX11_worst_8 : decode cX11_worst 8 = .ok (.iload_n 2, 1) := by decide +kernel
theorem dX11_worst_9 : decode cX11_worst 9 = .ok (.aload_n 0, 1) := by decide +kernel
theorem dX11_worst_10 : decode cX11_worst 10 = .ok (.getfield 19, 3) := by decide +kernel
theorem dX11_worst_13 : decode cX11_worst 13 = .ok (.getfield 108, 3) := by decide +kernel
theorem dX11_worst_16 : decode cX11_worst 16 = .ok (.getfield 118, 3) := by decide +kernel
theorem dX11_worst_19 : decode cX11_worst 19 = .ok (.invokestatic 130, 3) := by decide +kernel
theorem dX11_worst_22 : decode cX11_worst 22 = .ok (.ifCond .ne 5, 3) := by decide +kernel
theorem dX11_worst_25 : decode cX11_worst 25 = .ok (.iconst (-1), 1) := by decide +kernel
theorem dX11_worst_26 : decode cX11_worst 26 = .ok (.ireturn, 1) := by decide +kernel
theorem dX11_worst_27 : decode cX11_worst 27 = .ok (.aload_n 0, 1) := by decide +kernel
theorem dX11_worst_28 : decode cX11_worst 28 = .ok (.iload_n 1, 1) := by decide +kernel
theorem dX11_worst_29 : decode cX11_worst 29 = .ok (.iconst 0, 1) := by decide +kernel
theorem dX11_worst_30 : decode cX11_worst 30 = .ok (.invokevirtual 241, 3) := by decide +kernel
theorem dX11_worst_33 : decode cX11_worst 33 = .ok (.aload_n 0, 1) := by decide +kernel
theorem dX11_worst_34 : decode cX11_worst 34 = .ok (.getfield 81, 3) := by decide +kernel
theorem dX11_worst_37 : decode cX11_worst 37 = .ok (.iload_n 2, 1) := by decide +kernel
theorem dX11_worst_38 : decode cX11_worst 38 = .ok (.invokevirtual 245, 3) := by decide +kernel
theorem dX11_worst_41 : decode cX11_worst 41 = .ok (.ireturn, 1) := by decide +kernel
theorem dX11_next_0 : decode cX11_next 0 = .ok (.aload_n 0, 1) := by decide +kernel
theorem dX11_next_1 : decode cX11_next 1 = .ok (.iload_n 1, 1) := by decide +kernel
theorem dX11_next_2 : decode cX11_next 2 = .ok (.invokevirtual 187, 3) := by decide +kernel
theorem dX11_next_5 : decode cX11_next 5 = .ok (.ifCond .eq 11, 3) := by decide +kernel
theorem dX11_next_8 : decode cX11_next 8 = .ok (.iload_n 2, 1) := by decide +kernel
theorem dX11_next_9 : decode cX11_next 9 = .ok (.iconst 2, 1) := by decide +kernel
theorem dX11_next_10 : decode cX11_next 10 = .ok (.invokestatic 130, 3) := by decide +kernel
theorem dX11_next_13 : decode cX11_next 13 = .ok (.ifCond .ne 5, 3) := by decide +kernel
theorem dX11_next_16 : decode cX11_next 16 = .ok (.iconst (-1), 1) := by decide +kernel
theorem dX11_next_17 : decode cX11_next 17 = .ok (.ireturn, 1) := by decide +kernel
theorem dX11_next_18 : decode cX11_next 18 = .ok (.aload_n 0, 1) := by decide +kernel
theorem dX11_next_19 : decode cX11_next 19 = .ok (.getfield 19, 3) := by decide +kernel
theorem dX11_next_22 : decode cX11_next 22 = .ok (.getfield 108, 3) := by decide +kernel
theorem dX11_next_25 : decode cX11_next 25 = .ok (.getfield 118, 3) := by decide +kernel
theorem dX11_next_28 : decode cX11_next 28 = .ok (.ifCond .ne 6, 3) := by decide +kernel
theorem dX11_next_31 : decode cX11_next 31 = .ok (.bipush (-2), 2) := by decide +kernel
theorem dX11_next_33 : decode cX11_next 33 = .ok (.ireturn, 1) := by decide +kernel
theorem dX11_next_34 : decode cX11_next 34 = .ok (.aload_n 0, 1) := by decide +kernel
theorem dX11_next_35 : decode cX11_next 35 = .ok (.iload_n 1, 1) := by decide +kernel
theorem dX11_next_36 : decode cX11_next 36 = .ok (.iconst 0, 1) := by decide +kernel
theorem dX11_next_37 : decode cX11_next 37 = .ok (.invokevirtual 241, 3) := by decide +kernel
theorem dX11_next_40 : decode cX11_next 40 = .ok (.aload_n 0, 1) := by decide +kernel
theorem dX11_next_41 : decode cX11_next 41 = .ok (.getfield 81, 3) := by decide +kernel
theorem dX11_next_44 : decode cX11_next 44 = .ok (.invokevirtual 248, 3) := by decide +kernel
theorem dX11_next_47 : decode cX11_next 47 = .ok (.aload_n 0, 1) := by decide +kernel
theorem dX11_next_48 : decode cX11_next 48 = .ok (.getfield 81, 3) := by decide +kernel
theorem dX11_next_51 : decode cX11_next 51 = .ok (.iload_n 2, 1) := by decide +kernel
theorem dX11_next_52 : decode cX11_next 52 = .ok (.invokevirtual 251, 3) := by decide +kernel
theorem dX11_next_55 : decode cX11_next 55 = .ok (.ireturn, 1) := by decide +kernel
theorem dX11_then_0 : decode cX11_then 0 = .ok (.aload_n 0, 1) := by decide +kernel
theorem dX11_then_1 : decode cX11_then 1 = .ok (.getfield 19, 3) := by decide +kernel
theorem dX11_then_4 : decode cX11_then 4 = .ok (.getfield 108, 3) := by decide +kernel
theorem dX11_then_7 : decode cX11_then 7 = .ok (.astore 5, 2) := by decide +kernel
theorem dX11_then_9 : decode cX11_then 9 = .ok (.aload_n 0, 1) := by decide +kernel
theorem dX11_then_10 : decode cX11_then 10 = .ok (.iload_n 1, 1) := by decide +kernel
theorem dX11_then_11 : decode cX11_then 11 = .ok (.invokevirtual 187, 3) := by decide +kernel
theorem dX11_then_14 : decode cX11_then 14 = .ok (.ifCond .eq 38, 3) := by decide +kernel
theorem dX11_then_17 : decode cX11_then 17 = .ok (.iload_n 2, 1) := by decide +kernel
theorem dX11_then_18 : decode cX11_then 18 = .ok (.aload 5, 2) := by decide +kernel
theorem dX11_then_20 : decode cX11_then 20 = .ok (.getfield 118, 3) := by decide +kernel
theorem dX11_then_23 : decode cX11_then 23 = .ok (.invokestatic 130, 3) := by decide +kernel
theorem dX11_then_26 : decode cX11_then 26 = .ok (.ifCond .eq 26, 3) := by decide +kernel
theorem dX11_then_29 : decode cX11_then 29 = .ok (.iload_n 3, 1) := by decide +kernel
theorem dX11_then_30 : decode cX11_then 30 = .ok (.iconst 1, 1) := by decide +kernel
theorem dX11_then_31 : decode cX11_then 31 = .ok (.aload 5, 2) := by decide +kernel
theorem dX11_then_33 : decode cX11_then 33 = .ok (.getfield 137, 3) := by decide +kernel
theorem dX11_then_36 : decode cX11_then 36 = .ok (.ishl, 1) := by decide +kernel
theorem dX11_then_37 : decode cX11_then 37 = .ok (.invokestatic 130, 3) := by decide +kernel
theorem dX11_then_40 : decode cX11_then 40 = .ok (.ifCond .eq 12, 3) := by decide +kernel
theorem dX11_then_43 : decode cX11_then 43 = .ok (.iload 4, 2) := by decide +kernel
theorem dX11_then_45 : decode cX11_then 45 = .ok (.iconst 2, 1) := by decide +kernel
theorem dX11_then_46 : decode cX11_then 46 = .ok (.invokestatic 130, 3) := by decide +kernel
theorem dX11_then_49 : decode cX11_then 49 = .ok (.ifCond .ne 5, 3) := by decide +kernel
theorem dX11_then_52 : decode cX11_then 52 = .ok (.iconst (-1), 1) := by decide +kernel
theorem dX11_then_53 : decode cX11_then 53 = .ok (.ireturn, 1) := by decide +kernel
theorem dX11_then_54 : decode cX11_then 54 = .ok (.aload_n 0, 1) := by decide +kernel
theorem dX11_then_55 : decode cX11_then 55 = .ok (.iload_n 1, 1) := by decide +kernel
theorem dX11_then_56 : decode cX11_then 56 = .ok (.invokevirtual 254, 3) := by decide +kernel
theorem dX11_then_59 : decode cX11_then 59 = .ok (.aload_n 0, 1) := by decide +kernel
theorem dX11_then_60 : decode cX11_then 60 = .ok (.getfield 81, 3) := by decide +kernel
theorem dX11_then_63 : decode cX11_then 63 = .ok (.iload_n 2, 1) := by decide +kernel
theorem dX11_then_64 : decode cX11_then 64 = .ok (.iload_n 3, 1) := by decide +kernel
theorem dX11_then_65 : decode cX11_then 65 = .ok (.invokevirtual 257, 3) := by decide +kernel
theorem dX11_then_68 : decode cX11_then 68 = .ok (.aload_n 0, 1) := by decide +kernel
theorem dX11_then_69 : decode cX11_then 69 = .ok (.getfield 81, 3) := by decide +kernel
theorem dX11_then_72 : decode cX11_then 72 = .ok (.iload 4, 2) := by decide +kernel
theorem dX11_then_74 : decode cX11_then 74 = .ok (.invokevirtual 251, 3) := by decide +kernel
theorem dX11_then_77 : decode cX11_then 77 = .ok (.ireturn, 1) := by decide +kernel
theorem dX11_plan_0 : decode cX11_plan 0 = .ok (.aload_n 0, 1) := by decide +kernel
theorem dX11_plan_1 : decode cX11_plan 1 = .ok (.iload_n 1, 1) := by decide +kernel
theorem dX11_plan_2 : decode cX11_plan 2 = .ok (.invokevirtual 187, 3) := by decide +kernel
theorem dX11_plan_5 : decode cX11_plan 5 = .ok (.ifCond .eq 11, 3) := by decide +kernel
theorem dX11_plan_8 : decode cX11_plan 8 = .ok (.iload_n 2, 1) := by decide +kernel
theorem dX11_plan_9 : decode cX11_plan 9 = .ok (.iconst 2, 1) := by decide +kernel
theorem dX11_plan_10 : decode cX11_plan 10 = .ok (.invokestatic 130, 3) := by decide +kernel
theorem dX11_plan_13 : decode cX11_plan 13 = .ok (.ifCond .ne 5, 3) := by decide +kernel
theorem dX11_plan_16 : decode cX11_plan 16 = .ok (.iconst (-1), 1) := by decide +kernel
theorem dX11_plan_17 : decode cX11_plan 17 = .ok (.ireturn, 1) := by decide +kernel
theorem dX11_plan_18 : decode cX11_plan 18 = .ok (.aload_n 0, 1) := by decide +kernel
theorem dX11_plan_19 : decode cX11_plan 19 = .ok (.getfield 19, 3) := by decide +kernel
theorem dX11_plan_22 : decode cX11_plan 22 = .ok (.getfield 108, 3) := by decide +kernel
theorem dX11_plan_25 : decode cX11_plan 25 = .ok (.getfield 118, 3) := by decide +kernel
theorem dX11_plan_28 : decode cX11_plan 28 = .ok (.ifCond .ne 6, 3) := by decide +kernel
theorem dX11_plan_31 : decode cX11_plan 31 = .ok (.bipush (-2), 2) := by decide +kernel
theorem dX11_plan_33 : decode cX11_plan 33 = .ok (.ireturn, 1) := by decide +kernel
theorem dX11_plan_34 : decode cX11_plan 34 = .ok (.aload_n 0, 1) := by decide +kernel
theorem dX11_plan_35 : decode cX11_plan 35 = .ok (.iload_n 1, 1) := by decide +kernel
theorem dX11_plan_36 : decode cX11_plan 36 = .ok (.invokevirtual 254, 3) := by decide +kernel
theorem dX11_plan_39 : decode cX11_plan 39 = .ok (.aload_n 0, 1) := by decide +kernel
theorem dX11_plan_40 : decode cX11_plan 40 = .ok (.getfield 81, 3) := by decide +kernel
theorem dX11_plan_43 : decode cX11_plan 43 = .ok (.invokevirtual 260, 3) := by decide +kernel
theorem dX11_plan_46 : decode cX11_plan 46 = .ok (.aload_n 0, 1) := by decide +kernel
theorem dX11_plan_47 : decode cX11_plan 47 = .ok (.getfield 81, 3) := by decide +kernel
theorem dX11_plan_50 : decode cX11_plan 50 = .ok (.iload_n 2, 1) := by decide +kernel
theorem dX11_plan_51 : decode cX11_plan 51 = .ok (.invokevirtual 251, 3) := by decide +kernel
theorem dX11_plan_54 : decode cX11_plan 54 = .ok (.ireturn, 1) := by decide +kernel
theorem dX11_fresh_0 : decode cX11_fresh 0 = .ok (.aload_n 0, 1) := by decide +kernel
theorem dX11_fresh_1 : decode cX11_fresh 1 = .ok (.iload_n 1, 1) := by decide +kernel
theorem dX11_fresh_2 : decode cX11_fresh 2 = .ok (.invokevirtual 187, 3) := by decide +kernel
theorem dX11_fresh_5 : decode cX11_fresh 5 = .ok (.ifCond .eq 22, 3) := by decide +kernel
theorem dX11_fresh_8 : decode cX11_fresh 8 = .ok (.iload_n 2, 1) := by decide +kernel
theorem dX11_fresh_9 : decode cX11_fresh 9 = .ok (.iconst 1, 1) := by decide +kernel
theorem dX11_fresh_10 : decode cX11_fresh 10 = .ok (.if_icmp .lt 17, 3) := by decide +kernel
theorem dX11_fresh_13 : decode cX11_fresh 13 = .ok (.iload_n 2, 1) := by decide +kernel
theorem dX11_fresh_14 : decode cX11_fresh 14 = .ok (.bipush 9, 2) := by decide +kernel
theorem dX11_fresh_16 : decode cX11_fresh 16 = .ok (.if_icmp .gt 11, 3) := by decide +kernel
theorem dX11_fresh_19 : decode cX11_fresh 19 = .ok (.iload_n 3, 1) := by decide +kernel
theorem dX11_fresh_20 : decode cX11_fresh 20 = .ok (.iconst 2, 1) := by decide +kernel
theorem dX11_fresh_21 : decode cX11_fresh 21 = .ok (.invokestatic 130, 3) := by decide +kernel
theorem dX11_fresh_24 : decode cX11_fresh 24 = .ok (.ifCond .ne 5, 3) := by decide +kernel
theorem dX11_fresh_27 : decode cX11_fresh 27 = .ok (.iconst (-1), 1) := by decide +kernel
theorem dX11_fresh_28 : decode cX11_fresh 28 = .ok (.ireturn, 1) := by decide +kernel
theorem dX11_fresh_29 : decode cX11_fresh 29 = .ok (.aload_n 0, 1) := by decide +kernel
theorem dX11_fresh_30 : decode cX11_fresh 30 = .ok (.getfield 19, 3) := by decide +kernel
theorem dX11_fresh_33 : decode cX11_fresh 33 = .ok (.getfield 108, 3) := by decide +kernel
theorem dX11_fresh_36 : decode cX11_fresh 36 = .ok (.invokevirtual 263, 3) := by decide +kernel
theorem dX11_fresh_39 : decode cX11_fresh 39 = .ok (.lconst 0, 1) := by decide +kernel
theorem dX11_fresh_40 : decode cX11_fresh 40 = .ok (.lcmp, 1) := by decide +kernel
theorem dX11_fresh_41 : decode cX11_fresh 41 = .ok (.ifCond .ne 6, 3) := by decide +kernel
theorem dX11_fresh_44 : decode cX11_fresh 44 = .ok (.bipush (-2), 2) := by decide +kernel
theorem dX11_fresh_46 : decode cX11_fresh 46 = .ok (.ireturn, 1) := by decide +kernel
theorem dX11_fresh_47 : decode cX11_fresh 47 = .ok (.aload_n 0, 1) := by decide +kernel
theorem dX11_fresh_48 : decode cX11_fresh 48 = .ok (.iload_n 1, 1) := by decide +kernel
theorem dX11_fresh_49 : decode cX11_fresh 49 = .ok (.iload_n 2, 1) := by decide +kernel
theorem dX11_fresh_50 : decode cX11_fresh 50 = .ok (.invokevirtual 241, 3) := by decide +kernel
theorem dX11_fresh_53 : decode cX11_fresh 53 = .ok (.aload_n 0, 1) := by decide +kernel
theorem dX11_fresh_54 : decode cX11_fresh 54 = .ok (.getfield 81, 3) := by decide +kernel
theorem dX11_fresh_57 : decode cX11_fresh 57 = .ok (.invokevirtual 248, 3) := by decide +kernel
theorem dX11_fresh_60 : decode cX11_fresh 60 = .ok (.aload_n 0, 1) := by decide +kernel
theorem dX11_fresh_61 : decode cX11_fresh 61 = .ok (.getfield 81, 3) := by decide +kernel
theorem dX11_fresh_64 : decode cX11_fresh 64 = .ok (.iload_n 3, 1) := by decide +kernel
theorem dX11_fresh_65 : decode cX11_fresh 65 = .ok (.invokevirtual 251, 3) := by decide +kernel
theorem dX11_fresh_68 : decode cX11_fresh 68 = .ok (.ireturn, 1) := by decide +kernel
theorem dX11_walk_0 : decode cX11_walk 0 = .ok (.aload_n 0, 1) := by decide +kernel
theorem dX11_walk_1 : decode cX11_walk 1 = .ok (.getfield 19, 3) := by decide +kernel
theorem dX11_walk_4 : decode cX11_walk 4 = .ok (.getfield 108, 3) := by decide +kernel
theorem dX11_walk_7 : decode cX11_walk 7 = .ok (.astore_n 3, 1) := by decide +kernel
theorem dX11_walk_8 : decode cX11_walk 8 = .ok (.iload_n 1, 1) := by decide +kernel
theorem dX11_walk_9 : decode cX11_walk 9 = .ok (.aload_n 3, 1) := by decide +kernel
theorem dX11_walk_10 : decode cX11_walk 10 = .ok (.getfield 118, 3) := by decide +kernel
theorem dX11_walk_13 : decode cX11_walk 13 = .ok (.invokestatic 130, 3) := by decide +kernel
theorem dX11_walk_16 : decode cX11_walk 16 = .ok (.ifCond .eq 16, 3) := by decide +kernel
theorem dX11_walk_19 : decode cX11_walk 19 = .ok (.iload_n 2, 1) := by decide +kernel
theorem dX11_walk_20 : decode cX11_walk 20 = .ok (.iconst 1, 1) := by decide +kernel
theorem dX11_walk_21 : decode cX11_walk 21 = .ok (.aload_n 3, 1) := by decide +kernel
theorem dX11_walk_22 : decode cX11_walk 22 = .ok (.getfield 118, 3) := by decide +kernel
theorem dX11_walk_25 : decode cX11_walk 25 = .ok (.ishl, 1) := by decide +kernel
theorem dX11_walk_26 : decode cX11_walk 26 = .ok (.invokestatic 130, 3) := by decide +kernel
theorem dX11_walk_29 : decode cX11_walk 29 = .ok (.ifCond .ne 5, 3) := by decide +kernel
theorem dX11_walk_32 : decode cX11_walk 32 = .ok (.iconst (-1), 1) := by decide +kernel
theorem dX11_walk_33 : decode cX11_walk 33 = .ok (.ireturn, 1) := by decide +kernel
theorem dX11_walk_34 : decode cX11_walk 34 = .ok (.aload_n 0, 1) := by decide +kernel
theorem dX11_walk_35 : decode cX11_walk 35 = .ok (.getfield 88, 3) := by decide +kernel
theorem dX11_walk_38 : decode cX11_walk 38 = .ok (.aload_n 3, 1) := by decide +kernel
theorem dX11_walk_39 : decode cX11_walk 39 = .ok (.iload_n 1, 1) := by decide +kernel
theorem dX11_walk_40 : decode cX11_walk 40 = .ok (.iload_n 2, 1) := by decide +kernel
theorem dX11_walk_41 : decode cX11_walk 41 = .ok (.invokevirtual 267, 3) := by decide +kernel
theorem dX11_walk_44 : decode cX11_walk 44 = .ok (.ireturn, 1) := by decide +kernel
theorem dX11_seed_0 : decode cX11_seed 0 = .ok (.iload_n 1, 1) := by decide +kernel
theorem dX11_seed_1 : decode cX11_seed 1 = .ok (.ifCond .ge 5, 3) := by decide +kernel
theorem dX11_seed_4 : decode cX11_seed 4 = .ok (.iconst (-1), 1) := by decide +kernel
theorem dX11_seed_5 : decode cX11_seed 5 = .ok (.ireturn, 1) := by decide +kernel
theorem dX11_seed_6 : decode cX11_seed 6 = .ok (.aload_n 0, 1) := by decide +kernel
theorem dX11_seed_7 : decode cX11_seed 7 = .ok (.getfield 19, 3) := by decide +kernel
theorem dX11_seed_10 : decode cX11_seed 10 = .ok (.getfield 271, 3) := by decide +kernel
theorem dX11_seed_13 : decode cX11_seed 13 = .ok (.istore_n 2, 1) := by decide +kernel
theorem dX11_seed_14 : decode cX11_seed 14 = .ok (.aload_n 0, 1) := by decide +kernel
theorem dX11_seed_15 : decode cX11_seed 15 = .ok (.getfield 19, 3) := by decide +kernel
theorem dX11_seed_18 : decode cX11_seed 18 = .ok (.iload_n 1, 1) := by decide +kernel
theorem dX11_seed_19 : decode cX11_seed 19 = .ok (.putfield 271, 3) := by decide +kernel
theorem dX11_seed_22 : decode cX11_seed 22 = .ok (.iload_n 2, 1) := by decide +kernel
theorem dX11_seed_23 : decode cX11_seed 23 = .ok (.ireturn, 1) := by decide +kernel
theorem dX11_drawn_0 : decode cX11_drawn 0 = .ok (.aload_n 0, 1) := by decide +kernel
theorem dX11_drawn_1 : decode cX11_drawn 1 = .ok (.iload_n 1, 1) := by decide +kernel
theorem dX11_drawn_2 : decode cX11_drawn 2 = .ok (.invokevirtual 187, 3) := by decide +kernel
theorem dX11_drawn_5 : decode cX11_drawn 5 = .ok (.ifCond .ne 5, 3) := by decide +kernel
theorem dX11_drawn_8 : decode cX11_drawn 8 = .ok (.iconst (-1), 1) := by decide +kernel
theorem dX11_drawn_9 : decode cX11_drawn 9 = .ok (.ireturn, 1) := by decide +kernel
theorem dX11_drawn_10 : decode cX11_drawn 10 = .ok (.aload_n 0, 1) := by decide +kernel
theorem dX11_drawn_11 : decode cX11_drawn 11 = .ok (.iload_n 1, 1) := by decide +kernel
theorem dX11_drawn_12 : decode cX11_drawn 12 = .ok (.invokevirtual 191, 3) := by decide +kernel
theorem dX11_drawn_15 : decode cX11_drawn 15 = .ok (.istore_n 2, 1) := by decide +kernel
theorem dX11_drawn_16 : decode cX11_drawn 16 = .ok (.iload_n 2, 1) := by decide +kernel
theorem dX11_drawn_17 : decode cX11_drawn 17 = .ok (.ifCond .ne 8, 3) := by decide +kernel
theorem dX11_drawn_20 : decode cX11_drawn 20 = .ok (.bipush (-2), 2) := by decide +kernel
theorem dX11_drawn_22 : decode cX11_drawn 22 = .ok (.goto 12, 3) := by decide +kernel
theorem dX11_drawn_25 : decode cX11_drawn 25 = .ok (.aload_n 0, 1) := by decide +kernel
theorem dX11_drawn_26 : decode cX11_drawn 26 = .ok (.getfield 19, 3) := by decide +kernel
theorem dX11_drawn_29 : decode cX11_drawn 29 = .ok (.invokevirtual 274, 3) := by decide +kernel
theorem dX11_drawn_32 : decode cX11_drawn 32 = .ok (.iload_n 2, 1) := by decide +kernel
theorem dX11_drawn_33 : decode cX11_drawn 33 = .ok (.irem, 1) := by decide +kernel
theorem dX11_drawn_34 : decode cX11_drawn 34 = .ok (.ireturn, 1) := by decide +kernel
theorem dX11_count_0 : decode cX11_count 0 = .ok (.aload_n 0, 1) := by decide +kernel
theorem dX11_count_1 : decode cX11_count 1 = .ok (.getfield 19, 3) := by decide +kernel
theorem dX11_count_4 : decode cX11_count 4 = .ok (.getfield 108, 3) := by decide +kernel
theorem dX11_count_7 : decode cX11_count 7 = .ok (.astore_n 2, 1) := by decide +kernel
theorem dX11_count_8 : decode cX11_count 8 = .ok (.iload_n 1, 1) := by decide +kernel
theorem dX11_count_9 : decode cX11_count 9 = .ok (.tableswitch 126 0 10 #[59, 64, 69, 74, 79, 84, 89, 97, 102, 110, 118], 59) := by decide +kernel
theorem dX11_count_68 : decode cX11_count 68 = .ok (.aload_n 2, 1) := by decide +kernel
theorem dX11_count_69 : decode cX11_count 69 = .ok (.getfield 218, 3) := by decide +kernel
theorem dX11_count_72 : decode cX11_count 72 = .ok (.ireturn, 1) := by decide +kernel
theorem dX11_count_73 : decode cX11_count 73 = .ok (.aload_n 2, 1) := by decide +kernel
theorem dX11_count_74 : decode cX11_count 74 = .ok (.getfield 215, 3) := by decide +kernel
theorem dX11_count_77 : decode cX11_count 77 = .ok (.ireturn, 1) := by decide +kernel
theorem dX11_count_78 : decode cX11_count 78 = .ok (.aload_n 2, 1) := by decide +kernel
theorem dX11_count_79 : decode cX11_count 79 = .ok (.getfield 118, 3) := by decide +kernel
theorem dX11_count_82 : decode cX11_count 82 = .ok (.ireturn, 1) := by decide +kernel
theorem dX11_count_83 : decode cX11_count 83 = .ok (.aload_n 2, 1) := by decide +kernel
theorem dX11_count_84 : decode cX11_count 84 = .ok (.getfield 134, 3) := by decide +kernel
theorem dX11_count_87 : decode cX11_count 87 = .ok (.ireturn, 1) := by decide +kernel
theorem dX11_count_88 : decode cX11_count 88 = .ok (.aload_n 2, 1) := by decide +kernel
theorem dX11_count_89 : decode cX11_count 89 = .ok (.getfield 137, 3) := by decide +kernel
theorem dX11_count_92 : decode cX11_count 92 = .ok (.ireturn, 1) := by decide +kernel
theorem dX11_count_93 : decode cX11_count 93 = .ok (.aload_n 2, 1) := by decide +kernel
theorem dX11_count_94 : decode cX11_count 94 = .ok (.getfield 277, 3) := by decide +kernel
theorem dX11_count_97 : decode cX11_count 97 = .ok (.ireturn, 1) := by decide +kernel
theorem dX11_count_98 : decode cX11_count 98 = .ok (.aload_n 0, 1) := by decide +kernel
theorem dX11_count_99 : decode cX11_count 99 = .ok (.getfield 19, 3) := by decide +kernel
theorem dX11_count_102 : decode cX11_count 102 = .ok (.getfield 115, 3) := by decide +kernel
theorem dX11_count_105 : decode cX11_count 105 = .ok (.ireturn, 1) := by decide +kernel
theorem dX11_count_106 : decode cX11_count 106 = .ok (.aload_n 0, 1) := by decide +kernel
theorem dX11_count_107 : decode cX11_count 107 = .ok (.getfield 121, 3) := by decide +kernel
theorem dX11_count_110 : decode cX11_count 110 = .ok (.ireturn, 1) := by decide +kernel
theorem dX11_count_111 : decode cX11_count 111 = .ok (.aload_n 0, 1) := by decide +kernel
theorem dX11_count_112 : decode cX11_count 112 = .ok (.getfield 19, 3) := by decide +kernel
theorem dX11_count_115 : decode cX11_count 115 = .ok (.getfield 127, 3) := by decide +kernel
theorem dX11_count_118 : decode cX11_count 118 = .ok (.ireturn, 1) := by decide +kernel
theorem dX11_count_119 : decode cX11_count 119 = .ok (.aload_n 0, 1) := by decide +kernel
theorem dX11_count_120 : decode cX11_count 120 = .ok (.getfield 19, 3) := by decide +kernel
theorem dX11_count_123 : decode cX11_count 123 = .ok (.getfield 271, 3) := by decide +kernel
theorem dX11_count_126 : decode cX11_count 126 = .ok (.ireturn, 1) := by decide +kernel
theorem dX11_count_127 : decode cX11_count 127 = .ok (.aload_n 0, 1) := by decide +kernel
theorem dX11_count_128 : decode cX11_count 128 = .ok (.getfield 10, 3) := by decide +kernel
theorem dX11_count_131 : decode cX11_count 131 = .ok (.getfield 97, 3) := by decide +kernel
theorem dX11_count_134 : decode cX11_count 134 = .ok (.ireturn, 1) := by decide +kernel
theorem dX11_count_135 : decode cX11_count 135 = .ok (.iconst (-1), 1) := by decide +kernel
theorem dX11_count_136 : decode cX11_count 136 = .ok (.ireturn, 1) := by decide +kernel
theorem dX11_image_0 : decode cX11_image 0 = .ok (.iload_n 1, 1) := by decide +kernel
theorem dX11_image_1 : decode cX11_image 1 = .ok (.iconst 4, 1) := by decide +kernel
theorem dX11_image_2 : decode cX11_image 2 = .ok (.invokestatic 130, 3) := by decide +kernel
theorem dX11_image_5 : decode cX11_image 5 = .ok (.ifCond .ne 5, 3) := by decide +kernel
theorem dX11_image_8 : decode cX11_image 8 = .ok (.iconst (-1), 1) := by decide +kernel
theorem dX11_image_9 : decode cX11_image 9 = .ok (.ireturn, 1) := by decide +kernel
theorem dX11_image_10 : decode cX11_image 10 = .ok (.aload_n 0, 1) := by decide +kernel
theorem dX11_image_11 : decode cX11_image 11 = .ok (.getfield 23, 3) := by decide +kernel
theorem dX11_image_14 : decode cX11_image 14 = .ok (.iload_n 1, 1) := by decide +kernel
theorem dX11_image_15 : decode cX11_image 15 = .ok (.aaload, 1) := by decide +kernel
theorem dX11_image_16 : decode cX11_image 16 = .ok (.aload_n 0, 1) := by decide +kernel
theorem dX11_image_17 : decode cX11_image 17 = .ok (.getfield 19, 3) := by decide +kernel
theorem dX11_image_20 : decode cX11_image 20 = .ok (.invokevirtual 280, 3) := by decide +kernel
theorem dX11_image_23 : decode cX11_image 23 = .ok (.aload_n 0, 1) := by decide +kernel
theorem dX11_image_24 : decode cX11_image 24 = .ok (.getfield 27, 3) := by decide +kernel
theorem dX11_image_27 : decode cX11_image 27 = .ok (.iload_n 1, 1) := by decide +kernel
theorem dX11_image_28 : decode cX11_image 28 = .ok (.iconst 1, 1) := by decide +kernel
theorem dX11_image_29 : decode cX11_image 29 = .ok (.bastore, 1) := by decide +kernel
theorem dX11_image_30 : decode cX11_image 30 = .ok (.aload_n 0, 1) := by decide +kernel
theorem dX11_image_31 : decode cX11_image 31 = .ok (.getfield 19, 3) := by decide +kernel
theorem dX11_image_34 : decode cX11_image 34 = .ok (.getfield 115, 3) := by decide +kernel
theorem dX11_image_37 : decode cX11_image 37 = .ok (.ireturn, 1) := by decide +kernel
theorem dX11_back_0 : decode cX11_back 0 = .ok (.iload_n 1, 1) := by decide +kernel
theorem dX11_back_1 : decode cX11_back 1 = .ok (.iconst 4, 1) := by decide +kernel
theorem dX11_back_2 : decode cX11_back 2 = .ok (.invokestatic 130, 3) := by decide +kernel
theorem dX11_back_5 : decode cX11_back 5 = .ok (.ifCond .eq 12, 3) := by decide +kernel
theorem dX11_back_8 : decode cX11_back 8 = .ok (.aload_n 0, 1) := by decide +kernel
theorem dX11_back_9 : decode cX11_back 9 = .ok (.getfield 27, 3) := by decide +kernel
theorem dX11_back_12 : decode cX11_back 12 = .ok (.iload_n 1, 1) := by decide +kernel
theorem dX11_back_13 : decode cX11_back 13 = .ok (.baload, 1) := by decide +kernel
theorem dX11_back_14 : decode cX11_back 14 = .ok (.ifCond .ne 5, 3) := by decide +kernel
theorem dX11_back_17 : decode cX11_back 17 = .ok (.iconst (-1), 1) := by decide +kernel
theorem dX11_back_18 : decode cX11_back 18 = .ok (.ireturn, 1) := by decide +kernel
theorem dX11_back_19 : decode cX11_back 19 = .ok (.aload_n 0, 1) := by decide +kernel
theorem dX11_back_20 : decode cX11_back 20 = .ok (.getfield 19, 3) := by decide +kernel
theorem dX11_back_23 : decode cX11_back 23 = .ok (.aload_n 0, 1) := by decide +kernel
theorem dX11_back_24 : decode cX11_back 24 = .ok (.getfield 23, 3) := by decide +kernel
theorem dX11_back_27 : decode cX11_back 27 = .ok (.iload_n 1, 1) := by decide +kernel
theorem dX11_back_28 : decode cX11_back 28 = .ok (.aaload, 1) := by decide +kernel
theorem dX11_back_29 : decode cX11_back 29 = .ok (.invokevirtual 280, 3) := by decide +kernel
theorem dX11_back_32 : decode cX11_back 32 = .ok (.aload_n 0, 1) := by decide +kernel
theorem dX11_back_33 : decode cX11_back 33 = .ok (.dup, 1) := by decide +kernel
theorem dX11_back_34 : decode cX11_back 34 = .ok (.getfield 92, 3) := by decide +kernel
theorem dX11_back_37 : decode cX11_back 37 = .ok (.iconst 1, 1) := by decide +kernel
theorem dX11_back_38 : decode cX11_back 38 = .ok (.iadd, 1) := by decide +kernel
theorem dX11_back_39 : decode cX11_back 39 = .ok (.putfield 92, 3) := by decide +kernel
theorem dX11_back_42 : decode cX11_back 42 = .ok (.aload_n 0, 1) := by decide +kernel
theorem dX11_back_43 : decode cX11_back 43 = .ok (.getfield 19, 3) := by decide +kernel
theorem dX11_back_46 : decode cX11_back 46 = .ok (.getfield 115, 3) := by decide +kernel
theorem dX11_back_49 : decode cX11_back 49 = .ok (.ireturn, 1) := by decide +kernel
theorem dX11_within_0 : decode cX11_within 0 = .ok (.iload_n 0, 1) := by decide +kernel
theorem dX11_within_1 : decode cX11_within 1 = .ok (.ifCond .lt 12, 3) := by decide +kernel
theorem dX11_within_4 : decode cX11_within 4 = .ok (.iload_n 0, 1) := by decide +kernel
theorem dX11_within_5 : decode cX11_within 5 = .ok (.iload_n 1, 1) := by decide +kernel
theorem dX11_within_6 : decode cX11_within 6 = .ok (.if_icmp .ge 7, 3) := by decide +kernel
theorem dX11_within_9 : decode cX11_within 9 = .ok (.iconst 1, 1) := by decide +kernel
theorem dX11_within_10 : decode cX11_within 10 = .ok (.goto 4, 3) := by decide +kernel
theorem dX11_within_13 : decode cX11_within 13 = .ok (.iconst 0, 1) := by decide +kernel
theorem dX11_within_14 : decode cX11_within 14 = .ok (.ireturn, 1) := by decide +kernel
theorem dX11_known_0 : decode cX11_known 0 = .ok (.aload_n 0, 1) := by decide +kernel
theorem dX11_known_1 : decode cX11_known 1 = .ok (.getfield 19, 3) := by decide +kernel
theorem dX11_known_4 : decode cX11_known 4 = .ok (.getfield 108, 3) := by decide +kernel
theorem dX11_known_7 : decode cX11_known 7 = .ok (.invokevirtual 176, 3) := by decide +kernel
theorem dX11_known_10 : decode cX11_known 10 = .ok (.ifCond .eq 23, 3) := by decide +kernel
theorem dX11_known_13 : decode cX11_known 13 = .ok (.iload_n 1, 1) := by decide +kernel
theorem dX11_known_14 : decode cX11_known 14 = .ok (.iconst 1, 1) := by decide +kernel
theorem dX11_known_15 : decode cX11_known 15 = .ok (.aload_n 0, 1) := by decide +kernel
theorem dX11_known_16 : decode cX11_known 16 = .ok (.getfield 19, 3) := by decide +kernel
theorem dX11_known_19 : decode cX11_known 19 = .ok (.getfield 115, 3) := by decide +kernel
theorem dX11_known_22 : decode cX11_known 22 = .ok (.ishl, 1) := by decide +kernel
theorem dX11_known_23 : decode cX11_known 23 = .ok (.invokestatic 130, 3) := by decide +kernel
theorem dX11_known_26 : decode cX11_known 26 = .ok (.ifCond .eq 7, 3) := by decide +kernel
theorem dX11_known_29 : decode cX11_known 29 = .ok (.iconst 1, 1) := by decide +kernel
theorem dX11_known_30 : decode cX11_known 30 = .ok (.goto 4, 3) := by decide +kernel
theorem dX11_known_33 : decode cX11_known 33 = .ok (.iconst 0, 1) := by decide +kernel
theorem dX11_known_34 : decode cX11_known 34 = .ok (.ireturn, 1) := by decide +kernel
theorem dX11_prepare_0 : decode cX11_prepare 0 = .ok (.aload_n 0, 1) := by decide +kernel
theorem dX11_prepare_1 : decode cX11_prepare 1 = .ok (.getfield 282, 3) := by decide +kernel
theorem dX11_prepare_4 : decode cX11_prepare 4 = .ok (.aload_n 0, 1) := by decide +kernel
theorem dX11_prepare_5 : decode cX11_prepare 5 = .ok (.getfield 92, 3) := by decide +kernel
theorem dX11_prepare_8 : decode cX11_prepare 8 = .ok (.if_icmp .eq 44, 3) := by decide +kernel
theorem dX11_prepare_11 : decode cX11_prepare 11 = .ok (.aload_n 0, 1) := by decide +kernel
theorem dX11_prepare_12 : decode cX11_prepare 12 = .ok (.getfield 67, 3) := by decide +kernel
theorem dX11_prepare_15 : decode cX11_prepare 15 = .ok (.aload_n 0, 1) := by decide +kernel
theorem dX11_prepare_16 : decode cX11_prepare 16 = .ok (.getfield 19, 3) := by decide +kernel
theorem dX11_prepare_19 : decode cX11_prepare 19 = .ok (.getfield 127, 3) := by decide +kernel
theorem dX11_prepare_22 : decode cX11_prepare 22 = .ok (.ifCond .ge 7, 3) := by decide +kernel
theorem dX11_prepare_25 : decode cX11_prepare 25 = .ok (.aconst_null, 1) := by decide +kernel
theorem dX11_prepare_26 : decode cX11_prepare 26 = .ok (.goto 15, 3) := by decide +kernel
theorem dX11_prepare_29 : decode cX11_prepare 29 = .ok (.aload_n 0, 1) := by decide +kernel
theorem dX11_prepare_30 : decode cX11_prepare 30 = .ok (.getfield 33, 3) := by decide +kernel
theorem dX11_prepare_33 : decode cX11_prepare 33 = .ok (.aload_n 0, 1) := by decide +kernel
theorem dX11_prepare_34 : decode cX11_prepare 34 = .ok (.getfield 19, 3) := by decide +kernel
theorem dX11_prepare_37 : decode cX11_prepare 37 = .ok (.getfield 127, 3) := by decide +kernel
theorem dX11_prepare_40 : decode cX11_prepare 40 = .ok (.aaload, 1) := by decide +kernel
theorem dX11_prepare_41 : decode cX11_prepare 41 = .ok (.invokevirtual 285, 3) := by decide +kernel
theorem dX11_prepare_44 : decode cX11_prepare 44 = .ok (.aload_n 0, 1) := by decide +kernel
theorem dX11_prepare_45 : decode cX11_prepare 45 = .ok (.aload_n 0, 1) := by decide +kernel
theorem dX11_prepare_46 : decode cX11_prepare 46 = .ok (.getfield 92, 3) := by decide +kernel
theorem dX11_prepare_49 : decode cX11_prepare 49 = .ok (.putfield 282, 3) := by decide +kernel
theorem dX11_prepare_52 : decode cX11_prepare 52 = .ok (.return_, 1) := by decide +kernel
theorem dX11_howMany_0 : decode cX11_howMany 0 = .ok (.aload_n 0, 1) := by decide +kernel
theorem dX11_howMany_1 : decode cX11_howMany 1 = .ok (.invokevirtual 164, 3) := by decide +kernel
theorem dX11_howMany_4 : decode cX11_howMany 4 = .ok (.aload_n 0, 1) := by decide +kernel
theorem dX11_howMany_5 : decode cX11_howMany 5 = .ok (.getfield 67, 3) := by decide +kernel
theorem dX11_howMany_8 : decode cX11_howMany 8 = .ok (.iload_n 1, 1) := by decide +kernel
theorem dX11_howMany_9 : decode cX11_howMany 9 = .ok (.invokevirtual 288, 3) := by decide +kernel
theorem dX11_howMany_12 : decode cX11_howMany 12 = .ok (.ireturn, 1) := by decide +kernel
theorem dX11_countAllSets_0 : decode cX11_countAllSets 0 = .ok (.aload_n 0, 1) := by decide +kernel
theorem dX11_countAllSets_1 : decode cX11_countAllSets 1 = .ok (.invokevirtual 164, 3) := by decide +kernel
theorem dX11_countAllSets_4 : decode cX11_countAllSets 4 = .ok (.aload_n 0, 1) := by decide +kernel
theorem dX11_countAllSets_5 : decode cX11_countAllSets 5 = .ok (.getfield 74, 3) := by decide +kernel
theorem dX11_countAllSets_8 : decode cX11_countAllSets 8 = .ok (.aload_n 0, 1) := by decide +kernel
theorem dX11_countAllSets_9 : decode cX11_countAllSets 9 = .ok (.getfield 67, 3) := by decide +kernel
theorem dX11_countAllSets_12 : decode cX11_countAllSets 12 = .ok (.aload_n 0, 1) := by decide +kernel
theorem dX11_countAllSets_13 : decode cX11_countAllSets 13 = .ok (.getfield 19, 3) := by decide +kernel
theorem dX11_countAllSets_16 : decode cX11_countAllSets 16 = .ok (.aload_n 0, 1) := by decide +kernel
theorem dX11_countAllSets_17 : decode cX11_countAllSets 17 = .ok (.getfield 92, 3) := by decide +kernel
theorem dX11_countAllSets_20 : decode cX11_countAllSets 20 = .ok (.invokevirtual 291, 3) := by decide +kernel
theorem dX11_countAllSets_23 : decode cX11_countAllSets 23 = .ok (.return_, 1) := by decide +kernel
theorem dX11_lookFrom_0 : decode cX11_lookFrom 0 = .ok (.aload_n 0, 1) := by decide +kernel
theorem dX11_lookFrom_1 : decode cX11_lookFrom 1 = .ok (.invokevirtual 164, 3) := by decide +kernel
theorem dX11_lookFrom_4 : decode cX11_lookFrom 4 = .ok (.aload_n 0, 1) := by decide +kernel
theorem dX11_lookFrom_5 : decode cX11_lookFrom 5 = .ok (.getfield 81, 3) := by decide +kernel
theorem dX11_lookFrom_8 : decode cX11_lookFrom 8 = .ok (.aload_n 0, 1) := by decide +kernel
theorem dX11_lookFrom_9 : decode cX11_lookFrom 9 = .ok (.getfield 67, 3) := by decide +kernel
theorem dX11_lookFrom_12 : decode cX11_lookFrom 12 = .ok (.aload_n 0, 1) := by decide +kernel
theorem dX11_lookFrom_13 : decode cX11_lookFrom 13 = .ok (.getfield 19, 3) := by decide +kernel
theorem dX11_lookFrom_16 : decode cX11_lookFrom 16 = .ok (.getfield 108, 3) := by decide +kernel
theorem dX11_lookFrom_19 : decode cX11_lookFrom 19 = .ok (.iload_n 1, 1) := by decide +kernel
theorem dX11_lookFrom_20 : decode cX11_lookFrom 20 = .ok (.iload_n 2, 1) := by decide +kernel
theorem dX11_lookFrom_21 : decode cX11_lookFrom 21 = .ok (.aload_n 0, 1) := by decide +kernel
theorem dX11_lookFrom_22 : decode cX11_lookFrom 22 = .ok (.getfield 92, 3) := by decide +kernel
theorem dX11_lookFrom_25 : decode cX11_lookFrom 25 = .ok (.invokevirtual 295, 3) := by decide +kernel
theorem dX11_lookFrom_28 : decode cX11_lookFrom 28 = .ok (.return_, 1) := by decide +kernel
theorem dX11_lookFromTwo_0 : decode cX11_lookFromTwo 0 = .ok (.aload_n 0, 1) := by decide +kernel
theorem dX11_lookFromTwo_1 : decode cX11_lookFromTwo 1 = .ok (.invokevirtual 164, 3) := by decide +kernel
theorem dX11_lookFromTwo_4 : decode cX11_lookFromTwo 4 = .ok (.aload_n 0, 1) := by decide +kernel
theorem dX11_lookFromTwo_5 : decode cX11_lookFromTwo 5 = .ok (.getfield 81, 3) := by decide +kernel
theorem dX11_lookFromTwo_8 : decode cX11_lookFromTwo 8 = .ok (.aload_n 0, 1) := by decide +kernel
theorem dX11_lookFromTwo_9 : decode cX11_lookFromTwo 9 = .ok (.getfield 67, 3) := by decide +kernel
theorem dX11_lookFromTwo_12 : decode cX11_lookFromTwo 12 = .ok (.aload_n 0, 1) := by decide +kernel
theorem dX11_lookFromTwo_13 : decode cX11_lookFromTwo 13 = .ok (.getfield 19, 3) := by decide +kernel
theorem dX11_lookFromTwo_16 : decode cX11_lookFromTwo 16 = .ok (.getfield 108, 3) := by decide +kernel
theorem dX11_lookFromTwo_19 : decode cX11_lookFromTwo 19 = .ok (.iload_n 1, 1) := by decide +kernel
theorem dX11_lookFromTwo_20 : decode cX11_lookFromTwo 20 = .ok (.aload_n 0, 1) := by decide +kernel
theorem dX11_lookFromTwo_21 : decode cX11_lookFromTwo 21 = .ok (.getfield 92, 3) := by decide +kernel
theorem dX11_lookFromTwo_24 : decode cX11_lookFromTwo 24 = .ok (.invokevirtual 299, 3) := by decide +kernel
theorem dX11_lookFromTwo_27 : decode cX11_lookFromTwo 27 = .ok (.return_, 1) := by decide +kernel
theorem dX11_commonDivisor_0 : decode cX11_commonDivisor 0 = .ok (.iload_n 0, 1) := by decide +kernel
theorem dX11_commonDivisor_1 : decode cX11_commonDivisor 1 = .ok (.istore_n 2, 1) := by decide +kernel
theorem dX11_commonDivisor_2 : decode cX11_commonDivisor 2 = .ok (.iload_n 1, 1) := by decide +kernel
theorem dX11_commonDivisor_3 : decode cX11_commonDivisor 3 = .ok (.istore_n 3, 1) := by decide +kernel
theorem dX11_commonDivisor_4 : decode cX11_commonDivisor 4 = .ok (.iconst 0, 1) := by decide +kernel
theorem dX11_commonDivisor_5 : decode cX11_commonDivisor 5 = .ok (.istore 4, 2) := by decide +kernel
theorem dX11_commonDivisor_7 : decode cX11_commonDivisor 7 = .ok (.iload 4, 2) := by decide +kernel
theorem dX11_commonDivisor_9 : decode cX11_commonDivisor 9 = .ok (.bipush 64, 2) := by decide +kernel
theorem dX11_commonDivisor_11 : decode cX11_commonDivisor 11 = .ok (.if_icmp .ge 23, 3) := by decide +kernel
theorem dX11_commonDivisor_14 : decode cX11_commonDivisor 14 = .ok (.iload_n 3, 1) := by decide +kernel
theorem dX11_commonDivisor_15 : decode cX11_commonDivisor 15 = .ok (.ifCond .eq 19, 3) := by decide +kernel
theorem dX11_commonDivisor_18 : decode cX11_commonDivisor 18 = .ok (.iload_n 2, 1) := by decide +kernel
theorem dX11_commonDivisor_19 : decode cX11_commonDivisor 19 = .ok (.iload_n 3, 1) := by decide +kernel
theorem dX11_commonDivisor_20 : decode cX11_commonDivisor 20 = .ok (.irem, 1) := by decide +kernel
theorem dX11_commonDivisor_21 : decode cX11_commonDivisor 21 = .ok (.istore 5, 2) := by decide +kernel
theorem dX11_commonDivisor_23 : decode cX11_commonDivisor 23 = .ok (.iload_n 3, 1) := by decide +kernel
theorem dX11_commonDivisor_24 : decode cX11_commonDivisor 24 = .ok (.istore_n 2, 1) := by decide +kernel
theorem dX11_commonDivisor_25 : decode cX11_commonDivisor 25 = .ok (.iload 5, 2) := by decide +kernel
theorem dX11_commonDivisor_27 : decode cX11_commonDivisor 27 = .ok (.istore_n 3, 1) := by decide +kernel
theorem dX11_commonDivisor_28 : decode cX11_commonDivisor 28 = .ok (.iinc 4 1, 3) := by decide +kernel
theorem dX11_commonDivisor_31 : decode cX11_commonDivisor 31 = .ok (.goto (-24), 3) := by decide +kernel
theorem dX11_commonDivisor_34 : decode cX11_commonDivisor 34 = .ok (.iload_n 2, 1) := by decide +kernel
theorem dX11_commonDivisor_35 : decode cX11_commonDivisor 35 = .ok (.ireturn, 1) := by decide +kernel
theorem dX12_init_0 : decode cX12_init 0 = .ok (.aload_n 0, 1) := by decide +kernel
theorem dX12_init_1 : decode cX12_init 1 = .ok (.invokespecial 1, 3) := by decide +kernel
theorem dX12_init_4 : decode cX12_init 4 = .ok (.aload_n 0, 1) := by decide +kernel
theorem dX12_init_5 : decode cX12_init 5 = .ok (.bipush 8, 2) := by decide +kernel
theorem dX12_init_7 : decode cX12_init 7 = .ok (.newarray .int, 2) := by decide +kernel
theorem dX12_init_9 : decode cX12_init 9 = .ok (.putfield 7, 3) := by decide +kernel
theorem dX12_init_12 : decode cX12_init 12 = .ok (.aload_n 0, 1) := by decide +kernel
theorem dX12_init_13 : decode cX12_init 13 = .ok (.bipush 36, 2) := by decide +kernel
theorem dX12_init_15 : decode cX12_init 15 = .ok (.newarray .int, 2) := by decide +kernel
theorem dX12_init_17 : decode cX12_init 17 = .ok (.putfield 13, 3) := by decide +kernel
theorem dX12_init_20 : decode cX12_init 20 = .ok (.aload_n 0, 1) := by decide +kernel
theorem dX12_init_21 : decode cX12_init 21 = .ok (.bipush 8, 2) := by decide +kernel
theorem dX12_init_23 : decode cX12_init 23 = .ok (.newarray .int, 2) := by decide +kernel
theorem dX12_init_25 : decode cX12_init 25 = .ok (.putfield 16, 3) := by decide +kernel
theorem dX12_init_28 : decode cX12_init 28 = .ok (.aload_n 0, 1) := by decide +kernel
theorem dX12_init_29 : decode cX12_init 29 = .ok (.bipush 8, 2) := by decide +kernel
theorem dX12_init_31 : decode cX12_init 31 = .ok (.newarray .int, 2) := by decide +kernel
theorem dX12_init_33 : decode cX12_init 33 = .ok (.putfield 19, 3) := by decide +kernel
theorem dX12_init_36 : decode cX12_init 36 = .ok (.aload_n 0, 1) := by decide +kernel
theorem dX12_init_37 : decode cX12_init 37 = .ok (.bipush 6, 2) := by decide +kernel
theorem dX12_init_39 : decode cX12_init 39 = .ok (.newarray .int, 2) := by decide +kernel
theorem dX12_init_41 : decode cX12_init 41 = .ok (.putfield 22, 3) := by decide +kernel
theorem dX12_init_44 : decode cX12_init 44 = .ok (.aload_n 0, 1) := by decide +kernel
theorem dX12_init_45 : decode cX12_init 45 = .ok (.bipush 6, 2) := by decide +kernel
theorem dX12_init_47 : decode cX12_init 47 = .ok (.newarray .int, 2) := by decide +kernel
theorem dX12_init_49 : decode cX12_init 49 = .ok (.putfield 25, 3) := by decide +kernel
theorem dX12_init_52 : decode cX12_init 52 = .ok (.aload_n 0, 1) := by decide +kernel
theorem dX12_init_53 : decode cX12_init 53 = .ok (.iconst 4, 1) := by decide +kernel
theorem dX12_init_54 : decode cX12_init 54 = .ok (.newarray .int, 2) := by decide +kernel
theorem dX12_init_56 : decode cX12_init 56 = .ok (.putfield 28, 3) := by decide +kernel
theorem dX12_init_59 : decode cX12_init 59 = .ok (.aload_n 0, 1) := by decide +kernel
theorem dX12_init_60 : decode cX12_init 60 = .ok (.bipush 10, 2) := by decide +kernel
theorem dX12_init_62 : decode cX12_init 62 = .ok (.newarray .int, 2) := by decide +kernel
theorem dX12_init_64 : decode cX12_init 64 = .ok (.putfield 31, 3) := by decide +kernel
theorem dX12_init_67 : decode cX12_init 67 = .ok (.aload_n 0, 1) := by decide +kernel
theorem dX12_init_68 : decode cX12_init 68 = .ok (.bipush 10, 2) := by decide +kernel
theorem dX12_init_70 : decode cX12_init 70 = .ok (.newarray .int, 2) := by decide +kernel
theorem dX12_init_72 : decode cX12_init 72 = .ok (.putfield 34, 3) := by decide +kernel
theorem dX12_init_75 : decode cX12_init 75 = .ok (.aload_n 0, 1) := by decide +kernel
theorem dX12_init_76 : decode cX12_init 76 = .ok (.bipush 10, 2) := by decide +kernel
theorem dX12_init_78 : decode cX12_init 78 = .ok (.newarray .int, 2) := by decide +kernel
theorem dX12_init_80 : decode cX12_init 80 = .ok (.putfield 37, 3) := by decide +kernel
theorem dX12_init_83 : decode cX12_init 83 = .ok (.aload_n 0, 1) := by decide +kernel
theorem dX12_init_84 : decode cX12_init 84 = .ok (.bipush 10, 2) := by decide +kernel
theorem dX12_init_86 : decode cX12_init 86 = .ok (.newarray .int, 2) := by decide +kernel
theorem dX12_init_88 : decode cX12_init 88 = .ok (.putfield 40, 3) := by decide +kernel
theorem dX12_init_91 : decode cX12_init 91 = .ok (.aload_n 0, 1) := by decide +kernel
theorem dX12_init_92 : decode cX12_init 92 = .ok (.bipush 10, 2) := by decide +kernel
theorem dX12_init_94 : decode cX12_init 94 = .ok (.newarray .int, 2) := by decide +kernel
theorem dX12_init_96 : decode cX12_init 96 = .ok (.putfield 43, 3) := by decide +kernel
theorem dX12_init_99 : decode cX12_init 99 = .ok (.aload_n 0, 1) := by decide +kernel
theorem dX12_init_100 : decode cX12_init 100 = .ok (.iconst 5, 1) := by decide +kernel
theorem dX12_init_101 : decode cX12_init 101 = .ok (.newarray .int, 2) := by decide +kernel
theorem dX12_init_103 : decode cX12_init 103 = .ok (.putfield 46, 3) := by decide +kernel
theorem dX12_init_106 : decode cX12_init 106 = .ok (.aload_n 0, 1) := by decide +kernel
theorem dX12_init_107 : decode cX12_init 107 = .ok (.bipush 36, 2) := by decide +kernel
theorem dX12_init_109 : decode cX12_init 109 = .ok (.newarray .int, 2) := by decide +kernel
theorem dX12_init_111 : decode cX12_init 111 = .ok (.putfield 49, 3) := by decide +kernel
theorem dX12_init_114 : decode cX12_init 114 = .ok (.aload_n 0, 1) := by decide +kernel
theorem dX12_init_115 : decode cX12_init 115 = .ok (.bipush 8, 2) := by decide +kernel
theorem dX12_init_117 : decode cX12_init 117 = .ok (.newarray .int, 2) := by decide +kernel
theorem dX12_init_119 : decode cX12_init 119 = .ok (.putfield 52, 3) := by decide +kernel
theorem dX12_init_122 : decode cX12_init 122 = .ok (.aload_n 0, 1) := by decide +kernel
theorem dX12_init_123 : decode cX12_init 123 = .ok (.bipush 8, 2) := by decide +kernel
theorem dX12_init_125 : decode cX12_init 125 = .ok (.newarray .int, 2) := by decide +kernel
theorem dX12_init_127 : decode cX12_init 127 = .ok (.putfield 55, 3) := by decide +kernel
theorem dX12_init_130 : decode cX12_init 130 = .ok (.aload_n 0, 1) := by decide +kernel
theorem dX12_init_131 : decode cX12_init 131 = .ok (.bipush 6, 2) := by decide +kernel
theorem dX12_init_133 : decode cX12_init 133 = .ok (.newarray .int, 2) := by decide +kernel
theorem dX12_init_135 : decode cX12_init 135 = .ok (.putfield 58, 3) := by decide +kernel
theorem dX12_init_138 : decode cX12_init 138 = .ok (.aload_n 0, 1) := by decide +kernel
theorem dX12_init_139 : decode cX12_init 139 = .ok (.bipush 6, 2) := by decide +kernel
theorem dX12_init_141 : decode cX12_init 141 = .ok (.newarray .int, 2) := by decide +kernel
theorem dX12_init_143 : decode cX12_init 143 = .ok (.putfield 61, 3) := by decide +kernel
theorem dX12_init_146 : decode cX12_init 146 = .ok (.aload_n 0, 1) := by decide +kernel
theorem dX12_init_147 : decode cX12_init 147 = .ok (.iconst 4, 1) := by decide +kernel
theorem dX12_init_148 : decode cX12_init 148 = .ok (.newarray .int, 2) := by decide +kernel
theorem dX12_init_150 : decode cX12_init 150 = .ok (.putfield 64, 3) := by decide +kernel
theorem dX12_init_153 : decode cX12_init 153 = .ok (.aload_n 0, 1) := by decide +kernel
theorem dX12_init_154 : decode cX12_init 154 = .ok (.bipush 7, 2) := by decide +kernel
theorem dX12_init_156 : decode cX12_init 156 = .ok (.putfield 67, 3) := by decide +kernel
theorem dX12_init_159 : decode cX12_init 159 = .ok (.aload_n 0, 1) := by decide +kernel
theorem dX12_init_160 : decode cX12_init 160 = .ok (.sipush 400, 3) := by decide +kernel
theorem dX12_init_163 : decode cX12_init 163 = .ok (.newarray .byte, 2) := by decide +kernel
theorem dX12_init_165 : decode cX12_init 165 = .ok (.putfield 71, 3) := by decide +kernel
theorem dX12_init_168 : decode cX12_init 168 = .ok (.aload_n 0, 1) := by decide +kernel
theorem dX12_init_169 : decode cX12_init 169 = .ok (.sipush 1200, 3) := by decide +kernel
theorem dX12_init_172 : decode cX12_init 172 = .ok (.newarray .int, 2) := by decide +kernel
theorem dX12_init_174 : decode cX12_init 174 = .ok (.putfield 75, 3) := by decide +kernel
theorem dX12_init_177 : decode cX12_init 177 = .ok (.aload_n 0, 1) := by decide +kernel
theorem dX12_init_178 : decode cX12_init 178 = .ok (.sipush 1200, 3) := by decide +kernel
theorem dX12_init_181 : decode cX12_init 181 = .ok (.newarray .int, 2) := by decide +kernel
theorem dX12_init_183 : decode cX12_init 183 = .ok (.putfield 78, 3) := by decide +kernel
theorem dX12_init_186 : decode cX12_init 186 = .ok (.aload_n 0, 1) := by decide +kernel
theorem dX12_init_187 : decode cX12_init 187 = .ok (.iconst 4, 1) := by decide +kernel
theorem dX12_init_188 : decode cX12_init 188 = .ok (.newarray .int, 2) := by decide +kernel
theorem dX12_init_190 : decode cX12_init 190 = .ok (.putfield 81, 3) := by decide +kernel
theorem dX12_init_193 : decode cX12_init 193 = .ok (.aload_n 0, 1) := by decide +kernel
theorem dX12_init_194 : decode cX12_init 194 = .ok (.bipush 48, 2) := by decide +kernel
theorem dX12_init_196 : decode cX12_init 196 = .ok (.newarray .int, 2) := by decide +kernel
theorem dX12_init_198 : decode cX12_init 198 = .ok (.putfield 84, 3) := by decide +kernel
theorem dX12_init_201 : decode cX12_init 201 = .ok (.aload_n 0, 1) := by decide +kernel
theorem dX12_init_202 : decode cX12_init 202 = .ok (.bipush 48, 2) := by decide +kernel
theorem dX12_init_204 : decode cX12_init 204 = .ok (.newarray .int, 2) := by decide +kernel
theorem dX12_init_206 : decode cX12_init 206 = .ok (.putfield 87, 3) := by decide +kernel
theorem dX12_init_209 : decode cX12_init 209 = .ok (.aload_n 0, 1) := by decide +kernel
theorem dX12_init_210 : decode cX12_init 210 = .ok (.bipush 48, 2) := by decide +kernel
theorem dX12_init_212 : decode cX12_init 212 = .ok (.newarray .int, 2) := by decide +kernel
theorem dX12_init_214 : decode cX12_init 214 = .ok (.putfield 90, 3) := by decide +kernel
theorem dX12_init_217 : decode cX12_init 217 = .ok (.aload_n 0, 1) := by decide +kernel
theorem dX12_init_218 : decode cX12_init 218 = .ok (.bipush 48, 2) := by decide +kernel
theorem dX12_init_220 : decode cX12_init 220 = .ok (.newarray .int, 2) := by decide +kernel
theorem dX12_init_222 : decode cX12_init 222 = .ok (.putfield 93, 3) := by decide +kernel
theorem dX12_init_225 : decode cX12_init 225 = .ok (.aload_n 0, 1) := by decide +kernel
theorem dX12_init_226 : decode cX12_init 226 = .ok (.bipush 48, 2) := by decide +kernel
theorem dX12_init_228 : decode cX12_init 228 = .ok (.newarray .int, 2) := by decide +kernel
theorem dX12_init_230 : decode cX12_init 230 = .ok (.putfield 96, 3) := by decide +kernel
theorem dX12_init_233 : decode cX12_init 233 = .ok (.aload_n 0, 1) := by decide +kernel
theorem dX12_init_234 : decode cX12_init 234 = .ok (.sipush 402, 3) := by decide +kernel
theorem dX12_init_237 : decode cX12_init 237 = .ok (.newarray .int, 2) := by decide +kernel
theorem dX12_init_239 : decode cX12_init 239 = .ok (.putfield 99, 3) := by decide +kernel
theorem dX12_init_242 : decode cX12_init 242 = .ok (.aload_n 0, 1) := by decide +kernel
theorem dX12_init_243 : decode cX12_init 243 = .ok (.bipush 7, 2) := by decide +kernel
theorem dX12_init_245 : decode cX12_init 245 = .ok (.newarray .long, 2) := by decide +kernel
theorem dX12_init_247 : decode cX12_init 247 = .ok (.putfield 102, 3) := by decide +kernel
theorem dX12_init_250 : decode cX12_init 250 = .ok (.aload_n 0, 1) := by decide +kernel
theorem dX12_init_251 : decode cX12_init 251 = .ok (.sipush 300, 3) := by decide +kernel
theorem dX12_init_254 : decode cX12_init 254 = .ok (.newarray .long, 2) := by decide +kernel
theorem dX12_init_256 : decode cX12_init 256 = .ok (.putfield 106, 3) := by decide +kernel
theorem dX12_init_259 : decode cX12_init 259 = .ok (.aload_n 0, 1) := by decide +kernel
theorem dX12_init_260 : decode cX12_init 260 = .ok (.iconst 4, 1) := by decide +kernel
theorem dX12_init_261 : decode cX12_init 261 = .ok (.newarray .int, 2) := by decide +kernel
theorem dX12_init_263 : decode cX12_init 263 = .ok (.putfield 109, 3) := by decide +kernel
theorem dX12_init_266 : decode cX12_init 266 = .ok (.aload_n 0, 1) := by decide +kernel
theorem dX12_init_267 : decode cX12_init 267 = .ok (.iconst 4, 1) := by decide +kernel
theorem dX12_init_268 : decode cX12_init 268 = .ok (.newarray .int, 2) := by decide +kernel
theorem dX12_init_270 : decode cX12_init 270 = .ok (.putfield 112, 3) := by decide +kernel
theorem dX12_init_273 : decode cX12_init 273 = .ok (.aload_n 0, 1) := by decide +kernel
theorem dX12_init_274 : decode cX12_init 274 = .ok (.bipush 16, 2) := by decide +kernel
theorem dX12_init_276 : decode cX12_init 276 = .ok (.newarray .int, 2) := by decide +kernel
theorem dX12_init_278 : decode cX12_init 278 = .ok (.putfield 115, 3) := by decide +kernel
theorem dX12_init_281 : decode cX12_init 281 = .ok (.aload_n 0, 1) := by decide +kernel
theorem dX12_init_282 : decode cX12_init 282 = .ok (.iconst 4, 1) := by decide +kernel
theorem dX12_init_283 : decode cX12_init 283 = .ok (.newarray .long, 2) := by decide +kernel
theorem dX12_init_285 : decode cX12_init 285 = .ok (.putfield 118, 3) := by decide +kernel
theorem dX12_init_288 : decode cX12_init 288 = .ok (.aload_n 0, 1) := by decide +kernel
theorem dX12_init_289 : decode cX12_init 289 = .ok (.bipush 10, 2) := by decide +kernel
theorem dX12_init_291 : decode cX12_init 291 = .ok (.newarray .long, 2) := by decide +kernel
theorem dX12_init_293 : decode cX12_init 293 = .ok (.putfield 121, 3) := by decide +kernel
theorem dX12_init_296 : decode cX12_init 296 = .ok (.aload_n 0, 1) := by decide +kernel
theorem dX12_init_297 : decode cX12_init 297 = .ok (.bipush 36, 2) := by decide +kernel
theorem dX12_init_299 : decode cX12_init 299 = .ok (.newarray .long, 2) := by decide +kernel
theorem dX12_init_301 : decode cX12_init 301 = .ok (.putfield 124, 3) := by decide +kernel
theorem dX12_init_304 : decode cX12_init 304 = .ok (.aload_n 0, 1) := by decide +kernel
theorem dX12_init_305 : decode cX12_init 305 = .ok (.sipush 1024, 3) := by decide +kernel
theorem dX12_init_308 : decode cX12_init 308 = .ok (.newarray .int, 2) := by decide +kernel
theorem dX12_init_310 : decode cX12_init 310 = .ok (.putfield 127, 3) := by decide +kernel
theorem dX12_init_313 : decode cX12_init 313 = .ok (.aload_n 0, 1) := by decide +kernel
theorem dX12_init_314 : decode cX12_init 314 = .ok (.bipush 8, 2) := by decide +kernel
theorem dX12_init_316 : decode cX12_init 316 = .ok (.newarray .int, 2) := by decide +kernel
theorem dX12_init_318 : decode cX12_init 318 = .ok (.putfield 130, 3) := by decide +kernel
theorem dX12_init_321 : decode cX12_init 321 = .ok (.aload_n 0, 1) := by decide +kernel
theorem dX12_init_322 : decode cX12_init 322 = .ok (.sipush 16384, 3) := by decide +kernel
theorem dX12_init_325 : decode cX12_init 325 = .ok (.newarray .int, 2) := by decide +kernel
theorem dX12_init_327 : decode cX12_init 327 = .ok (.putfield 133, 3) := by decide +kernel
theorem dX12_init_330 : decode cX12_init 330 = .ok (.aload_n 0, 1) := by decide +kernel
theorem dX12_init_331 : decode cX12_init 331 = .ok (.sipush 576, 3) := by decide +kernel
theorem dX12_init_334 : decode cX12_init 334 = .ok (.newarray .int, 2) := by decide +kernel
theorem dX12_init_336 : decode cX12_init 336 = .ok (.putfield 136, 3) := by decide +kernel
theorem dX12_init_339 : decode cX12_init 339 = .ok (.aload_n 0, 1) := by decide +kernel
theorem dX12_init_340 : decode cX12_init 340 = .ok (.bipush 36, 2) := by decide +kernel
theorem dX12_init_342 : decode cX12_init 342 = .ok (.newarray .int, 2) := by decide +kernel
theorem dX12_init_344 : decode cX12_init 344 = .ok (.putfield 139, 3) := by decide +kernel
theorem dX12_init_347 : decode cX12_init 347 = .ok (.aload_n 0, 1) := by decide +kernel
theorem dX12_init_348 : decode cX12_init 348 = .ok (.bipush 36, 2) := by decide +kernel
theorem dX12_init_350 : decode cX12_init 350 = .ok (.newarray .int, 2) := by decide +kernel
theorem dX12_init_352 : decode cX12_init 352 = .ok (.putfield 142, 3) := by decide +kernel
theorem dX12_init_355 : decode cX12_init 355 = .ok (.aload_n 0, 1) := by decide +kernel
theorem dX12_init_356 : decode cX12_init 356 = .ok (.bipush 64, 2) := by decide +kernel
theorem dX12_init_358 : decode cX12_init 358 = .ok (.newarray .int, 2) := by decide +kernel
theorem dX12_init_360 : decode cX12_init 360 = .ok (.putfield 145, 3) := by decide +kernel
theorem dX12_init_363 : decode cX12_init 363 = .ok (.aload_n 0, 1) := by decide +kernel
theorem dX12_init_364 : decode cX12_init 364 = .ok (.sipush 2048, 3) := by decide +kernel
theorem dX12_init_367 : decode cX12_init 367 = .ok (.newarray .int, 2) := by decide +kernel
theorem dX12_init_369 : decode cX12_init 369 = .ok (.putfield 148, 3) := by decide +kernel
theorem dX12_init_372 : decode cX12_init 372 = .ok (.aload_n 0, 1) := by decide +kernel
theorem dX12_init_373 : decode cX12_init 373 = .ok (.sipush 520, 3) := by decide +kernel
theorem dX12_init_376 : decode cX12_init 376 = .ok (.newarray .int, 2) := by decide +kernel
theorem dX12_init_378 : decode cX12_init 378 = .ok (.putfield 151, 3) := by decide +kernel
theorem dX12_init_381 : decode cX12_init 381 = .ok (.aload_n 0, 1) := by decide +kernel
theorem dX12_init_382 : decode cX12_init 382 = .ok (.iconst 4, 1) := by decide +kernel
theorem dX12_init_383 : decode cX12_init 383 = .ok (.newarray .boolean, 2) := by decide +kernel
theorem dX12_init_385 : decode cX12_init 385 = .ok (.putfield 154, 3) := by decide +kernel
theorem dX12_init_388 : decode cX12_init 388 = .ok (.return_, 1) := by decide +kernel
theorem dX12_in_0 : decode cX12_in 0 = .ok (.lload_n 0, 1) := by decide +kernel
theorem dX12_in_1 : decode cX12_in 1 = .ok (.lload_n 2, 1) := by decide +kernel
theorem dX12_in_2 : decode cX12_in 2 = .ok (.lcmp, 1) := by decide +kernel
theorem dX12_in_3 : decode cX12_in 3 = .ok (.ifCond .lt 14, 3) := by decide +kernel
theorem dX12_in_6 : decode cX12_in 6 = .ok (.lload_n 0, 1) := by decide +kernel
theorem dX12_in_7 : decode cX12_in 7 = .ok (.lload 4, 2) := by decide +kernel
theorem dX12_in_9 : decode cX12_in 9 = .ok (.lcmp, 1) := by decide +kernel
theorem dX12_in_10 : decode cX12_in 10 = .ok (.ifCond .gt 7, 3) := by decide +kernel
theorem dX12_in_13 : decode cX12_in 13 = .ok (.iconst 1, 1) := by decide +kernel
theorem dX12_in_14 : decode cX12_in 14 = .ok (.goto 4, 3) := by decide +kernel
theorem dX12_in_17 : decode cX12_in 17 = .ok (.iconst 0, 1) := by decide +kernel
theorem dX12_in_18 : decode cX12_in 18 = .ok (.ireturn, 1) := by decide +kernel
theorem dX12_has_0 : decode cX12_has 0 = .ok (.lload_n 0, 1) := by decide +kernel
theorem dX12_has_1 : decode cX12_has 1 = .ok (.iload_n 2, 1) := by decide +kernel
theorem dX12_has_2 : decode cX12_has 2 = .ok (.lshr, 1) := by decide +kernel
theorem dX12_has_3 : decode cX12_has 3 = .ok (.lconst 1, 1) := by decide +kernel
theorem dX12_has_4 : decode cX12_has 4 = .ok (.land, 1) := by decide +kernel
theorem dX12_has_5 : decode cX12_has 5 = .ok (.lconst 1, 1) := by decide +kernel
theorem dX12_has_6 : decode cX12_has 6 = .ok (.lcmp, 1) := by decide +kernel
theorem dX12_has_7 : decode cX12_has 7 = .ok (.ifCond .ne 7, 3) := by decide +kernel
theorem dX12_has_10 : decode cX12_has 10 = .ok (.iconst 1, 1) := by decide +kernel
theorem dX12_has_11 : decode cX12_has 11 = .ok (.goto 4, 3) := by decide +kernel
theorem dX12_has_14 : decode cX12_has 14 = .ok (.iconst 0, 1) := by decide +kernel
theorem dX12_has_15 : decode cX12_has 15 = .ok (.ireturn, 1) := by decide +kernel
theorem dX12_bits_0 : decode cX12_bits 0 = .ok (.iconst 0, 1) := by decide +kernel
theorem dX12_bits_1 : decode cX12_bits 1 = .ok (.istore_n 1, 1) := by decide +kernel
theorem dX12_bits_2 : decode cX12_bits 2 = .ok (.iload_n 0, 1) := by decide +kernel
theorem dX12_bits_3 : decode cX12_bits 3 = .ok (.istore_n 2, 1) := by decide +kernel
theorem dX12_bits_4 : decode cX12_bits 4 = .ok (.iload_n 2, 1) := by decide +kernel
theorem dX12_bits_5 : decode cX12_bits 5 = .ok (.ifCond .eq 15, 3) := by decide +kernel
theorem dX12_bits_8 : decode cX12_bits 8 = .ok (.iinc 1 1, 3) := by decide +kernel
theorem dX12_bits_11 : decode cX12_bits 11 = .ok (.iload_n 2, 1) := by decide +kernel
theorem dX12_bits_12 : decode cX12_bits 12 = .ok (.iload_n 2, 1) := by decide +kernel
theorem dX12_bits_13 : decode cX12_bits 13 = .ok (.iconst 1, 1) := by decide +kernel
theorem dX12_bits_14 : decode cX12_bits 14 = .ok (.isub, 1) := by decide +kernel
theorem dX12_bits_15 : decode cX12_bits 15 = .ok (.iand, 1) := by decide +kernel
theorem dX12_bits_16 : decode cX12_bits 16 = .ok (.istore_n 2, 1) := by decide +kernel
theorem dX12_bits_17 : decode cX12_bits 17 = .ok (.goto (-13), 3) := by decide +kernel
theorem dX12_bits_20 : decode cX12_bits 20 = .ok (.iload_n 1, 1) := by decide +kernel
theorem dX12_bits_21 : decode cX12_bits 21 = .ok (.ireturn, 1) := by decide +kernel
theorem dX12_without_0 : decode cX12_without 0 = .ok (.iload_n 0, 1) := by decide +kernel
theorem dX12_without_1 : decode cX12_without 1 = .ok (.ifCond .ge 8, 3) := by decide +kernel
theorem dX12_without_4 : decode cX12_without 4 = .ok (.iload_n 0, 1) := by decide +kernel
theorem dX12_without_5 : decode cX12_without 5 = .ok (.ineg, 1) := by decide +kernel
theorem dX12_without_6 : decode cX12_without 6 = .ok (.goto 4, 3) := by decide +kernel
theorem dX12_without_9 : decode cX12_without 9 = .ok (.iload_n 0, 1) := by decide +kernel
theorem dX12_without_10 : decode cX12_without 10 = .ok (.ireturn, 1) := by decide +kernel
theorem dX12_floor_0 : decode cX12_floor 0 = .ok (.iload_n 0, 1) := by decide +kernel
theorem dX12_floor_1 : decode cX12_floor 1 = .ok (.iload_n 1, 1) := by decide +kernel
theorem dX12_floor_2 : decode cX12_floor 2 = .ok (.irem, 1) := by decide +kernel
theorem dX12_floor_3 : decode cX12_floor 3 = .ok (.ifCond .ge 11, 3) := by decide +kernel
theorem dX12_floor_6 : decode cX12_floor 6 = .ok (.iload_n 0, 1) := by decide +kernel
theorem dX12_floor_7 : decode cX12_floor 7 = .ok (.iload_n 1, 1) := by decide +kernel
theorem dX12_floor_8 : decode cX12_floor 8 = .ok (.idiv, 1) := by decide +kernel
theorem dX12_floor_9 : decode cX12_floor 9 = .ok (.iconst 1, 1) := by decide +kernel
theorem dX12_floor_10 : decode cX12_floor 10 = .ok (.isub, 1) := by decide +kernel
theorem dX12_floor_11 : decode cX12_floor 11 = .ok (.goto 6, 3) := by decide +kernel
theorem dX12_floor_14 : decode cX12_floor 14 = .ok (.iload_n 0, 1) := by decide +kernel
theorem dX12_floor_15 : decode cX12_floor 15 = .ok (.iload_n 1, 1) := by decide +kernel
theorem dX12_floor_16 : decode cX12_floor 16 = .ok (.idiv, 1) := by decide +kernel
theorem dX12_floor_17 : decode cX12_floor 17 = .ok (.ireturn, 1) := by decide +kernel
theorem dX12_divisor_0 : decode cX12_divisor 0 = .ok (.iload_n 0, 1) := by decide +kernel
theorem dX12_divisor_1 : decode cX12_divisor 1 = .ok (.istore_n 2, 1) := by decide +kernel
theorem dX12_divisor_2 : decode cX12_divisor 2 = .ok (.iload_n 1, 1) := by decide +kernel
theorem dX12_divisor_3 : decode cX12_divisor 3 = .ok (.istore_n 3, 1) := by decide +kernel
theorem dX12_divisor_4 : decode cX12_divisor 4 = .ok (.iload_n 2, 1) := by decide +kernel
theorem dX12_divisor_5 : decode cX12_divisor 5 = .ok (.ifCond .eq 16, 3) := by decide +kernel
theorem dX12_divisor_8 : decode cX12_divisor 8 = .ok (.iload_n 3, 1) := by decide +kernel
theorem dX12_divisor_9 : decode cX12_divisor 9 = .ok (.iload_n 2, 1) := by decide +kernel
theorem dX12_divisor_10 : decode cX12_divisor 10 = .ok (.irem, 1) := by decide +kernel
theorem dX12_divisor_11 : decode cX12_divisor 11 = .ok (.istore 4, 2) := by decide +kernel
theorem dX12_divisor_13 : decode cX12_divisor 13 = .ok (.iload_n 2, 1) := by decide +kernel
theorem dX12_divisor_14 : decode cX12_divisor 14 = .ok (.istore_n 3, 1) := by decide +kernel
theorem dX12_divisor_15 : decode cX12_divisor 15 = .ok (.iload 4, 2) := by decide +kernel
theorem dX12_divisor_17 : decode cX12_divisor 17 = .ok (.istore_n 2, 1) := by decide +kernel
theorem dX12_divisor_18 : decode cX12_divisor 18 = .ok (.goto (-14), 3) := by decide +kernel
theorem dX12_divisor_21 : decode cX12_divisor 21 = .ok (.iload_n 3, 1) := by decide +kernel
theorem dX12_divisor_22 : decode cX12_divisor 22 = .ok (.ireturn, 1) := by decide +kernel
theorem dX12_isLand_0 : decode cX12_isLand 0 = .ok (.aload_n 0, 1) := by decide +kernel
theorem dX12_isLand_1 : decode cX12_isLand 1 = .ok (.getfield 7, 3) := by decide +kernel
theorem dX12_isLand_4 : decode cX12_isLand 4 = .ok (.iconst 0, 1) := by decide +kernel
theorem dX12_isLand_5 : decode cX12_isLand 5 = .ok (.iaload, 1) := by decide +kernel
theorem dX12_isLand_6 : decode cX12_isLand 6 = .ok (.ifCond .le 7, 3) := by decide +kernel
theorem dX12_isLand_9 : decode cX12_isLand 9 = .ok (.iconst 1, 1) := by decide +kernel
theorem dX12_isLand_10 : decode cX12_isLand 10 = .ok (.goto 4, 3) := by decide +kernel
theorem dX12_isLand_13 : decode cX12_isLand 13 = .ok (.iconst 0, 1) := by decide +kernel
theorem dX12_isLand_14 : decode cX12_isLand 14 = .ok (.ireturn, 1) := by decide +kernel
theorem dX12_isSquare_0 : decode cX12_isSquare 0 = .ok (.iload_n 1, 1) := by decide +kernel
theorem dX12_isSquare_1 : decode cX12_isSquare 1 = .ok (.i2l, 1) := by decide +kernel
theorem dX12_isSquare_2 : decode cX12_isSquare 2 = .ok (.lconst 0, 1) := by decide +kernel
theorem dX12_isSquare_3 : decode cX12_isSquare 3 = .ok (.aload_n 0, 1) := by decide +kernel
theorem dX12_isSquare_4 : decode cX12_isSquare 4 = .ok (.getfield 7, 3) := by decide +kernel
theorem dX12_isSquare_7 : decode cX12_isSquare 7 = .ok (.iconst 0, 1) := by decide +kernel
theorem dX12_isSquare_8 : decode cX12_isSquare 8 = .ok (.iaload, 1) := by decide +kernel
theorem dX12_isSquare_9 : decode cX12_isSquare 9 = .ok (.iconst 1, 1) := by decide +kernel
theorem dX12_isSquare_10 : decode cX12_isSquare 10 = .ok (.isub, 1) := by decide +kernel
theorem dX12_isSquare_11 : decode cX12_isSquare 11 = .ok (.i2l, 1) := by decide +kernel
theorem dX12_isSquare_12 : decode cX12_isSquare 12 = .ok (.invokestatic 161, 3) := by decide +kernel
theorem dX12_isSquare_15 : decode cX12_isSquare 15 = .ok (.ifCond .eq 25, 3) := by decide +kernel
theorem dX12_isSquare_18 : decode cX12_isSquare 18 = .ok (.iload_n 2, 1) := by decide +kernel
theorem dX12_isSquare_19 : decode cX12_isSquare 19 = .ok (.i2l, 1) := by decide +kernel
theorem dX12_isSquare_20 : decode cX12_isSquare 20 = .ok (.lconst 0, 1) := by decide +kernel
theorem dX12_isSquare_21 : decode cX12_isSquare 21 = .ok (.aload_n 0, 1) := by decide +kernel
theorem dX12_isSquare_22 : decode cX12_isSquare 22 = .ok (.getfield 7, 3) := by decide +kernel
theorem dX12_isSquare_25 : decode cX12_isSquare 25 = .ok (.iconst 1, 1) := by decide +kernel
theorem dX12_isSquare_26 : decode cX12_isSquare 26 = .ok (.iaload, 1) := by decide +kernel
theorem dX12_isSquare_27 : decode cX12_isSquare 27 = .ok (.iconst 1, 1) := by decide +kernel
theorem dX12_isSquare_28 : decode cX12_isSquare 28 = .ok (.isub, 1) := by decide +kernel
theorem dX12_isSquare_29 : decode cX12_isSquare 29 = .ok (.i2l, 1) := by decide +kernel
theorem dX12_isSquare_30 : decode cX12_isSquare 30 = .ok (.invokestatic 161, 3) := by decide +kernel
theorem dX12_isSquare_33 : decode cX12_isSquare 33 = .ok (.ifCond .eq 7, 3) := by decide +kernel
theorem dX12_isSquare_36 : decode cX12_isSquare 36 = .ok (.iconst 1, 1) := by decide +kernel
theorem dX12_isSquare_37 : decode cX12_isSquare 37 = .ok (.goto 4, 3) := by decide +kernel
theorem dX12_isSquare_40 : decode cX12_isSquare 40 = .ok (.iconst 0, 1) := by decide +kernel
theorem dX12_isSquare_41 : decode cX12_isSquare 41 = .ok (.ireturn, 1) := by decide +kernel
theorem dX12_isThere_0 : decode cX12_isThere 0 = .ok (.aload_n 0, 1) := by decide +kernel
theorem dX12_isThere_1 : decode cX12_isThere 1 = .ok (.iload_n 1, 1) := by decide +kernel
theorem dX12_isThere_2 : decode cX12_isThere 2 = .ok (.bipush 6, 2) := by decide +kernel
theorem dX12_isThere_4 : decode cX12_isThere 4 = .ok (.irem, 1) := by decide +kernel
theorem dX12_isThere_5 : decode cX12_isThere 5 = .ok (.iload_n 1, 1) := by decide +kernel
theorem dX12_isThere_6 : decode cX12_isThere 6 = .ok (.bipush 6, 2) := by decide +kernel
theorem dX12_isThere_8 : decode cX12_isThere 8 = .ok (.idiv, 1) := by decide +kernel
theorem dX12_isThere_9 : decode cX12_isThere 9 = .ok (.invokevirtual 165, 3) := by decide +kernel
theorem dX12_isThere_12 : decode cX12_isThere 12 = .ok (.ireturn, 1) := by decide +kernel
theorem dX12_isHill_0 : decode cX12_isHill 0 = .ok (.iload_n 1, 1) := by decide +kernel
theorem dX12_isHill_1 : decode cX12_isHill 1 = .ok (.i2l, 1) := by decide +kernel
theorem dX12_isHill_2 : decode cX12_isHill 2 = .ok (.lconst 0, 1) := by decide +kernel
theorem dX12_isHill_3 : decode cX12_isHill 3 = .ok (.aload_n 0, 1) := by decide +kernel
theorem dX12_isHill_4 : decode cX12_isHill 4 = .ok (.getfield 7, 3) := by decide +kernel
theorem dX12_isHill_7 : decode cX12_isHill 7 = .ok (.iconst 2, 1) := by decide +kernel
theorem dX12_isHill_8 : decode cX12_isHill 8 = .ok (.iaload, 1) := by decide +kernel
theorem dX12_isHill_9 : decode cX12_isHill 9 = .ok (.iconst 1, 1) := by decide +kernel
theorem dX12_isHill_10 : decode cX12_isHill 10 = .ok (.isub, 1) := by decide +kernel
theorem dX12_isHill_11 : decode cX12_isHill 11 = .ok (.i2l, 1) := by decide +kernel
theorem dX12_isHill_12 : decode cX12_isHill 12 = .ok (.invokestatic 161, 3) := by decide +kernel
theorem dX12_isHill_15 : decode cX12_isHill 15 = .ok (.ireturn, 1) := by decide +kernel
theorem dX12_isSort_0 : decode cX12_isSort 0 = .ok (.iload_n 1, 1) := by decide +kernel
theorem dX12_isSort_1 : decode cX12_isSort 1 = .ok (.i2l, 1) := by decide +kernel
theorem dX12_isSort_2 : decode cX12_isSort 2 = .ok (.lconst 0, 1) := by decide +kernel
theorem dX12_isSort_3 : decode cX12_isSort 3 = .ok (.aload_n 0, 1) := by decide +kernel
theorem dX12_isSort_4 : decode cX12_isSort 4 = .ok (.getfield 7, 3) := by decide +kernel
theorem dX12_isSort_7 : decode cX12_isSort 7 = .ok (.iconst 4, 1) := by decide +kernel
theorem dX12_isSort_8 : decode cX12_isSort 8 = .ok (.iaload, 1) := by decide +kernel
theorem dX12_isSort_9 : decode cX12_isSort 9 = .ok (.iconst 1, 1) := by decide +kernel
theorem dX12_isSort_10 : decode cX12_isSort 10 = .ok (.isub, 1) := by decide +kernel
theorem dX12_isSort_11 : decode cX12_isSort 11 = .ok (.i2l, 1) := by decide +kernel
theorem dX12_isSort_12 : decode cX12_isSort 12 = .ok (.invokestatic 161, 3) := by decide +kernel
theorem dX12_isSort_15 : decode cX12_isSort 15 = .ok (.ireturn, 1) := by decide +kernel
theorem dX12_hillOn_0 : decode cX12_hillOn 0 = .ok (.iconst 0, 1) := by decide +kernel
theorem dX12_hillOn_1 : decode cX12_hillOn 1 = .ok (.istore_n 2, 1) := by decide +kernel
theorem dX12_hillOn_2 : decode cX12_hillOn 2 = .ok (.iload_n 2, 1) := by decide +kernel
theorem dX12_hillOn_3 : decode cX12_hillOn 3 = .ok (.aload_n 0, 1) := by decide +kernel
theorem dX12_hillOn_4 : decode cX12_hillOn 4 = .ok (.getfield 7, 3) := by decide +kernel
theorem dX12_hillOn_7 : decode cX12_hillOn 7 = .ok (.iconst 2, 1) := by decide +kernel
theorem dX12_hillOn_8 : decode cX12_hillOn 8 = .ok (.iaload, 1) := by decide +kernel
theorem dX12_hillOn_9 : decode cX12_hillOn 9 = .ok (.if_icmp .ge 21, 3) := by decide +kernel
theorem dX12_hillOn_12 : decode cX12_hillOn 12 = .ok (.aload_n 0, 1) := by decide +kernel
theorem dX12_hillOn_13 : decode cX12_hillOn 13 = .ok (.getfield 16, 3) := by decide +kernel
theorem dX12_hillOn_16 : decode cX12_hillOn 16 = .ok (.iload_n 2, 1) := by decide +kernel
theorem dX12_hillOn_17 : decode cX12_hillOn 17 = .ok (.iaload, 1) := by decide +kernel
theorem dX12_hillOn_18 : decode cX12_hillOn 18 = .ok (.iload_n 1, 1) := by decide +kernel
theorem dX12_hillOn_19 : decode cX12_hillOn 19 = .ok (.if_icmp .ne 5, 3) := by decide +kernel
theorem dX12_hillOn_22 : decode cX12_hillOn 22 = .ok (.iload_n 2, 1) := by decide +kernel
theorem dX12_hillOn_23 : decode cX12_hillOn 23 = .ok (.ireturn, 1) := by decide +kernel
theorem dX12_hillOn_24 : decode cX12_hillOn 24 = .ok (.iinc 2 1, 3) := by decide +kernel
theorem dX12_hillOn_27 : decode cX12_hillOn 27 = .ok (.goto (-25), 3) := by decide +kernel
theorem dX12_hillOn_30 : decode cX12_hillOn 30 = .ok (.iconst (-1), 1) := by decide +kernel
theorem dX12_hillOn_31 : decode cX12_hillOn 31 = .ok (.ireturn, 1) := by decide +kernel
theorem dX12_isWood_0 : decode cX12_isWood 0 = .ok (.aload_n 0, 1) := by decide +kernel
theorem dX12_isWood_1 : decode cX12_isWood 1 = .ok (.getfield 13, 3) := by decide +kernel
theorem dX12_isWood_4 : decode cX12_isWood 4 = .ok (.iload_n 1, 1) := by decide +kernel
theorem dX12_isWood_5 : decode cX12_isWood 5 = .ok (.iaload, 1) := by decide +kernel
theorem dX12_isWood_6 : decode cX12_isWood 6 = .ok (.iconst 1, 1) := by decide +kernel
theorem dX12_isWood_7 : decode cX12_isWood 7 = .ok (.if_icmp .ne 16, 3) := by decide +kernel
theorem dX12_isWood_10 : decode cX12_isWood 10 = .ok (.aload_n 0, 1) := by decide +kernel
theorem dX12_isWood_11 : decode cX12_isWood 11 = .ok (.iload_n 1, 1) := by decide +kernel
theorem dX12_isWood_12 : decode cX12_isWood 12 = .ok (.invokevirtual 169, 3) := by decide +kernel
theorem dX12_isWood_15 : decode cX12_isWood 15 = .ok (.iconst (-1), 1) := by decide +kernel
theorem dX12_isWood_16 : decode cX12_isWood 16 = .ok (.if_icmp .ne 7, 3) := by decide +kernel
theorem dX12_isWood_19 : decode cX12_isWood 19 = .ok (.iconst 1, 1) := by decide +kernel
theorem dX12_isWood_20 : decode cX12_isWood 20 = .ok (.goto 4, 3) := by decide +kernel
theorem dX12_isWood_23 : decode cX12_isWood 23 = .ok (.iconst 0, 1) := by decide +kernel
theorem dX12_isWood_24 : decode cX12_isWood 24 = .ok (.ireturn, 1) := by decide +kernel
theorem dX12_apartOf_0 : decode cX12_apartOf 0 = .ok (.iload_n 0, 1) := by decide +kernel
theorem dX12_apartOf_1 : decode cX12_apartOf 1 = .ok (.bipush 6, 2) := by decide +kernel
theorem dX12_apartOf_3 : decode cX12_apartOf 3 = .ok (.irem, 1) := by decide +kernel
theorem dX12_apartOf_4 : decode cX12_apartOf 4 = .ok (.iload_n 1, 1) := by decide +kernel
theorem dX12_apartOf_5 : decode cX12_apartOf 5 = .ok (.bipush 6, 2) := by decide +kernel
theorem dX12_apartOf_7 : decode cX12_apartOf 7 = .ok (.irem, 1) := by decide +kernel
theorem dX12_apartOf_8 : decode cX12_apartOf 8 = .ok (.isub, 1) := by decide +kernel
theorem dX12_apartOf_9 : decode cX12_apartOf 9 = .ok (.invokestatic 173, 3) := by decide +kernel
theorem dX12_apartOf_12 : decode cX12_apartOf 12 = .ok (.istore_n 2, 1) := by decide +kernel
theorem dX12_apartOf_13 : decode cX12_apartOf 13 = .ok (.iload_n 0, 1) := by decide +kernel
theorem dX12_apartOf_14 : decode cX12_apartOf 14 = .ok (.bipush 6, 2) := by decide +kernel
theorem dX12_apartOf_16 : decode cX12_apartOf 16 = .ok (.idiv, 1) := by decide +kernel
theorem dX12_apartOf_17 : decode cX12_apartOf 17 = .ok (.iload_n 1, 1) := by decide +kernel
theorem dX12_apartOf_18 : decode cX12_apartOf 18 = .ok (.bipush 6, 2) := by decide +kernel
theorem dX12_apartOf_20 : decode cX12_apartOf 20 = .ok (.idiv, 1) := by decide +kernel
theorem dX12_apartOf_21 : decode cX12_apartOf 21 = .ok (.isub, 1) := by decide +kernel
theorem dX12_apartOf_22 : decode cX12_apartOf 22 = .ok (.invokestatic 173, 3) := by decide +kernel
theorem dX12_apartOf_25 : decode cX12_apartOf 25 = .ok (.istore_n 3, 1) := by decide +kernel
theorem dX12_apartOf_26 : decode cX12_apartOf 26 = .ok (.iload_n 2, 1) := by decide +kernel
theorem dX12_apartOf_27 : decode cX12_apartOf 27 = .ok (.iload_n 3, 1) := by decide +kernel
theorem dX12_apartOf_28 : decode cX12_apartOf 28 = .ok (.if_icmp .le 7, 3) := by decide +kernel
theorem dX12_apartOf_31 : decode cX12_apartOf 31 = .ok (.iload_n 2, 1) := by decide +kernel
theorem dX12_apartOf_32 : decode cX12_apartOf 32 = .ok (.goto 4, 3) := by decide +kernel
theorem dX12_apartOf_35 : decode cX12_apartOf 35 = .ok (.iload_n 3, 1) := by decide +kernel
theorem dX12_apartOf_36 : decode cX12_apartOf 36 = .ok (.ireturn, 1) := by decide +kernel
theorem dX12_isSeen_0 : decode cX12_isSeen 0 = .ok (.iload_n 1, 1) := by decide +kernel
theorem dX12_isSeen_1 : decode cX12_isSeen 1 = .ok (.iload_n 2, 1) := by decide +kernel
theorem dX12_isSeen_2 : decode cX12_isSeen 2 = .ok (.invokestatic 176, 3) := by decide +kernel
theorem dX12_isSeen_5 : decode cX12_isSeen 5 = .ok (.istore 4, 2) := by decide +kernel
theorem dX12_isSeen_7 : decode cX12_isSeen 7 = .ok (.iload_n 2, 1) := by decide +kernel
theorem dX12_isSeen_8 : decode cX12_isSeen 8 = .ok (.bipush 6, 2) := by decide +kernel
theorem dX12_isSeen_10 : decode cX12_isSeen 10 = .ok (.irem, 1) := by decide +kernel
theorem dX12_isSeen_11 : decode cX12_isSeen 11 = .ok (.iload_n 1, 1) := by decide +kernel
theorem dX12_isSeen_12 : decode cX12_isSeen 12 = .ok (.bipush 6, 2) := by decide +kernel
theorem dX12_isSeen_14 : decode cX12_isSeen 14 = .ok (.irem, 1) := by decide +kernel
theorem dX12_isSeen_15 : decode cX12_isSeen 15 = .ok (.isub, 1) := by decide +kernel
theorem dX12_isSeen_16 : decode cX12_isSeen 16 = .ok (.istore 5, 2) := by decide +kernel
theorem dX12_isSeen_18 : decode cX12_isSeen 18 = .ok (.iload_n 2, 1) := by decide +kernel
theorem dX12_isSeen_19 : decode cX12_isSeen 19 = .ok (.bipush 6, 2) := by decide +kernel
theorem dX12_isSeen_21 : decode cX12_isSeen 21 = .ok (.idiv, 1) := by decide +kernel
theorem dX12_isSeen_22 : decode cX12_isSeen 22 = .ok (.iload_n 1, 1) := by decide +kernel
theorem dX12_isSeen_23 : decode cX12_isSeen 23 = .ok (.bipush 6, 2) := by decide +kernel
theorem dX12_isSeen_25 : decode cX12_isSeen 25 = .ok (.idiv, 1) := by decide +kernel
theorem dX12_isSeen_26 : decode cX12_isSeen 26 = .ok (.isub, 1) := by decide +kernel
theorem dX12_isSeen_27 : decode cX12_isSeen 27 = .ok (.istore 6, 2) := by decide +kernel
theorem dX12_isSeen_29 : decode cX12_isSeen 29 = .ok (.iload 4, 2) := by decide +kernel
theorem dX12_isSeen_31 : decode cX12_isSeen 31 = .ok (.iload_n 3, 1) := by decide +kernel
theorem dX12_isSeen_32 : decode cX12_isSeen 32 = .ok (.if_icmp .gt 7, 3) := by decide +kernel
theorem dX12_isSeen_35 : decode cX12_isSeen 35 = .ok (.iconst 1, 1) := by decide +kernel
theorem dX12_isSeen_36 : decode cX12_isSeen 36 = .ok (.goto 4, 3) := by decide +kernel
theorem dX12_isSeen_39 : decode cX12_isSeen 39 = .ok (.iconst 0, 1) := by decide +kernel
theorem dX12_isSeen_40 : decode cX12_isSeen 40 = .ok (.istore 7, 2) := by decide +kernel
theorem dX12_isSeen_42 : decode cX12_isSeen 42 = .ok (.iconst 1, 1) := by decide +kernel
theorem dX12_isSeen_43 : decode cX12_isSeen 43 = .ok (.istore 8, 2) := by decide +kernel
theorem dX12_isSeen_45 : decode cX12_isSeen 45 = .ok (.iload 8, 2) := by decide +kernel
theorem dX12_isSeen_47 : decode cX12_isSeen 47 = .ok (.iload 4, 2) := by decide +kernel
theorem dX12_isSeen_49 : decode cX12_isSeen 49 = .ok (.if_icmp .ge 84, 3) := by decide +kernel
theorem dX12_isSeen_52 : decode cX12_isSeen 52 = .ok (.iload 7, 2) := by decide +kernel
theorem dX12_isSeen_54 : decode cX12_isSeen 54 = .ok (.ifCond .eq 79, 3) := by decide +kernel
theorem dX12_isSeen_57 : decode cX12_isSeen 57 = .ok (.iload_n 1, 1) := by decide +kernel
theorem dX12_isSeen_58 : decode cX12_isSeen 58 = .ok (.bipush 6, 2) := by decide +kernel
theorem dX12_isSeen_60 : decode cX12_isSeen 60 = .ok (.irem, 1) := by decide +kernel
theorem dX12_isSeen_61 : decode cX12_isSeen 61 = .ok (.iconst 2, 1) := by decide +kernel
theorem dX12_isSeen_62 : decode cX12_isSeen 62 = .ok (.iload 8, 2) := by decide +kernel
theorem dX12_isSeen_64 : decode cX12_isSeen 64 = .ok (.imul, 1) := by decide +kernel
theorem dX12_isSeen_65 : decode cX12_isSeen 65 = .ok (.iload 5, 2) := by decide +kernel
theorem dX12_isSeen_67 : decode cX12_isSeen 67 = .ok (.imul, 1) := by decide +kernel
theorem dX12_isSeen_68 : decode cX12_isSeen 68 = .ok (.iload 4, 2) := by decide +kernel
theorem dX12_isSeen_70 : decode cX12_isSeen 70 = .ok (.iadd, 1) := by decide +kernel
theorem dX12_isSeen_71 : decode cX12_isSeen 71 = .ok (.iconst 2, 1) := by decide +kernel
theorem dX12_isSeen_72 : decode cX12_isSeen 72 = .ok (.iload 4, 2) := by decide +kernel
theorem dX12_isSeen_74 : decode cX12_isSeen 74 = .ok (.imul, 1) := by decide +kernel
theorem dX12_isSeen_75 : decode cX12_isSeen 75 = .ok (.invokestatic 180, 3) := by decide +kernel
theorem dX12_isSeen_78 : decode cX12_isSeen 78 = .ok (.iadd, 1) := by decide +kernel
theorem dX12_isSeen_79 : decode cX12_isSeen 79 = .ok (.istore 9, 2) := by decide +kernel
theorem dX12_isSeen_81 : decode cX12_isSeen 81 = .ok (.iload_n 1, 1) := by decide +kernel
theorem dX12_isSeen_82 : decode cX12_isSeen 82 = .ok (.bipush 6, 2) := by decide +kernel
theorem dX12_isSeen_84 : decode cX12_isSeen 84 = .ok (.idiv, 1) := by decide +kernel
theorem dX12_isSeen_85 : decode cX12_isSeen 85 = .ok (.iconst 2, 1) := by decide +kernel
theorem dX12_isSeen_86 : decode cX12_isSeen 86 = .ok (.iload 8, 2) := by decide +kernel
theorem dX12_isSeen_88 : decode cX12_isSeen 88 = .ok (.imul, 1) := by decide +kernel
theorem dX12_isSeen_89 : decode cX12_isSeen 89 = .ok (.iload 6, 2) := by decide +kernel
theorem dX12_isSeen_91 : decode cX12_isSeen 91 = .ok (.imul, 1) := by decide +kernel
theorem dX12_isSeen_92 : decode cX12_isSeen 92 = .ok (.iload 4, 2) := by decide +kernel
theorem dX12_isSeen_94 : decode cX12_isSeen 94 = .ok (.iadd, 1) := by decide +kernel
theorem dX12_isSeen_95 : decode cX12_isSeen 95 = .ok (.iconst 2, 1) := by decide +kernel
theorem dX12_isSeen_96 : decode cX12_isSeen 96 = .ok (.iload 4, 2) := by decide +kernel
theorem dX12_isSeen_98 : decode cX12_isSeen 98 = .ok (.imul, 1) := by decide +kernel
theorem dX12_isSeen_99 : decode cX12_isSeen 99 = .ok (.invokestatic 180, 3) := by decide +kernel
theorem dX12_isSeen_102 : decode cX12_isSeen 102 = .ok (.iadd, 1) := by decide +kernel
theorem dX12_isSeen_103 : decode cX12_isSeen 103 = .ok (.istore 10, 2) := by decide +kernel
theorem dX12_isSeen_105 : decode cX12_isSeen 105 = .ok (.aload_n 0, 1) := by decide +kernel
theorem dX12_isSeen_106 : decode cX12_isSeen 106 = .ok (.bipush 6, 2) := by decide +kernel
theorem dX12_isSeen_108 : decode cX12_isSeen 108 = .ok (.iload 10, 2) := by decide +kernel
theorem dX12_isSeen_110 : decode cX12_isSeen 110 = .ok (.imul, 1) := by decide +kernel
theorem dX12_isSeen_111 : decode cX12_isSeen 111 = .ok (.iload 9, 2) := by decide +kernel
theorem dX12_isSeen_113 : decode cX12_isSeen 113 = .ok (.iadd, 1) := by decide +kernel
theorem dX12_isSeen_114 : decode cX12_isSeen 114 = .ok (.invokevirtual 183, 3) := by decide +kernel
theorem dX12_isSeen_117 : decode cX12_isSeen 117 = .ok (.ifCond .ne 7, 3) := by decide +kernel
theorem dX12_isSeen_120 : decode cX12_isSeen 120 = .ok (.iconst 1, 1) := by decide +kernel
theorem dX12_isSeen_121 : decode cX12_isSeen 121 = .ok (.goto 4, 3) := by decide +kernel
theorem dX12_isSeen_124 : decode cX12_isSeen 124 = .ok (.iconst 0, 1) := by decide +kernel
theorem dX12_isSeen_125 : decode cX12_isSeen 125 = .ok (.istore 7, 2) := by decide +kernel
theorem dX12_isSeen_127 : decode cX12_isSeen 127 = .ok (.iinc 8 1, 3) := by decide +kernel
theorem dX12_isSeen_130 : decode cX12_isSeen 130 = .ok (.goto (-85), 3) := by decide +kernel
theorem dX12_isSeen_133 : decode cX12_isSeen 133 = .ok (.iload 7, 2) := by decide +kernel
theorem dX12_isSeen_135 : decode cX12_isSeen 135 = .ok (.ireturn, 1) := by decide +kernel
theorem dX12_seenFrom_0 : decode cX12_seenFrom 0 = .ok (.lconst 0, 1) := by decide +kernel
theorem dX12_seenFrom_1 : decode cX12_seenFrom 1 = .ok (.lstore_n 3, 1) := by decide +kernel
theorem dX12_seenFrom_2 : decode cX12_seenFrom 2 = .ok (.iconst 0, 1) := by decide +kernel
theorem dX12_seenFrom_3 : decode cX12_seenFrom 3 = .ok (.istore 5, 2) := by decide +kernel
theorem dX12_seenFrom_5 : decode cX12_seenFrom 5 = .ok (.iload 5, 2) := by decide +kernel
theorem dX12_seenFrom_7 : decode cX12_seenFrom 7 = .ok (.bipush 36, 2) := by decide +kernel
theorem dX12_seenFrom_9 : decode cX12_seenFrom 9 = .ok (.if_icmp .ge 40, 3) := by decide +kernel
theorem dX12_seenFrom_12 : decode cX12_seenFrom 12 = .ok (.lload_n 3, 1) := by decide +kernel
theorem dX12_seenFrom_13 : decode cX12_seenFrom 13 = .ok (.aload_n 0, 1) := by decide +kernel
theorem dX12_seenFrom_14 : decode cX12_seenFrom 14 = .ok (.iload 5, 2) := by decide +kernel
theorem dX12_seenFrom_16 : decode cX12_seenFrom 16 = .ok (.invokevirtual 187, 3) := by decide +kernel
theorem dX12_seenFrom_19 : decode cX12_seenFrom 19 = .ok (.ifCond .eq 21, 3) := by decide +kernel
theorem dX12_seenFrom_22 : decode cX12_seenFrom 22 = .ok (.aload_n 0, 1) := by decide +kernel
theorem dX12_seenFrom_23 : decode cX12_seenFrom 23 = .ok (.iload_n 1, 1) := by decide +kernel
theorem dX12_seenFrom_24 : decode cX12_seenFrom 24 = .ok (.iload 5, 2) := by decide +kernel
theorem dX12_seenFrom_26 : decode cX12_seenFrom 26 = .ok (.iload_n 2, 1) := by decide +kernel
theorem dX12_seenFrom_27 : decode cX12_seenFrom 27 = .ok (.invokevirtual 190, 3) := by decide +kernel
theorem dX12_seenFrom_30 : decode cX12_seenFrom 30 = .ok (.ifCond .eq 10, 3) := by decide +kernel
theorem dX12_seenFrom_33 : decode cX12_seenFrom 33 = .ok (.lconst 1, 1) := by decide +kernel
theorem dX12_seenFrom_34 : decode cX12_seenFrom 34 = .ok (.iload 5, 2) := by decide +kernel
theorem dX12_seenFrom_36 : decode cX12_seenFrom 36 = .ok (.lshl, 1) := by decide +kernel
theorem dX12_seenFrom_37 : decode cX12_seenFrom 37 = .ok (.goto 4, 3) := by decide +kernel
theorem dX12_seenFrom_40 : decode cX12_seenFrom 40 = .ok (.lconst 0, 1) := by decide +kernel
theorem dX12_seenFrom_41 : decode cX12_seenFrom 41 = .ok (.lor, 1) := by decide +kernel
theorem dX12_seenFrom_42 : decode cX12_seenFrom 42 = .ok (.lstore_n 3, 1) := by decide +kernel
theorem dX12_seenFrom_43 : decode cX12_seenFrom 43 = .ok (.iinc 5 1, 3) := by decide +kernel
theorem dX12_seenFrom_46 : decode cX12_seenFrom 46 = .ok (.goto (-41), 3) := by decide +kernel
theorem dX12_seenFrom_49 : decode cX12_seenFrom 49 = .ok (.lload_n 3, 1) := by decide +kernel
theorem dX12_seenFrom_50 : decode cX12_seenFrom 50 = .ok (.lreturn, 1) := by decide +kernel
theorem dX12_roadSet_0 : decode cX12_roadSet 0 = .ok (.lconst 0, 1) := by decide +kernel
theorem dX12_roadSet_1 : decode cX12_roadSet 1 = .ok (.lstore_n 2, 1) := by decide +kernel
theorem dX12_roadSet_2 : decode cX12_roadSet 2 = .ok (.iconst 0, 1) := by decide +kernel
theorem dX12_roadSet_3 : decode cX12_roadSet 3 = .ok (.istore 4, 2) := by decide +kernel
theorem dX12_roadSet_5 : decode cX12_roadSet 5 = .ok (.iload 4, 2) := by decide +kernel
theorem dX12_roadSet_7 : decode cX12_roadSet 7 = .ok (.bipush 36, 2) := by decide +kernel
theorem dX12_roadSet_9 : decode cX12_roadSet 9 = .ok (.if_icmp .ge 96, 3) := by decide +kernel
theorem dX12_roadSet_12 : decode cX12_roadSet 12 = .ok (.iload 4, 2) := by decide +kernel
theorem dX12_roadSet_14 : decode cX12_roadSet 14 = .ok (.bipush 6, 2) := by decide +kernel
theorem dX12_roadSet_16 : decode cX12_roadSet 16 = .ok (.irem, 1) := by decide +kernel
theorem dX12_roadSet_17 : decode cX12_roadSet 17 = .ok (.i2l, 1) := by decide +kernel
theorem dX12_roadSet_18 : decode cX12_roadSet 18 = .ok (.aload_n 0, 1) := by decide +kernel
theorem dX12_roadSet_19 : decode cX12_roadSet 19 = .ok (.getfield 22, 3) := by decide +kernel
theorem dX12_roadSet_22 : decode cX12_roadSet 22 = .ok (.iload_n 1, 1) := by decide +kernel
theorem dX12_roadSet_23 : decode cX12_roadSet 23 = .ok (.iaload, 1) := by decide +kernel
theorem dX12_roadSet_24 : decode cX12_roadSet 24 = .ok (.bipush 6, 2) := by decide +kernel
theorem dX12_roadSet_26 : decode cX12_roadSet 26 = .ok (.irem, 1) := by decide +kernel
theorem dX12_roadSet_27 : decode cX12_roadSet 27 = .ok (.i2l, 1) := by decide +kernel
theorem dX12_roadSet_28 : decode cX12_roadSet 28 = .ok (.aload_n 0, 1) := by decide +kernel
theorem dX12_roadSet_29 : decode cX12_roadSet 29 = .ok (.getfield 25, 3) := by decide +kernel
theorem dX12_roadSet_32 : decode cX12_roadSet 32 = .ok (.iload_n 1, 1) := by decide +kernel
theorem dX12_roadSet_33 : decode cX12_roadSet 33 = .ok (.iaload, 1) := by decide +kernel
theorem dX12_roadSet_34 : decode cX12_roadSet 34 = .ok (.bipush 6, 2) := by decide +kernel
theorem dX12_roadSet_36 : decode cX12_roadSet 36 = .ok (.irem, 1) := by decide +kernel
theorem dX12_roadSet_37 : decode cX12_roadSet 37 = .ok (.i2l, 1) := by decide +kernel
theorem dX12_roadSet_38 : decode cX12_roadSet 38 = .ok (.invokestatic 161, 3) := by decide +kernel
theorem dX12_roadSet_41 : decode cX12_roadSet 41 = .ok (.ifCond .eq 39, 3) := by decide +kernel
theorem dX12_roadSet_44 : decode cX12_roadSet 44 = .ok (.iload 4, 2) := by decide +kernel
theorem dX12_roadSet_46 : decode cX12_roadSet 46 = .ok (.bipush 6, 2) := by decide +kernel
theorem dX12_roadSet_48 : decode cX12_roadSet 48 = .ok (.idiv, 1) := by decide +kernel
theorem dX12_roadSet_49 : decode cX12_roadSet 49 = .ok (.i2l, 1) := by decide +kernel
theorem dX12_roadSet_50 : decode cX12_roadSet 50 = .ok (.aload_n 0, 1) := by decide +kernel
theorem dX12_roadSet_51 : decode cX12_roadSet 51 = .ok (.getfield 22, 3) := by decide +kernel
theorem dX12_roadSet_54 : decode cX12_roadSet 54 = .ok (.iload_n 1, 1) := by decide +kernel
theorem dX12_roadSet_55 : decode cX12_roadSet 55 = .ok (.iaload, 1) := by decide +kernel
theorem dX12_roadSet_56 : decode cX12_roadSet 56 = .ok (.bipush 6, 2) := by decide +kernel
theorem dX12_roadSet_58 : decode cX12_roadSet 58 = .ok (.idiv, 1) := by decide +kernel
theorem dX12_roadSet_59 : decode cX12_roadSet 59 = .ok (.i2l, 1) := by decide +kernel
theorem dX12_roadSet_60 : decode cX12_roadSet 60 = .ok (.aload_n 0, 1) := by decide +kernel
theorem dX12_roadSet_61 : decode cX12_roadSet 61 = .ok (.getfield 25, 3) := by decide +kernel
theorem dX12_roadSet_64 : decode cX12_roadSet 64 = .ok (.iload_n 1, 1) := by decide +kernel
theorem dX12_roadSet_65 : decode cX12_roadSet 65 = .ok (.iaload, 1) := by decide +kernel
theorem dX12_roadSet_66 : decode cX12_roadSet 66 = .ok (.bipush 6, 2) := by decide +kernel
theorem dX12_roadSet_68 : decode cX12_roadSet 68 = .ok (.idiv, 1) := by decide +kernel
theorem dX12_roadSet_69 : decode cX12_roadSet 69 = .ok (.i2l, 1) := by decide +kernel
theorem dX12_roadSet_70 : decode cX12_roadSet 70 = .ok (.invokestatic 161, 3) := by decide +kernel
theorem dX12_roadSet_73 : decode cX12_roadSet 73 = .ok (.ifCond .eq 7, 3) := by decide +kernel
theorem dX12_roadSet_76 : decode cX12_roadSet 76 = .ok (.iconst 1, 1) := by decide +kernel
theorem dX12_roadSet_77 : decode cX12_roadSet 77 = .ok (.goto 4, 3) := by decide +kernel
theorem dX12_roadSet_80 : decode cX12_roadSet 80 = .ok (.iconst 0, 1) := by decide +kernel
theorem dX12_roadSet_81 : decode cX12_roadSet 81 = .ok (.istore 5, 2) := by decide +kernel
theorem dX12_roadSet_83 : decode cX12_roadSet 83 = .ok (.lload_n 2, 1) := by decide +kernel
theorem dX12_roadSet_84 : decode cX12_roadSet 84 = .ok (.iload 5, 2) := by decide +kernel
theorem dX12_roadSet_86 : decode cX12_roadSet 86 = .ok (.ifCond .eq 10, 3) := by decide +kernel
theorem dX12_roadSet_89 : decode cX12_roadSet 89 = .ok (.lconst 1, 1) := by decide +kernel
theorem dX12_roadSet_90 : decode cX12_roadSet 90 = .ok (.iload 4, 2) := by decide +kernel
theorem dX12_roadSet_92 : decode cX12_roadSet 92 = .ok (.lshl, 1) := by decide +kernel
theorem dX12_roadSet_93 : decode cX12_roadSet 93 = .ok (.goto 4, 3) := by decide +kernel
theorem dX12_roadSet_96 : decode cX12_roadSet 96 = .ok (.lconst 0, 1) := by decide +kernel
theorem dX12_roadSet_97 : decode cX12_roadSet 97 = .ok (.lor, 1) := by decide +kernel
theorem dX12_roadSet_98 : decode cX12_roadSet 98 = .ok (.lstore_n 2, 1) := by decide +kernel
theorem dX12_roadSet_99 : decode cX12_roadSet 99 = .ok (.iinc 4 1, 3) := by decide +kernel
theorem dX12_roadSet_102 : decode cX12_roadSet 102 = .ok (.goto (-97), 3) := by decide +kernel
theorem dX12_roadSet_105 : decode cX12_roadSet 105 = .ok (.lload_n 2, 1) := by decide +kernel
theorem dX12_roadSet_106 : decode cX12_roadSet 106 = .ok (.lreturn, 1) := by decide +kernel
theorem dX12_sees_0 : decode cX12_sees 0 = .ok (.aload_n 0, 1) := by decide +kernel
theorem dX12_sees_1 : decode cX12_sees 1 = .ok (.iload_n 1, 1) := by decide +kernel
theorem dX12_sees_2 : decode cX12_sees 2 = .ok (.invokevirtual 194, 3) := by decide +kernel
theorem dX12_sees_5 : decode cX12_sees 5 = .ok (.ifCond .eq 22, 3) := by decide +kernel
theorem dX12_sees_8 : decode cX12_sees 8 = .ok (.aload_n 0, 1) := by decide +kernel
theorem dX12_sees_9 : decode cX12_sees 9 = .ok (.aload_n 0, 1) := by decide +kernel
theorem dX12_sees_10 : decode cX12_sees 10 = .ok (.getfield 16, 3) := by decide +kernel
theorem dX12_sees_13 : decode cX12_sees 13 = .ok (.iload_n 1, 1) := by decide +kernel
theorem dX12_sees_14 : decode cX12_sees 14 = .ok (.iaload, 1) := by decide +kernel
theorem dX12_sees_15 : decode cX12_sees 15 = .ok (.aload_n 0, 1) := by decide +kernel
theorem dX12_sees_16 : decode cX12_sees 16 = .ok (.getfield 19, 3) := by decide +kernel
theorem dX12_sees_19 : decode cX12_sees 19 = .ok (.iload_n 1, 1) := by decide +kernel
theorem dX12_sees_20 : decode cX12_sees 20 = .ok (.iaload, 1) := by decide +kernel
theorem dX12_sees_21 : decode cX12_sees 21 = .ok (.invokevirtual 197, 3) := by decide +kernel
theorem dX12_sees_24 : decode cX12_sees 24 = .ok (.goto 6, 3) := by decide +kernel
theorem dX12_sees_27 : decode cX12_sees 27 = .ok (.ldc2_w 201, 3) := by decide +kernel
theorem dX12_sees_30 : decode cX12_sees 30 = .ok (.lreturn, 1) := by decide +kernel
theorem dX12_hidden_0 : decode cX12_hidden 0 = .ok (.aload_n 0, 1) := by decide +kernel
theorem dX12_hidden_1 : decode cX12_hidden 1 = .ok (.invokevirtual 203, 3) := by decide +kernel
theorem dX12_hidden_4 : decode cX12_hidden 4 = .ok (.ifCond .ne 7, 3) := by decide +kernel
theorem dX12_hidden_7 : decode cX12_hidden 7 = .ok (.ldc2_w 201, 3) := by decide +kernel
theorem dX12_hidden_10 : decode cX12_hidden 10 = .ok (.lreturn, 1) := by decide +kernel
theorem dX12_hidden_11 : decode cX12_hidden 11 = .ok (.lconst 0, 1) := by decide +kernel
theorem dX12_hidden_12 : decode cX12_hidden 12 = .ok (.lstore_n 1, 1) := by decide +kernel
theorem dX12_hidden_13 : decode cX12_hidden 13 = .ok (.iconst 0, 1) := by decide +kernel
theorem dX12_hidden_14 : decode cX12_hidden 14 = .ok (.istore_n 3, 1) := by decide +kernel
theorem dX12_hidden_15 : decode cX12_hidden 15 = .ok (.iload_n 3, 1) := by decide +kernel
theorem dX12_hidden_16 : decode cX12_hidden 16 = .ok (.bipush 36, 2) := by decide +kernel
theorem dX12_hidden_18 : decode cX12_hidden 18 = .ok (.if_icmp .ge 27, 3) := by decide +kernel
theorem dX12_hidden_21 : decode cX12_hidden 21 = .ok (.lload_n 1, 1) := by decide +kernel
theorem dX12_hidden_22 : decode cX12_hidden 22 = .ok (.aload_n 0, 1) := by decide +kernel
theorem dX12_hidden_23 : decode cX12_hidden 23 = .ok (.iload_n 3, 1) := by decide +kernel
theorem dX12_hidden_24 : decode cX12_hidden 24 = .ok (.invokevirtual 187, 3) := by decide +kernel
theorem dX12_hidden_27 : decode cX12_hidden 27 = .ok (.ifCond .eq 9, 3) := by decide +kernel
theorem dX12_hidden_30 : decode cX12_hidden 30 = .ok (.lconst 1, 1) := by decide +kernel
theorem dX12_hidden_31 : decode cX12_hidden 31 = .ok (.iload_n 3, 1) := by decide +kernel
theorem dX12_hidden_32 : decode cX12_hidden 32 = .ok (.lshl, 1) := by decide +kernel
theorem dX12_hidden_33 : decode cX12_hidden 33 = .ok (.goto 4, 3) := by decide +kernel
theorem dX12_hidden_36 : decode cX12_hidden 36 = .ok (.lconst 0, 1) := by decide +kernel
theorem dX12_hidden_37 : decode cX12_hidden 37 = .ok (.lor, 1) := by decide +kernel
theorem dX12_hidden_38 : decode cX12_hidden 38 = .ok (.lstore_n 1, 1) := by decide +kernel
theorem dX12_hidden_39 : decode cX12_hidden 39 = .ok (.iinc 3 1, 3) := by decide +kernel
theorem dX12_hidden_42 : decode cX12_hidden 42 = .ok (.goto (-27), 3) := by decide +kernel
theorem dX12_hidden_45 : decode cX12_hidden 45 = .ok (.iconst 0, 1) := by decide +kernel
theorem dX12_hidden_46 : decode cX12_hidden 46 = .ok (.istore_n 3, 1) := by decide +kernel
theorem dX12_hidden_47 : decode cX12_hidden 47 = .ok (.iload_n 3, 1) := by decide +kernel
theorem dX12_hidden_48 : decode cX12_hidden 48 = .ok (.aload_n 0, 1) := by decide +kernel
theorem dX12_hidden_49 : decode cX12_hidden 49 = .ok (.getfield 7, 3) := by decide +kernel
theorem dX12_hidden_52 : decode cX12_hidden 52 = .ok (.iconst 2, 1) := by decide +kernel
theorem dX12_hidden_53 : decode cX12_hidden 53 = .ok (.iaload, 1) := by decide +kernel
theorem dX12_hidden_54 : decode cX12_hidden 54 = .ok (.if_icmp .ge 32, 3) := by decide +kernel
theorem dX12_hidden_57 : decode cX12_hidden 57 = .ok (.lload_n 1, 1) := by decide +kernel
theorem dX12_hidden_58 : decode cX12_hidden 58 = .ok (.aload_n 0, 1) := by decide +kernel
theorem dX12_hidden_59 : decode cX12_hidden 59 = .ok (.aload_n 0, 1) := by decide +kernel
theorem dX12_hidden_60 : decode cX12_hidden 60 = .ok (.getfield 16, 3) := by decide +kernel
theorem dX12_hidden_63 : decode cX12_hidden 63 = .ok (.iload_n 3, 1) := by decide +kernel
theorem dX12_hidden_64 : decode cX12_hidden 64 = .ok (.iaload, 1) := by decide +kernel
theorem dX12_hidden_65 : decode cX12_hidden 65 = .ok (.aload_n 0, 1) := by decide +kernel
theorem dX12_hidden_66 : decode cX12_hidden 66 = .ok (.getfield 19, 3) := by decide +kernel
theorem dX12_hidden_69 : decode cX12_hidden 69 = .ok (.iload_n 3, 1) := by decide +kernel
theorem dX12_hidden_70 : decode cX12_hidden 70 = .ok (.iaload, 1) := by decide +kernel
theorem dX12_hidden_71 : decode cX12_hidden 71 = .ok (.invokevirtual 197, 3) := by decide +kernel
theorem dX12_hidden_74 : decode cX12_hidden 74 = .ok (.ldc2_w 201, 3) := by decide +kernel
theorem dX12_hidden_77 : decode cX12_hidden 77 = .ok (.lxor, 1) := by decide +kernel
theorem dX12_hidden_78 : decode cX12_hidden 78 = .ok (.land, 1) := by decide +kernel
theorem dX12_hidden_79 : decode cX12_hidden 79 = .ok (.lstore_n 1, 1) := by decide +kernel
theorem dX12_hidden_80 : decode cX12_hidden 80 = .ok (.iinc 3 1, 3) := by decide +kernel
theorem dX12_hidden_83 : decode cX12_hidden 83 = .ok (.goto (-36), 3) := by decide +kernel
theorem dX12_hidden_86 : decode cX12_hidden 86 = .ok (.lload_n 1, 1) := by decide +kernel
theorem dX12_hidden_87 : decode cX12_hidden 87 = .ok (.lreturn, 1) := by decide +kernel
theorem dX12_manySee_0 : decode cX12_manySee 0 = .ok (.iconst 0, 1) := by decide +kernel
theorem dX12_manySee_1 : decode cX12_manySee 1 = .ok (.istore_n 2, 1) := by decide +kernel
theorem dX12_manySee_2 : decode cX12_manySee 2 = .ok (.iconst 0, 1) := by decide +kernel
theorem dX12_manySee_3 : decode cX12_manySee 3 = .ok (.istore_n 3, 1) := by decide +kernel
theorem dX12_manySee_4 : decode cX12_manySee 4 = .ok (.iload_n 3, 1) := by decide +kernel
theorem dX12_manySee_5 : decode cX12_manySee 5 = .ok (.aload_n 0, 1) := by decide +kernel
theorem dX12_manySee_6 : decode cX12_manySee 6 = .ok (.getfield 7, 3) := by decide +kernel
theorem dX12_manySee_9 : decode cX12_manySee 9 = .ok (.iconst 2, 1) := by decide +kernel
theorem dX12_manySee_10 : decode cX12_manySee 10 = .ok (.iaload, 1) := by decide +kernel
theorem dX12_manySee_11 : decode cX12_manySee 11 = .ok (.if_icmp .ge 37, 3) := by decide +kernel
theorem dX12_manySee_14 : decode cX12_manySee 14 = .ok (.iload_n 2, 1) := by decide +kernel
theorem dX12_manySee_15 : decode cX12_manySee 15 = .ok (.aload_n 0, 1) := by decide +kernel
theorem dX12_manySee_16 : decode cX12_manySee 16 = .ok (.aload_n 0, 1) := by decide +kernel
theorem dX12_manySee_17 : decode cX12_manySee 17 = .ok (.getfield 16, 3) := by decide +kernel
theorem dX12_manySee_20 : decode cX12_manySee 20 = .ok (.iload_n 3, 1) := by decide +kernel
theorem dX12_manySee_21 : decode cX12_manySee 21 = .ok (.iaload, 1) := by decide +kernel
theorem dX12_manySee_22 : decode cX12_manySee 22 = .ok (.iload_n 1, 1) := by decide +kernel
theorem dX12_manySee_23 : decode cX12_manySee 23 = .ok (.aload_n 0, 1) := by decide +kernel
theorem dX12_manySee_24 : decode cX12_manySee 24 = .ok (.getfield 19, 3) := by decide +kernel
theorem dX12_manySee_27 : decode cX12_manySee 27 = .ok (.iload_n 3, 1) := by decide +kernel
theorem dX12_manySee_28 : decode cX12_manySee 28 = .ok (.iaload, 1) := by decide +kernel
theorem dX12_manySee_29 : decode cX12_manySee 29 = .ok (.invokevirtual 190, 3) := by decide +kernel
theorem dX12_manySee_32 : decode cX12_manySee 32 = .ok (.ifCond .eq 7, 3) := by decide +kernel
theorem dX12_manySee_35 : decode cX12_manySee 35 = .ok (.iconst 1, 1) := by decide +kernel
theorem dX12_manySee_36 : decode cX12_manySee 36 = .ok (.goto 4, 3) := by decide +kernel
theorem dX12_manySee_39 : decode cX12_manySee 39 = .ok (.iconst 0, 1) := by decide +kernel
theorem dX12_manySee_40 : decode cX12_manySee 40 = .ok (.iadd, 1) := by decide +kernel
theorem dX12_manySee_41 : decode cX12_manySee 41 = .ok (.istore_n 2, 1) := by decide +kernel
theorem dX12_manySee_42 : decode cX12_manySee 42 = .ok (.iinc 3 1, 3) := by decide +kernel
theorem dX12_manySee_45 : decode cX12_manySee 45 = .ok (.goto (-41), 3) := by decide +kernel
theorem dX12_manySee_48 : decode cX12_manySee 48 = .ok (.iload_n 2, 1) := by decide +kernel
theorem dX12_manySee_49 : decode cX12_manySee 49 = .ok (.ireturn, 1) := by decide +kernel
theorem dX12_manyRoads_0 : decode cX12_manyRoads 0 = .ok (.iconst 0, 1) := by decide +kernel
theorem dX12_manyRoads_1 : decode cX12_manyRoads 1 = .ok (.istore_n 2, 1) := by decide +kernel
theorem dX12_manyRoads_2 : decode cX12_manyRoads 2 = .ok (.iconst 0, 1) := by decide +kernel
theorem dX12_manyRoads_3 : decode cX12_manyRoads 3 = .ok (.istore_n 3, 1) := by decide +kernel
theorem dX12_manyRoads_4 : decode cX12_manyRoads 4 = .ok (.iload_n 3, 1) := by decide +kernel
theorem dX12_manyRoads_5 : decode cX12_manyRoads 5 = .ok (.aload_n 0, 1) := by decide +kernel
theorem dX12_manyRoads_6 : decode cX12_manyRoads 6 = .ok (.getfield 7, 3) := by decide +kernel
theorem dX12_manyRoads_9 : decode cX12_manyRoads 9 = .ok (.iconst 3, 1) := by decide +kernel
theorem dX12_manyRoads_10 : decode cX12_manyRoads 10 = .ok (.iaload, 1) := by decide +kernel
theorem dX12_manyRoads_11 : decode cX12_manyRoads 11 = .ok (.if_icmp .ge 29, 3) := by decide +kernel
theorem dX12_manyRoads_14 : decode cX12_manyRoads 14 = .ok (.iload_n 2, 1) := by decide +kernel
theorem dX12_manyRoads_15 : decode cX12_manyRoads 15 = .ok (.aload_n 0, 1) := by decide +kernel
theorem dX12_manyRoads_16 : decode cX12_manyRoads 16 = .ok (.iload_n 3, 1) := by decide +kernel
theorem dX12_manyRoads_17 : decode cX12_manyRoads 17 = .ok (.invokevirtual 207, 3) := by decide +kernel
theorem dX12_manyRoads_20 : decode cX12_manyRoads 20 = .ok (.iload_n 1, 1) := by decide +kernel
theorem dX12_manyRoads_21 : decode cX12_manyRoads 21 = .ok (.invokestatic 211, 3) := by decide +kernel
theorem dX12_manyRoads_24 : decode cX12_manyRoads 24 = .ok (.ifCond .eq 7, 3) := by decide +kernel
theorem dX12_manyRoads_27 : decode cX12_manyRoads 27 = .ok (.iconst 1, 1) := by decide +kernel
theorem dX12_manyRoads_28 : decode cX12_manyRoads 28 = .ok (.goto 4, 3) := by decide +kernel
theorem dX12_manyRoads_31 : decode cX12_manyRoads 31 = .ok (.iconst 0, 1) := by decide +kernel
theorem dX12_manyRoads_32 : decode cX12_manyRoads 32 = .ok (.iadd, 1) := by decide +kernel
theorem dX12_manyRoads_33 : decode cX12_manyRoads 33 = .ok (.istore_n 2, 1) := by decide +kernel
theorem dX12_manyRoads_34 : decode cX12_manyRoads 34 = .ok (.iinc 3 1, 3) := by decide +kernel
theorem dX12_manyRoads_37 : decode cX12_manyRoads 37 = .ok (.goto (-33), 3) := by decide +kernel
theorem dX12_manyRoads_40 : decode cX12_manyRoads 40 = .ok (.iload_n 2, 1) := by decide +kernel
theorem dX12_manyRoads_41 : decode cX12_manyRoads 41 = .ok (.ireturn, 1) := by decide +kernel
theorem dX12_woodsBeside_0 : decode cX12_woodsBeside 0 = .ok (.iconst 0, 1) := by decide +kernel
theorem dX12_woodsBeside_1 : decode cX12_woodsBeside 1 = .ok (.istore_n 2, 1) := by decide +kernel
theorem dX12_woodsBeside_2 : decode cX12_woodsBeside 2 = .ok (.iconst 0, 1) := by decide +kernel
theorem dX12_woodsBeside_3 : decode cX12_woodsBeside 3 = .ok (.istore_n 3, 1) := by decide +kernel
theorem dX12_woodsBeside_4 : decode cX12_woodsBeside 4 = .ok (.iload_n 3, 1) := by decide +kernel
theorem dX12_woodsBeside_5 : decode cX12_woodsBeside 5 = .ok (.bipush 36, 2) := by decide +kernel
theorem dX12_woodsBeside_7 : decode cX12_woodsBeside 7 = .ok (.if_icmp .ge 42, 3) := by decide +kernel
theorem dX12_woodsBeside_10 : decode cX12_woodsBeside 10 = .ok (.iload_n 2, 1) := by decide +kernel
theorem dX12_woodsBeside_11 : decode cX12_woodsBeside 11 = .ok (.aload_n 0, 1) := by decide +kernel
theorem dX12_woodsBeside_12 : decode cX12_woodsBeside 12 = .ok (.iload_n 3, 1) := by decide +kernel
theorem dX12_woodsBeside_13 : decode cX12_woodsBeside 13 = .ok (.invokevirtual 187, 3) := by decide +kernel
theorem dX12_woodsBeside_16 : decode cX12_woodsBeside 16 = .ok (.ifCond .eq 24, 3) := by decide +kernel
theorem dX12_woodsBeside_19 : decode cX12_woodsBeside 19 = .ok (.iload_n 3, 1) := by decide +kernel
theorem dX12_woodsBeside_20 : decode cX12_woodsBeside 20 = .ok (.iload_n 1, 1) := by decide +kernel
theorem dX12_woodsBeside_21 : decode cX12_woodsBeside 21 = .ok (.invokestatic 176, 3) := by decide +kernel
theorem dX12_woodsBeside_24 : decode cX12_woodsBeside 24 = .ok (.iconst 1, 1) := by decide +kernel
theorem dX12_woodsBeside_25 : decode cX12_woodsBeside 25 = .ok (.if_icmp .ne 15, 3) := by decide +kernel
theorem dX12_woodsBeside_28 : decode cX12_woodsBeside 28 = .ok (.aload_n 0, 1) := by decide +kernel
theorem dX12_woodsBeside_29 : decode cX12_woodsBeside 29 = .ok (.iload_n 3, 1) := by decide +kernel
theorem dX12_woodsBeside_30 : decode cX12_woodsBeside 30 = .ok (.invokevirtual 183, 3) := by decide +kernel
theorem dX12_woodsBeside_33 : decode cX12_woodsBeside 33 = .ok (.ifCond .eq 7, 3) := by decide +kernel
theorem dX12_woodsBeside_36 : decode cX12_woodsBeside 36 = .ok (.iconst 1, 1) := by decide +kernel
theorem dX12_woodsBeside_37 : decode cX12_woodsBeside 37 = .ok (.goto 4, 3) := by decide +kernel
theorem dX12_woodsBeside_40 : decode cX12_woodsBeside 40 = .ok (.iconst 0, 1) := by decide +kernel
theorem dX12_woodsBeside_41 : decode cX12_woodsBeside 41 = .ok (.iadd, 1) := by decide +kernel
theorem dX12_woodsBeside_42 : decode cX12_woodsBeside 42 = .ok (.istore_n 2, 1) := by decide +kernel
theorem dX12_woodsBeside_43 : decode cX12_woodsBeside 43 = .ok (.iinc 3 1, 3) := by decide +kernel
theorem dX12_woodsBeside_46 : decode cX12_woodsBeside 46 = .ok (.goto (-42), 3) := by decide +kernel
theorem dX12_woodsBeside_49 : decode cX12_woodsBeside 49 = .ok (.iload_n 2, 1) := by decide +kernel
theorem dX12_woodsBeside_50 : decode cX12_woodsBeside 50 = .ok (.ireturn, 1) := by decide +kernel
theorem dX12_feed_0 : decode cX12_feed 0 = .ok (.aload_n 0, 1) := by decide +kernel
theorem dX12_feed_1 : decode cX12_feed 1 = .ok (.getfield 215, 3) := by decide +kernel
theorem dX12_feed_4 : decode cX12_feed 4 = .ok (.bipush 20, 2) := by decide +kernel
theorem dX12_feed_6 : decode cX12_feed 6 = .ok (.iadd, 1) := by decide +kernel
theorem dX12_feed_7 : decode cX12_feed 7 = .ok (.sipush 400, 3) := by decide +kernel
theorem dX12_feed_10 : decode cX12_feed 10 = .ok (.if_icmp .le 5, 3) := by decide +kernel
theorem dX12_feed_13 : decode cX12_feed 13 = .ok (.iconst (-1), 1) := by decide +kernel
theorem dX12_feed_14 : decode cX12_feed 14 = .ok (.ireturn, 1) := by decide +kernel
theorem dX12_feed_15 : decode cX12_feed 15 = .ok (.aload_n 0, 1) := by decide +kernel
theorem dX12_feed_16 : decode cX12_feed 16 = .ok (.iload_n 1, 1) := by decide +kernel
theorem dX12_feed_17 : decode cX12_feed 17 = .ok (.invokevirtual 218, 3) := by decide +kernel
theorem dX12_feed_20 : decode cX12_feed 20 = .ok (.aload_n 0, 1) := by decide +kernel
theorem dX12_feed_21 : decode cX12_feed 21 = .ok (.iload_n 2, 1) := by decide +kernel
theorem dX12_feed_22 : decode cX12_feed 22 = .ok (.invokevirtual 218, 3) := by decide +kernel
theorem dX12_feed_25 : decode cX12_feed 25 = .ok (.aload_n 0, 1) := by decide +kernel
theorem dX12_feed_26 : decode cX12_feed 26 = .ok (.iload_n 3, 1) := by decide +kernel
theorem dX12_feed_27 : decode cX12_feed 27 = .ok (.invokevirtual 218, 3) := by decide +kernel
theorem dX12_feed_30 : decode cX12_feed 30 = .ok (.aload_n 0, 1) := by decide +kernel
theorem dX12_feed_31 : decode cX12_feed 31 = .ok (.iload 4, 2) := by decide +kernel
theorem dX12_feed_33 : decode cX12_feed 33 = .ok (.invokevirtual 218, 3) := by decide +kernel
theorem dX12_feed_36 : decode cX12_feed 36 = .ok (.aload_n 0, 1) := by decide +kernel
theorem dX12_feed_37 : decode cX12_feed 37 = .ok (.iload 5, 2) := by decide +kernel
theorem dX12_feed_39 : decode cX12_feed 39 = .ok (.invokevirtual 218, 3) := by decide +kernel
theorem dX12_feed_42 : decode cX12_feed 42 = .ok (.aload_n 0, 1) := by decide +kernel
theorem dX12_feed_43 : decode cX12_feed 43 = .ok (.getfield 215, 3) := by decide +kernel
theorem dX12_feed_46 : decode cX12_feed 46 = .ok (.ireturn, 1) := by decide +kernel
theorem dX12_put_0 : decode cX12_put 0 = .ok (.bipush 24, 2) := by decide +kernel
theorem dX12_put_2 : decode cX12_put 2 = .ok (.istore_n 2, 1) := by decide +kernel
theorem dX12_put_3 : decode cX12_put 3 = .ok (.iload_n 2, 1) := by decide +kernel
theorem dX12_put_4 : decode cX12_put 4 = .ok (.ifCond .lt 32, 3) := by decide +kernel
theorem dX12_put_7 : decode cX12_put 7 = .ok (.aload_n 0, 1) := by decide +kernel
theorem dX12_put_8 : decode cX12_put 8 = .ok (.getfield 71, 3) := by decide +kernel
theorem dX12_put_11 : decode cX12_put 11 = .ok (.aload_n 0, 1) := by decide +kernel
theorem dX12_put_12 : decode cX12_put 12 = .ok (.getfield 215, 3) := by decide +kernel
theorem dX12_put_15 : decode cX12_put 15 = .ok (.iload_n 1, 1) := by decide +kernel
theorem dX12_put_16 : decode cX12_put 16 = .ok (.iload_n 2, 1) := by decide +kernel
theorem dX12_put_17 : decode cX12_put 17 = .ok (.ishr, 1) := by decide +kernel
theorem dX12_put_18 : decode cX12_put 18 = .ok (.i2b, 1) := by decide +kernel
theorem dX12_put_19 : decode cX12_put 19 = .ok (.bastore, 1) := by decide +kernel
theorem dX12_put_20 : decode cX12_put 20 = .ok (.aload_n 0, 1) := by decide +kernel
theorem dX12_put_21 : decode cX12_put 21 = .ok (.dup, 1) := by decide +kernel
theorem dX12_put_22 : decode cX12_put 22 = .ok (.getfield 215, 3) := by decide +kernel
theorem dX12_put_25 : decode cX12_put 25 = .ok (.iconst 1, 1) := by decide +kernel
theorem dX12_put_26 : decode cX12_put 26 = .ok (.iadd, 1) := by decide +kernel
theorem dX12_put_27 : decode cX12_put 27 = .ok (.putfield 215, 3) := by decide +kernel
theorem dX12_put_30 : decode cX12_put 30 = .ok (.iinc 2 (-8), 3) := by decide +kernel
theorem dX12_put_33 : decode cX12_put 33 = .ok (.goto (-30), 3) := by decide +kernel
theorem dX12_put_36 : decode cX12_put 36 = .ok (.return_, 1) := by decide +kernel
theorem dX12_end_0 : decode cX12_end 0 = .ok (.iload_n 1, 1) := by decide +kernel
theorem dX12_end_1 : decode cX12_end 1 = .ok (.ifCond .lt 11, 3) := by decide +kernel
theorem dX12_end_4 : decode cX12_end 4 = .ok (.iload_n 1, 1) := by decide +kernel
theorem dX12_end_5 : decode cX12_end 5 = .ok (.aload_n 0, 1) := by decide +kernel
theorem dX12_end_6 : decode cX12_end 6 = .ok (.getfield 215, 3) := by decide +kernel
theorem dX12_end_9 : decode cX12_end 9 = .ok (.if_icmp .le 5, 3) := by decide +kernel
theorem dX12_end_12 : decode cX12_end 12 = .ok (.iconst (-1), 1) := by decide +kernel
theorem dX12_end_13 : decode cX12_end 13 = .ok (.ireturn, 1) := by decide +kernel
theorem dX12_end_14 : decode cX12_end 14 = .ok (.aload_n 0, 1) := by decide +kernel
theorem dX12_end_15 : decode cX12_end 15 = .ok (.iload_n 1, 1) := by decide +kernel
theorem dX12_end_16 : decode cX12_end 16 = .ok (.putfield 215, 3) := by decide +kernel
theorem dX12_end_19 : decode cX12_end 19 = .ok (.iload_n 1, 1) := by decide +kernel
theorem dX12_end_20 : decode cX12_end 20 = .ok (.ireturn, 1) := by decide +kernel
theorem dX12_wordOf_0 : decode cX12_wordOf 0 = .ok (.iload_n 0, 1) := by decide +kernel
theorem dX12_wordOf_1 : decode cX12_wordOf 1 = .ok (.tableswitch 57 0 5 #[39, 42, 45, 48, 51, 54], 39) := by decide +kernel
theorem dX12_wordOf_40 : decode cX12_wordOf 40 = .ok (.ldc 222, 2) := by decide +kernel
theorem dX12_wordOf_42 : decode cX12_wordOf 42 = .ok (.areturn, 1) := by decide +kernel
theorem dX12_wordOf_43 : decode cX12_wordOf 43 = .ok (.ldc 224, 2) := by decide +kernel
theorem dX12_wordOf_45 : decode cX12_wordOf 45 = .ok (.areturn, 1) := by decide +kernel
theorem dX12_wordOf_46 : decode cX12_wordOf 46 = .ok (.ldc 226, 2) := by decide +kernel
theorem dX12_wordOf_48 : decode cX12_wordOf 48 = .ok (.areturn, 1) := by decide +kernel
theorem dX12_wordOf_49 : decode cX12_wordOf 49 = .ok (.ldc 228, 2) := by decide +kernel
theorem dX12_wordOf_51 : decode cX12_wordOf 51 = .ok (.areturn, 1) := by decide +kernel
theorem dX12_wordOf_52 : decode cX12_wordOf 52 = .ok (.ldc 229, 2) := by decide +kernel
theorem dX12_wordOf_54 : decode cX12_wordOf 54 = .ok (.areturn, 1) := by decide +kernel
theorem dX12_wordOf_55 : decode cX12_wordOf 55 = .ok (.ldc 231, 2) := by decide +kernel
theorem dX12_wordOf_57 : decode cX12_wordOf 57 = .ok (.areturn, 1) := by decide +kernel
theorem dX12_wordOf_58 : decode cX12_wordOf 58 = .ok (.ldc 233, 2) := by decide +kernel
theorem dX12_wordOf_60 : decode cX12_wordOf 60 = .ok (.areturn, 1) := by decide +kernel
theorem dX12_landWord_0 : decode cX12_landWord 0 = .ok (.iload_n 0, 1) := by decide +kernel
theorem dX12_landWord_1 : decode cX12_landWord 1 = .ok (.ifCond .ne 8, 3) := by decide +kernel
theorem dX12_landWord_4 : decode cX12_landWord 4 = .ok (.ldc 235, 2) := by decide +kernel
theorem dX12_landWord_6 : decode cX12_landWord 6 = .ok (.goto 35, 3) := by decide +kernel
theorem dX12_landWord_9 : decode cX12_landWord 9 = .ok (.iload_n 0, 1) := by decide +kernel
theorem dX12_landWord_10 : decode cX12_landWord 10 = .ok (.iconst 1, 1) := by decide +kernel
theorem dX12_landWord_11 : decode cX12_landWord 11 = .ok (.if_icmp .ne 8, 3) := by decide +kernel
theorem dX12_landWord_14 : decode cX12_landWord 14 = .ok (.ldc 237, 2) := by decide +kernel
theorem dX12_landWord_16 : decode cX12_landWord 16 = .ok (.goto 25, 3) := by decide +kernel
theorem dX12_landWord_19 : decode cX12_landWord 19 = .ok (.iload_n 0, 1) := by decide +kernel
theorem dX12_landWord_20 : decode cX12_landWord 20 = .ok (.iconst 2, 1) := by decide +kernel
theorem dX12_landWord_21 : decode cX12_landWord 21 = .ok (.if_icmp .ne 8, 3) := by decide +kernel
theorem dX12_landWord_24 : decode cX12_landWord 24 = .ok (.ldc 229, 2) := by decide +kernel
theorem dX12_landWord_26 : decode cX12_landWord 26 = .ok (.goto 15, 3) := by decide +kernel
theorem dX12_landWord_29 : decode cX12_landWord 29 = .ok (.iload_n 0, 1) := by decide +kernel
theorem dX12_landWord_30 : decode cX12_landWord 30 = .ok (.iconst 3, 1) := by decide +kernel
theorem dX12_landWord_31 : decode cX12_landWord 31 = .ok (.if_icmp .ne 8, 3) := by decide +kernel
theorem dX12_landWord_34 : decode cX12_landWord 34 = .ok (.ldc 231, 2) := by decide +kernel
theorem dX12_landWord_36 : decode cX12_landWord 36 = .ok (.goto 5, 3) := by decide +kernel
theorem dX12_landWord_39 : decode cX12_landWord 39 = .ok (.ldc 239, 2) := by decide +kernel
theorem dX12_landWord_41 : decode cX12_landWord 41 = .ok (.areturn, 1) := by decide +kernel
theorem dX12_fails_0 : decode cX12_fails 0 = .ok (.aload_n 0, 1) := by decide +kernel
theorem dX12_fails_1 : decode cX12_fails 1 = .ok (.aload_n 0, 1) := by decide +kernel
theorem dX12_fails_2 : decode cX12_fails 2 = .ok (.getfield 240, 3) := by decide +kernel
theorem dX12_fails_5 : decode cX12_fails 5 = .ok (.ifCond .ne 14, 3) := by decide +kernel
theorem dX12_fails_8 : decode cX12_fails 8 = .ok (.iconst 1, 1) := by decide +kernel
theorem dX12_fails_9 : decode cX12_fails 9 = .ok (.bipush 8, 2) := by decide +kernel
theorem dX12_fails_11 : decode cX12_fails 11 = .ok (.iload_n 2, 1) := by decide +kernel
theorem dX12_fails_12 : decode cX12_fails 12 = .ok (.imul, 1) := by decide +kernel
theorem dX12_fails_13 : decode cX12_fails 13 = .ok (.iadd, 1) := by decide +kernel
theorem dX12_fails_14 : decode cX12_fails 14 = .ok (.iload_n 1, 1) := by decide +kernel
theorem dX12_fails_15 : decode cX12_fails 15 = .ok (.iadd, 1) := by decide +kernel
theorem dX12_fails_16 : decode cX12_fails 16 = .ok (.goto 7, 3) := by decide +kernel
theorem dX12_fails_19 : decode cX12_fails 19 = .ok (.aload_n 0, 1) := by decide +kernel
theorem dX12_fails_20 : decode cX12_fails 20 = .ok (.getfield 240, 3) := by decide +kernel
theorem dX12_fails_23 : decode cX12_fails 23 = .ok (.putfield 240, 3) := by decide +kernel
theorem dX12_fails_26 : decode cX12_fails 26 = .ok (.return_, 1) := by decide +kernel
theorem dX12_sign_0 : decode cX12_sign 0 = .ok (.aload_n 0, 1) := by decide +kernel
theorem dX12_sign_1 : decode cX12_sign 1 = .ok (.getfield 243, 3) := by decide +kernel
theorem dX12_sign_4 : decode cX12_sign 4 = .ok (.aload_n 0, 1) := by decide +kernel
theorem dX12_sign_5 : decode cX12_sign 5 = .ok (.getfield 215, 3) := by decide +kernel
theorem dX12_sign_8 : decode cX12_sign 8 = .ok (.if_icmp .ge 19, 3) := by decide +kernel
theorem dX12_sign_11 : decode cX12_sign 11 = .ok (.aload_n 0, 1) := by decide +kernel
theorem dX12_sign_12 : decode cX12_sign 12 = .ok (.getfield 71, 3) := by decide +kernel
theorem dX12_sign_15 : decode cX12_sign 15 = .ok (.aload_n 0, 1) := by decide +kernel
theorem dX12_sign_16 : decode cX12_sign 16 = .ok (.getfield 243, 3) := by decide +kernel
theorem dX12_sign_19 : decode cX12_sign 19 = .ok (.baload, 1) := by decide +kernel
theorem dX12_sign_20 : decode cX12_sign 20 = .ok (.sipush 255, 3) := by decide +kernel
theorem dX12_sign_23 : decode cX12_sign 23 = .ok (.iand, 1) := by decide +kernel
theorem dX12_sign_24 : decode cX12_sign 24 = .ok (.goto 4, 3) := by decide +kernel
theorem dX12_sign_27 : decode cX12_sign 27 = .ok (.iconst (-1), 1) := by decide +kernel
theorem dX12_sign_28 : decode cX12_sign 28 = .ok (.ireturn, 1) := by decide +kernel
theorem dX12_blanks_0 : decode cX12_blanks 0 = .ok (.aload_n 0, 1) := by decide +kernel
theorem dX12_blanks_1 : decode cX12_blanks 1 = .ok (.invokevirtual 246, 3) := by decide +kernel
theorem dX12_blanks_4 : decode cX12_blanks 4 = .ok (.bipush 32, 2) := by decide +kernel
theorem dX12_blanks_6 : decode cX12_blanks 6 = .ok (.if_icmp .ne 16, 3) := by decide +kernel
theorem dX12_blanks_9 : decode cX12_blanks 9 = .ok (.aload_n 0, 1) := by decide +kernel
theorem dX12_blanks_10 : decode cX12_blanks 10 = .ok (.dup, 1) := by decide +kernel
theorem dX12_blanks_11 : decode cX12_blanks 11 = .ok (.getfield 243, 3) := by decide +kernel
theorem dX12_blanks_14 : decode cX12_blanks 14 = .ok (.iconst 1, 1) := by decide +kernel
theorem dX12_blanks_15 : decode cX12_blanks 15 = .ok (.iadd, 1) := by decide +kernel
theorem dX12_blanks_16 : decode cX12_blanks 16 = .ok (.putfield 243, 3) := by decide +kernel
theorem dX12_blanks_19 : decode cX12_blanks 19 = .ok (.goto (-19), 3) := by decide +kernel
theorem dX12_blanks_22 : decode cX12_blanks 22 = .ok (.return_, 1) := by decide +kernel
theorem dX12_isDigit_0 : decode cX12_isDigit 0 = .ok (.aload_n 0, 1) := by decide +kernel
theorem dX12_isDigit_1 : decode cX12_isDigit 1 = .ok (.invokevirtual 246, 3) := by decide +kernel
theorem dX12_isDigit_4 : decode cX12_isDigit 4 = .ok (.i2l, 1) := by decide +kernel
theorem dX12_isDigit_5 : decode cX12_isDigit 5 = .ok (.ldc2_w 250, 3) := by decide +kernel
theorem dX12_isDigit_8 : decode cX12_isDigit 8 = .ok (.ldc2_w 252, 3) := by decide +kernel
theorem dX12_isDigit_11 : decode cX12_isDigit 11 = .ok (.invokestatic 161, 3) := by decide +kernel
theorem dX12_isDigit_14 : decode cX12_isDigit 14 = .ok (.ireturn, 1) := by decide +kernel
theorem dX12_stood_0 : decode cX12_stood 0 = .ok (.aload_n 0, 1) := by decide +kernel
theorem dX12_stood_1 : decode cX12_stood 1 = .ok (.getfield 243, 3) := by decide +kernel
theorem dX12_stood_4 : decode cX12_stood 4 = .ok (.istore_n 2, 1) := by decide +kernel
theorem dX12_stood_5 : decode cX12_stood 5 = .ok (.iload_n 2, 1) := by decide +kernel
theorem dX12_stood_6 : decode cX12_stood 6 = .ok (.aload_n 0, 1) := by decide +kernel
theorem dX12_stood_7 : decode cX12_stood 7 = .ok (.getfield 215, 3) := by decide +kernel
theorem dX12_stood_10 : decode cX12_stood 10 = .ok (.if_icmp .ge 31, 3) := by decide +kernel
theorem dX12_stood_13 : decode cX12_stood 13 = .ok (.aload_n 0, 1) := by decide +kernel
theorem dX12_stood_14 : decode cX12_stood 14 = .ok (.getfield 71, 3) := by decide +kernel
theorem dX12_stood_17 : decode cX12_stood 17 = .ok (.iload_n 2, 1) := by decide +kernel
theorem dX12_stood_18 : decode cX12_stood 18 = .ok (.baload, 1) := by decide +kernel
theorem dX12_stood_19 : decode cX12_stood 19 = .ok (.bipush 97, 2) := by decide +kernel
theorem dX12_stood_21 : decode cX12_stood 21 = .ok (.if_icmp .lt 20, 3) := by decide +kernel
theorem dX12_stood_24 : decode cX12_stood 24 = .ok (.aload_n 0, 1) := by decide +kernel
theorem dX12_stood_25 : decode cX12_stood 25 = .ok (.getfield 71, 3) := by decide +kernel
theorem dX12_stood_28 : decode cX12_stood 28 = .ok (.iload_n 2, 1) := by decide +kernel
theorem dX12_stood_29 : decode cX12_stood 29 = .ok (.baload, 1) := by decide +kernel
theorem dX12_stood_30 : decode cX12_stood 30 = .ok (.bipush 122, 2) := by decide +kernel
theorem dX12_stood_32 : decode cX12_stood 32 = .ok (.if_icmp .gt 9, 3) := by decide +kernel
theorem dX12_stood_35 : decode cX12_stood 35 = .ok (.iinc 2 1, 3) := by decide +kernel
theorem dX12_stood_38 : decode cX12_stood 38 = .ok (.goto (-33), 3) := by decide +kernel
theorem dX12_stood_41 : decode cX12_stood 41 = .ok (.iload_n 2, 1) := by decide +kernel
theorem dX12_stood_42 : decode cX12_stood 42 = .ok (.aload_n 0, 1) := by decide +kernel
theorem dX12_stood_43 : decode cX12_stood 43 = .ok (.getfield 243, 3) := by decide +kernel
theorem dX12_stood_46 : decode cX12_stood 46 = .ok (.isub, 1) := by decide +kernel
theorem dX12_stood_47 : decode cX12_stood 47 = .ok (.aload_n 1, 1) := by decide +kernel
theorem dX12_stood_48 : decode cX12_stood 48 = .ok (.invokevirtual 254, 3) := by decide +kernel
theorem dX12_stood_51 : decode cX12_stood 51 = .ok (.if_icmp .ne 7, 3) := by decide +kernel
theorem dX12_stood_54 : decode cX12_stood 54 = .ok (.iconst 1, 1) := by decide +kernel
theorem dX12_stood_55 : decode cX12_stood 55 = .ok (.goto 4, 3) := by decide +kernel
theorem dX12_stood_58 : decode cX12_stood 58 = .ok (.iconst 0, 1) := by decide +kernel
theorem dX12_stood_59 : decode cX12_stood 59 = .ok (.istore_n 3, 1) := by decide +kernel
theorem dX12_stood_60 : decode cX12_stood 60 = .ok (.iconst 0, 1) := by decide +kernel
theorem dX12_stood_61 : decode cX12_stood 61 = .ok (.istore 4, 2) := by decide +kernel
theorem dX12_stood_63 : decode cX12_stood 63 = .ok (.iload 4, 2) := by decide +kernel
theorem dX12_stood_65 : decode cX12_stood 65 = .ok (.aload_n 1, 1) := by decide +kernel
theorem dX12_stood_66 : decode cX12_stood 66 = .ok (.invokevirtual 254, 3) := by decide +kernel
theorem dX12_stood_69 : decode cX12_stood 69 = .ok (.if_icmp .ge 40, 3) := by decide +kernel
theorem dX12_stood_72 : decode cX12_stood 72 = .ok (.iload_n 3, 1) := by decide +kernel
theorem dX12_stood_73 : decode cX12_stood 73 = .ok (.ifCond .eq 36, 3) := by decide +kernel
theorem dX12_stood_76 : decode cX12_stood 76 = .ok (.aload_n 0, 1) := by decide +kernel
theorem dX12_stood_77 : decode cX12_stood 77 = .ok (.getfield 71, 3) := by decide +kernel
theorem dX12_stood_80 : decode cX12_stood 80 = .ok (.aload_n 0, 1) := by decide +kernel
theorem dX12_stood_81 : decode cX12_stood 81 = .ok (.getfield 243, 3) := by decide +kernel
theorem dX12_stood_84 : decode cX12_stood 84 = .ok (.iload 4, 2) := by decide +kernel
theorem dX12_stood_86 : decode cX12_stood 86 = .ok (.iadd, 1) := by decide +kernel
theorem dX12_stood_87 : decode cX12_stood 87 = .ok (.baload, 1) := by decide +kernel
theorem dX12_stood_88 : decode cX12_stood 88 = .ok (.aload_n 1, 1) := by decide +kernel
theorem dX12_stood_89 : decode cX12_stood 89 = .ok (.iload 4, 2) := by decide +kernel
theorem dX12_stood_91 : decode cX12_stood 91 = .ok (.invokevirtual 259, 3) := by decide +kernel
theorem dX12_stood_94 : decode cX12_stood 94 = .ok (.if_icmp .ne 7, 3) := by decide +kernel
theorem dX12_stood_97 : decode cX12_stood 97 = .ok (.iconst 1, 1) := by decide +kernel
theorem dX12_stood_98 : decode cX12_stood 98 = .ok (.goto 4, 3) := by decide +kernel
theorem dX12_stood_101 : decode cX12_stood 101 = .ok (.iconst 0, 1) := by decide +kernel
theorem dX12_stood_102 : decode cX12_stood 102 = .ok (.istore_n 3, 1) := by decide +kernel
theorem dX12_stood_103 : decode cX12_stood 103 = .ok (.iinc 4 1, 3) := by decide +kernel
theorem dX12_stood_106 : decode cX12_stood 106 = .ok (.goto (-43), 3) := by decide +kernel
theorem dX12_stood_109 : decode cX12_stood 109 = .ok (.iload_n 3, 1) := by decide +kernel
theorem dX12_stood_110 : decode cX12_stood 110 = .ok (.ireturn, 1) := by decide +kernel
theorem dX12_entry_0 : decode cX12_entry 0 = .ok (.aload_n 0, 1) := by decide +kernel
theorem dX12_entry_1 : decode cX12_entry 1 = .ok (.getfield 240, 3) := by decide +kernel
theorem dX12_entry_4 : decode cX12_entry 4 = .ok (.ifCond .ne 51, 3) := by decide +kernel
theorem dX12_entry_7 : decode cX12_entry 7 = .ok (.aload_n 0, 1) := by decide +kernel
theorem dX12_entry_8 : decode cX12_entry 8 = .ok (.getfield 75, 3) := by decide +kernel
theorem dX12_entry_11 : decode cX12_entry 11 = .ok (.sipush 300, 3) := by decide +kernel
theorem dX12_entry_14 : decode cX12_entry 14 = .ok (.aload_n 0, 1) := by decide +kernel
theorem dX12_entry_15 : decode cX12_entry 15 = .ok (.getfield 270, 3) := by decide +kernel
theorem dX12_entry_18 : decode cX12_entry 18 = .ok (.imul, 1) := by decide +kernel
theorem dX12_entry_19 : decode cX12_entry 19 = .ok (.aload_n 0, 1) := by decide +kernel
theorem dX12_entry_20 : decode cX12_entry 20 = .ok (.getfield 273, 3) := by decide +kernel
theorem dX12_entry_23 : decode cX12_entry 23 = .ok (.iadd, 1) := by decide +kernel
theorem dX12_entry_24 : decode cX12_entry 24 = .ok (.iload_n 1, 1) := by decide +kernel
theorem dX12_entry_25 : decode cX12_entry 25 = .ok (.iastore, 1) := by decide +kernel
theorem dX12_entry_26 : decode cX12_entry 26 = .ok (.aload_n 0, 1) := by decide +kernel
theorem dX12_entry_27 : decode cX12_entry 27 = .ok (.getfield 78, 3) := by decide +kernel
theorem dX12_entry_30 : decode cX12_entry 30 = .ok (.sipush 300, 3) := by decide +kernel
theorem dX12_entry_33 : decode cX12_entry 33 = .ok (.aload_n 0, 1) := by decide +kernel
theorem dX12_entry_34 : decode cX12_entry 34 = .ok (.getfield 270, 3) := by decide +kernel
theorem dX12_entry_37 : decode cX12_entry 37 = .ok (.imul, 1) := by decide +kernel
theorem dX12_entry_38 : decode cX12_entry 38 = .ok (.aload_n 0, 1) := by decide +kernel
theorem dX12_entry_39 : decode cX12_entry 39 = .ok (.getfield 273, 3) := by decide +kernel
theorem dX12_entry_42 : decode cX12_entry 42 = .ok (.iadd, 1) := by decide +kernel
theorem dX12_entry_43 : decode cX12_entry 43 = .ok (.iload_n 2, 1) := by decide +kernel
theorem dX12_entry_44 : decode cX12_entry 44 = .ok (.iastore, 1) := by decide +kernel
theorem dX12_entry_45 : decode cX12_entry 45 = .ok (.aload_n 0, 1) := by decide +kernel
theorem dX12_entry_46 : decode cX12_entry 46 = .ok (.dup, 1) := by decide +kernel
theorem dX12_entry_47 : decode cX12_entry 47 = .ok (.getfield 273, 3) := by decide +kernel
theorem dX12_entry_50 : decode cX12_entry 50 = .ok (.iconst 1, 1) := by decide +kernel
theorem dX12_entry_51 : decode cX12_entry 51 = .ok (.iadd, 1) := by decide +kernel
theorem dX12_entry_52 : decode cX12_entry 52 = .ok (.putfield 273, 3) := by decide +kernel
theorem dX12_entry_55 : decode cX12_entry 55 = .ok (.return_, 1) := by decide +kernel
theorem dX12_isCounted_0 : decode cX12_isCounted 0 = .ok (.aload_n 0, 1) := by decide +kernel
theorem dX12_isCounted_1 : decode cX12_isCounted 1 = .ok (.getfield 276, 3) := by decide +kernel
theorem dX12_isCounted_4 : decode cX12_isCounted 4 = .ok (.bipush 60, 2) := by decide +kernel
theorem dX12_isCounted_6 : decode cX12_isCounted 6 = .ok (.if_icmp .ne 9, 3) := by decide +kernel
theorem dX12_isCounted_9 : decode cX12_isCounted 9 = .ok (.aload_n 0, 1) := by decide +kernel
theorem dX12_isCounted_10 : decode cX12_isCounted 10 = .ok (.iconst 3, 1) := by decide +kernel
theorem dX12_isCounted_11 : decode cX12_isCounted 11 = .ok (.iload_n 1, 1) := by decide +kernel
theorem dX12_isCounted_12 : decode cX12_isCounted 12 = .ok (.invokevirtual 279, 3) := by decide +kernel
theorem dX12_isCounted_15 : decode cX12_isCounted 15 = .ok (.aload_n 0, 1) := by decide +kernel
theorem dX12_isCounted_16 : decode cX12_isCounted 16 = .ok (.dup, 1) := by decide +kernel
theorem dX12_isCounted_17 : decode cX12_isCounted 17 = .ok (.getfield 276, 3) := by decide +kernel
theorem dX12_isCounted_20 : decode cX12_isCounted 20 = .ok (.iconst 1, 1) := by decide +kernel
theorem dX12_isCounted_21 : decode cX12_isCounted 21 = .ok (.iadd, 1) := by decide +kernel
theorem dX12_isCounted_22 : decode cX12_isCounted 22 = .ok (.putfield 276, 3) := by decide +kernel
theorem dX12_isCounted_25 : decode cX12_isCounted 25 = .ok (.return_, 1) := by decide +kernel
theorem dX12_digits_0 : decode cX12_digits 0 = .ok (.aload_n 0, 1) := by decide +kernel
theorem dX12_digits_1 : decode cX12_digits 1 = .ok (.invokevirtual 283, 3) := by decide +kernel
theorem dX12_digits_4 : decode cX12_digits 4 = .ok (.ifCond .ne 14, 3) := by decide +kernel
theorem dX12_digits_7 : decode cX12_digits 7 = .ok (.aload_n 0, 1) := by decide +kernel
theorem dX12_digits_8 : decode cX12_digits 8 = .ok (.iconst 0, 1) := by decide +kernel
theorem dX12_digits_9 : decode cX12_digits 9 = .ok (.aload_n 0, 1) := by decide +kernel
theorem dX12_digits_10 : decode cX12_digits 10 = .ok (.getfield 243, 3) := by decide +kernel
theorem dX12_digits_13 : decode cX12_digits 13 = .ok (.invokevirtual 279, 3) := by decide +kernel
theorem dX12_digits_16 : decode cX12_digits 16 = .ok (.iconst 0, 1) := by decide +kernel
theorem dX12_digits_17 : decode cX12_digits 17 = .ok (.ireturn, 1) := by decide +kernel
theorem dX12_digits_18 : decode cX12_digits 18 = .ok (.aload_n 0, 1) := by decide +kernel
theorem dX12_digits_19 : decode cX12_digits 19 = .ok (.getfield 243, 3) := by decide +kernel
theorem dX12_digits_22 : decode cX12_digits 22 = .ok (.istore_n 2, 1) := by decide +kernel
theorem dX12_digits_23 : decode cX12_digits 23 = .ok (.iconst 0, 1) := by decide +kernel
theorem dX12_digits_24 : decode cX12_digits 24 = .ok (.istore_n 3, 1) := by decide +kernel
theorem dX12_digits_25 : decode cX12_digits 25 = .ok (.aload_n 0, 1) := by decide +kernel
theorem dX12_digits_26 : decode cX12_digits 26 = .ok (.invokevirtual 283, 3) := by decide +kernel
theorem dX12_digits_29 : decode cX12_digits 29 = .ok (.ifCond .eq 43, 3) := by decide +kernel
theorem dX12_digits_32 : decode cX12_digits 32 = .ok (.aload_n 0, 1) := by decide +kernel
theorem dX12_digits_33 : decode cX12_digits 33 = .ok (.getfield 243, 3) := by decide +kernel
theorem dX12_digits_36 : decode cX12_digits 36 = .ok (.iload_n 2, 1) := by decide +kernel
theorem dX12_digits_37 : decode cX12_digits 37 = .ok (.isub, 1) := by decide +kernel
theorem dX12_digits_38 : decode cX12_digits 38 = .ok (.iconst 5, 1) := by decide +kernel
theorem dX12_digits_39 : decode cX12_digits 39 = .ok (.if_icmp .ge 18, 3) := by decide +kernel
theorem dX12_digits_42 : decode cX12_digits 42 = .ok (.bipush 10, 2) := by decide +kernel
theorem dX12_digits_44 : decode cX12_digits 44 = .ok (.iload_n 3, 1) := by decide +kernel
theorem dX12_digits_45 : decode cX12_digits 45 = .ok (.imul, 1) := by decide +kernel
theorem dX12_digits_46 : decode cX12_digits 46 = .ok (.aload_n 0, 1) := by decide +kernel
theorem dX12_digits_47 : decode cX12_digits 47 = .ok (.invokevirtual 246, 3) := by decide +kernel
theorem dX12_digits_50 : decode cX12_digits 50 = .ok (.iadd, 1) := by decide +kernel
theorem dX12_digits_51 : decode cX12_digits 51 = .ok (.bipush 48, 2) := by decide +kernel
theorem dX12_digits_53 : decode cX12_digits 53 = .ok (.isub, 1) := by decide +kernel
theorem dX12_digits_54 : decode cX12_digits 54 = .ok (.goto 4, 3) := by decide +kernel
theorem dX12_digits_57 : decode cX12_digits 57 = .ok (.iload_n 3, 1) := by decide +kernel
theorem dX12_digits_58 : decode cX12_digits 58 = .ok (.istore_n 3, 1) := by decide +kernel
theorem dX12_digits_59 : decode cX12_digits 59 = .ok (.aload_n 0, 1) := by decide +kernel
theorem dX12_digits_60 : decode cX12_digits 60 = .ok (.dup, 1) := by decide +kernel
theorem dX12_digits_61 : decode cX12_digits 61 = .ok (.getfield 243, 3) := by decide +kernel
theorem dX12_digits_64 : decode cX12_digits 64 = .ok (.iconst 1, 1) := by decide +kernel
theorem dX12_digits_65 : decode cX12_digits 65 = .ok (.iadd, 1) := by decide +kernel
theorem dX12_digits_66 : decode cX12_digits 66 = .ok (.putfield 243, 3) := by decide +kernel
theorem dX12_digits_69 : decode cX12_digits 69 = .ok (.goto (-44), 3) := by decide +kernel
theorem dX12_digits_72 : decode cX12_digits 72 = .ok (.aload_n 0, 1) := by decide +kernel
theorem dX12_digits_73 : decode cX12_digits 73 = .ok (.getfield 243, 3) := by decide +kernel
theorem dX12_digits_76 : decode cX12_digits 76 = .ok (.iload_n 2, 1) := by decide +kernel
theorem dX12_digits_77 : decode cX12_digits 77 = .ok (.isub, 1) := by decide +kernel
theorem dX12_digits_78 : decode cX12_digits 78 = .ok (.iconst 5, 1) := by decide +kernel
theorem dX12_digits_79 : decode cX12_digits 79 = .ok (.if_icmp .gt 8, 3) := by decide +kernel
theorem dX12_digits_82 : decode cX12_digits 82 = .ok (.iload_n 3, 1) := by decide +kernel
theorem dX12_digits_83 : decode cX12_digits 83 = .ok (.iload_n 1, 1) := by decide +kernel
theorem dX12_digits_84 : decode cX12_digits 84 = .ok (.if_icmp .le 9, 3) := by decide +kernel
theorem dX12_digits_87 : decode cX12_digits 87 = .ok (.aload_n 0, 1) := by decide +kernel
theorem dX12_digits_88 : decode cX12_digits 88 = .ok (.iconst 1, 1) := by decide +kernel
theorem dX12_digits_89 : decode cX12_digits 89 = .ok (.iload_n 2, 1) := by decide +kernel
theorem dX12_digits_90 : decode cX12_digits 90 = .ok (.invokevirtual 279, 3) := by decide +kernel
theorem dX12_digits_93 : decode cX12_digits 93 = .ok (.iload_n 3, 1) := by decide +kernel
theorem dX12_digits_94 : decode cX12_digits 94 = .ok (.ireturn, 1) := by decide +kernel
theorem dX12_value_0 : decode cX12_value 0 = .ok (.aload_n 0, 1) := by decide +kernel
theorem dX12_value_1 : decode cX12_value 1 = .ok (.invokevirtual 263, 3) := by decide +kernel
theorem dX12_value_4 : decode cX12_value 4 = .ok (.aload_n 0, 1) := by decide +kernel
theorem dX12_value_5 : decode cX12_value 5 = .ok (.getfield 243, 3) := by decide +kernel
theorem dX12_value_8 : decode cX12_value 8 = .ok (.istore_n 1, 1) := by decide +kernel
theorem dX12_value_9 : decode cX12_value 9 = .ok (.aload_n 0, 1) := by decide +kernel
theorem dX12_value_10 : decode cX12_value 10 = .ok (.invokevirtual 283, 3) := by decide +kernel
theorem dX12_value_13 : decode cX12_value 13 = .ok (.ifCond .eq 23, 3) := by decide +kernel
theorem dX12_value_16 : decode cX12_value 16 = .ok (.aload_n 0, 1) := by decide +kernel
theorem dX12_value_17 : decode cX12_value 17 = .ok (.ldc_w 286, 3) := by decide +kernel
theorem dX12_value_20 : decode cX12_value 20 = .ok (.invokevirtual 287, 3) := by decide +kernel
theorem dX12_value_23 : decode cX12_value 23 = .ok (.istore_n 2, 1) := by decide +kernel
theorem dX12_value_24 : decode cX12_value 24 = .ok (.aload_n 0, 1) := by decide +kernel
theorem dX12_value_25 : decode cX12_value 25 = .ok (.iload_n 1, 1) := by decide +kernel
theorem dX12_value_26 : decode cX12_value 26 = .ok (.invokevirtual 290, 3) := by decide +kernel
theorem dX12_value_29 : decode cX12_value 29 = .ok (.aload_n 0, 1) := by decide +kernel
theorem dX12_value_30 : decode cX12_value 30 = .ok (.iconst 0, 1) := by decide +kernel
theorem dX12_value_31 : decode cX12_value 31 = .ok (.iload_n 2, 1) := by decide +kernel
theorem dX12_value_32 : decode cX12_value 32 = .ok (.invokevirtual 293, 3) := by decide +kernel
theorem dX12_value_35 : decode cX12_value 35 = .ok (.return_, 1) := by decide +kernel
theorem dX12_value_36 : decode cX12_value 36 = .ok (.iconst 0, 1) := by decide +kernel
theorem dX12_value_37 : decode cX12_value 37 = .ok (.istore_n 2, 1) := by decide +kernel
theorem dX12_value_38 : decode cX12_value 38 = .ok (.iload_n 2, 1) := by decide +kernel
theorem dX12_value_39 : decode cX12_value 39 = .ok (.aload_n 0, 1) := by decide +kernel
theorem dX12_value_40 : decode cX12_value 40 = .ok (.getfield 67, 3) := by decide +kernel
theorem dX12_value_43 : decode cX12_value 43 = .ok (.if_icmp .ge 20, 3) := by decide +kernel
theorem dX12_value_46 : decode cX12_value 46 = .ok (.aload_n 0, 1) := by decide +kernel
theorem dX12_value_47 : decode cX12_value 47 = .ok (.iload_n 2, 1) := by decide +kernel
theorem dX12_value_48 : decode cX12_value 48 = .ok (.invokestatic 296, 3) := by decide +kernel
theorem dX12_value_51 : decode cX12_value 51 = .ok (.invokevirtual 266, 3) := by decide +kernel
theorem dX12_value_54 : decode cX12_value 54 = .ok (.ifCond .ne 9, 3) := by decide +kernel
theorem dX12_value_57 : decode cX12_value 57 = .ok (.iinc 2 1, 3) := by decide +kernel
theorem dX12_value_60 : decode cX12_value 60 = .ok (.goto (-22), 3) := by decide +kernel
theorem dX12_value_63 : decode cX12_value 63 = .ok (.iload_n 2, 1) := by decide +kernel
theorem dX12_value_64 : decode cX12_value 64 = .ok (.aload_n 0, 1) := by decide +kernel
theorem dX12_value_65 : decode cX12_value 65 = .ok (.getfield 67, 3) := by decide +kernel
theorem dX12_value_68 : decode cX12_value 68 = .ok (.if_icmp .ne 10, 3) := by decide +kernel
theorem dX12_value_71 : decode cX12_value 71 = .ok (.aload_n 0, 1) := by decide +kernel
theorem dX12_value_72 : decode cX12_value 72 = .ok (.iconst 0, 1) := by decide +kernel
theorem dX12_value_73 : decode cX12_value 73 = .ok (.iload_n 1, 1) := by decide +kernel
theorem dX12_value_74 : decode cX12_value 74 = .ok (.invokevirtual 279, 3) := by decide +kernel
theorem dX12_value_77 : decode cX12_value 77 = .ok (.return_, 1) := by decide +kernel
theorem dX12_value_78 : decode cX12_value 78 = .ok (.aload_n 0, 1) := by decide +kernel
theorem dX12_value_79 : decode cX12_value 79 = .ok (.iload_n 1, 1) := by decide +kernel
theorem dX12_value_80 : decode cX12_value 80 = .ok (.invokevirtual 290, 3) := by decide +kernel
theorem dX12_value_83 : decode cX12_value 83 = .ok (.aload_n 0, 1) := by decide +kernel
theorem dX12_value_84 : decode cX12_value 84 = .ok (.dup, 1) := by decide +kernel
theorem dX12_value_85 : decode cX12_value 85 = .ok (.getfield 243, 3) := by decide +kernel
theorem dX12_value_88 : decode cX12_value 88 = .ok (.iload_n 2, 1) := by decide +kernel
theorem dX12_value_89 : decode cX12_value 89 = .ok (.invokestatic 296, 3) := by decide +kernel
theorem dX12_value_92 : decode cX12_value 92 = .ok (.invokevirtual 254, 3) := by decide +kernel
theorem dX12_value_95 : decode cX12_value 95 = .ok (.iadd, 1) := by decide +kernel
theorem dX12_value_96 : decode cX12_value 96 = .ok (.putfield 243, 3) := by decide +kernel
theorem dX12_value_99 : decode cX12_value 99 = .ok (.aload_n 0, 1) := by decide +kernel
theorem dX12_value_100 : decode cX12_value 100 = .ok (.iconst 1, 1) := by decide +kernel
theorem dX12_value_101 : decode cX12_value 101 = .ok (.iload_n 2, 1) := by decide +kernel
theorem dX12_value_102 : decode cX12_value 102 = .ok (.invokevirtual 293, 3) := by decide +kernel
theorem dX12_value_105 : decode cX12_value 105 = .ok (.return_, 1) := by decide +kernel
theorem dX12_term_0 : decode cX12_term 0 = .ok (.aload_n 0, 1) := by decide +kernel
theorem dX12_term_1 : decode cX12_term 1 = .ok (.invokevirtual 300, 3) := by decide +kernel
theorem dX12_term_4 : decode cX12_term 4 = .ok (.aload_n 0, 1) := by decide +kernel
theorem dX12_term_5 : decode cX12_term 5 = .ok (.invokevirtual 263, 3) := by decide +kernel
theorem dX12_term_8 : decode cX12_term 8 = .ok (.aload_n 0, 1) := by decide +kernel
theorem dX12_term_9 : decode cX12_term 9 = .ok (.getfield 240, 3) := by decide +kernel
theorem dX12_term_12 : decode cX12_term 12 = .ok (.ifCond .ne 65, 3) := by decide +kernel
theorem dX12_term_15 : decode cX12_term 15 = .ok (.aload_n 0, 1) := by decide +kernel
theorem dX12_term_16 : decode cX12_term 16 = .ok (.invokevirtual 246, 3) := by decide +kernel
theorem dX12_term_19 : decode cX12_term 19 = .ok (.bipush 42, 2) := by decide +kernel
theorem dX12_term_21 : decode cX12_term 21 = .ok (.if_icmp .eq 12, 3) := by decide +kernel
theorem dX12_term_24 : decode cX12_term 24 = .ok (.aload_n 0, 1) := by decide +kernel
theorem dX12_term_25 : decode cX12_term 25 = .ok (.invokevirtual 246, 3) := by decide +kernel
theorem dX12_term_28 : decode cX12_term 28 = .ok (.bipush 47, 2) := by decide +kernel
theorem dX12_term_30 : decode cX12_term 30 = .ok (.if_icmp .ne 47, 3) := by decide +kernel
theorem dX12_term_33 : decode cX12_term 33 = .ok (.aload_n 0, 1) := by decide +kernel
theorem dX12_term_34 : decode cX12_term 34 = .ok (.invokevirtual 246, 3) := by decide +kernel
theorem dX12_term_37 : decode cX12_term 37 = .ok (.bipush 42, 2) := by decide +kernel
theorem dX12_term_39 : decode cX12_term 39 = .ok (.if_icmp .ne 8, 3) := by decide +kernel
theorem dX12_term_42 : decode cX12_term 42 = .ok (.bipush 13, 2) := by decide +kernel
theorem dX12_term_44 : decode cX12_term 44 = .ok (.goto 5, 3) := by decide +kernel
theorem dX12_term_47 : decode cX12_term 47 = .ok (.bipush 14, 2) := by decide +kernel
theorem dX12_term_49 : decode cX12_term 49 = .ok (.istore_n 1, 1) := by decide +kernel
theorem dX12_term_50 : decode cX12_term 50 = .ok (.aload_n 0, 1) := by decide +kernel
theorem dX12_term_51 : decode cX12_term 51 = .ok (.dup, 1) := by decide +kernel
theorem dX12_term_52 : decode cX12_term 52 = .ok (.getfield 243, 3) := by decide +kernel
theorem dX12_term_55 : decode cX12_term 55 = .ok (.iconst 1, 1) := by decide +kernel
theorem dX12_term_56 : decode cX12_term 56 = .ok (.iadd, 1) := by decide +kernel
theorem dX12_term_57 : decode cX12_term 57 = .ok (.putfield 243, 3) := by decide +kernel
theorem dX12_term_60 : decode cX12_term 60 = .ok (.aload_n 0, 1) := by decide +kernel
theorem dX12_term_61 : decode cX12_term 61 = .ok (.invokevirtual 300, 3) := by decide +kernel
theorem dX12_term_64 : decode cX12_term 64 = .ok (.aload_n 0, 1) := by decide +kernel
theorem dX12_term_65 : decode cX12_term 65 = .ok (.iload_n 1, 1) := by decide +kernel
theorem dX12_term_66 : decode cX12_term 66 = .ok (.iconst 0, 1) := by decide +kernel
theorem dX12_term_67 : decode cX12_term 67 = .ok (.invokevirtual 293, 3) := by decide +kernel
theorem dX12_term_70 : decode cX12_term 70 = .ok (.aload_n 0, 1) := by decide +kernel
theorem dX12_term_71 : decode cX12_term 71 = .ok (.invokevirtual 263, 3) := by decide +kernel
theorem dX12_term_74 : decode cX12_term 74 = .ok (.goto (-66), 3) := by decide +kernel
theorem dX12_term_77 : decode cX12_term 77 = .ok (.return_, 1) := by decide +kernel
theorem dX12_sum_0 : decode cX12_sum 0 = .ok (.aload_n 0, 1) := by decide +kernel
theorem dX12_sum_1 : decode cX12_sum 1 = .ok (.invokevirtual 303, 3) := by decide +kernel
theorem dX12_sum_4 : decode cX12_sum 4 = .ok (.aload_n 0, 1) := by decide +kernel
theorem dX12_sum_5 : decode cX12_sum 5 = .ok (.getfield 240, 3) := by decide +kernel
theorem dX12_sum_8 : decode cX12_sum 8 = .ok (.ifCond .ne 59, 3) := by decide +kernel
theorem dX12_sum_11 : decode cX12_sum 11 = .ok (.aload_n 0, 1) := by decide +kernel
theorem dX12_sum_12 : decode cX12_sum 12 = .ok (.invokevirtual 246, 3) := by decide +kernel
theorem dX12_sum_15 : decode cX12_sum 15 = .ok (.bipush 43, 2) := by decide +kernel
theorem dX12_sum_17 : decode cX12_sum 17 = .ok (.if_icmp .eq 12, 3) := by decide +kernel
theorem dX12_sum_20 : decode cX12_sum 20 = .ok (.aload_n 0, 1) := by decide +kernel
theorem dX12_sum_21 : decode cX12_sum 21 = .ok (.invokevirtual 246, 3) := by decide +kernel
theorem dX12_sum_24 : decode cX12_sum 24 = .ok (.bipush 45, 2) := by decide +kernel
theorem dX12_sum_26 : decode cX12_sum 26 = .ok (.if_icmp .ne 41, 3) := by decide +kernel
theorem dX12_sum_29 : decode cX12_sum 29 = .ok (.aload_n 0, 1) := by decide +kernel
theorem dX12_sum_30 : decode cX12_sum 30 = .ok (.invokevirtual 246, 3) := by decide +kernel
theorem dX12_sum_33 : decode cX12_sum 33 = .ok (.bipush 43, 2) := by decide +kernel
theorem dX12_sum_35 : decode cX12_sum 35 = .ok (.if_icmp .ne 7, 3) := by decide +kernel
theorem dX12_sum_38 : decode cX12_sum 38 = .ok (.iconst 2, 1) := by decide +kernel
theorem dX12_sum_39 : decode cX12_sum 39 = .ok (.goto 4, 3) := by decide +kernel
theorem dX12_sum_42 : decode cX12_sum 42 = .ok (.iconst 3, 1) := by decide +kernel
theorem dX12_sum_43 : decode cX12_sum 43 = .ok (.istore_n 1, 1) := by decide +kernel
theorem dX12_sum_44 : decode cX12_sum 44 = .ok (.aload_n 0, 1) := by decide +kernel
theorem dX12_sum_45 : decode cX12_sum 45 = .ok (.dup, 1) := by decide +kernel
theorem dX12_sum_46 : decode cX12_sum 46 = .ok (.getfield 243, 3) := by decide +kernel
theorem dX12_sum_49 : decode cX12_sum 49 = .ok (.iconst 1, 1) := by decide +kernel
theorem dX12_sum_50 : decode cX12_sum 50 = .ok (.iadd, 1) := by decide +kernel
theorem dX12_sum_51 : decode cX12_sum 51 = .ok (.putfield 243, 3) := by decide +kernel
theorem dX12_sum_54 : decode cX12_sum 54 = .ok (.aload_n 0, 1) := by decide +kernel
theorem dX12_sum_55 : decode cX12_sum 55 = .ok (.invokevirtual 303, 3) := by decide +kernel
theorem dX12_sum_58 : decode cX12_sum 58 = .ok (.aload_n 0, 1) := by decide +kernel
theorem dX12_sum_59 : decode cX12_sum 59 = .ok (.iload_n 1, 1) := by decide +kernel
theorem dX12_sum_60 : decode cX12_sum 60 = .ok (.iconst 0, 1) := by decide +kernel
theorem dX12_sum_61 : decode cX12_sum 61 = .ok (.invokevirtual 293, 3) := by decide +kernel
theorem dX12_sum_64 : decode cX12_sum 64 = .ok (.goto (-60), 3) := by decide +kernel
theorem dX12_sum_67 : decode cX12_sum 67 = .ok (.return_, 1) := by decide +kernel
theorem dX12_compared_0 : decode cX12_compared 0 = .ok (.aload_n 0, 1) := by decide +kernel
theorem dX12_compared_1 : decode cX12_compared 1 = .ok (.invokevirtual 306, 3) := by decide +kernel
theorem dX12_compared_4 : decode cX12_compared 4 = .ok (.aload_n 0, 1) := by decide +kernel
theorem dX12_compared_5 : decode cX12_compared 5 = .ok (.invokevirtual 246, 3) := by decide +kernel
theorem dX12_compared_8 : decode cX12_compared 8 = .ok (.istore_n 1, 1) := by decide +kernel
theorem dX12_compared_9 : decode cX12_compared 9 = .ok (.iload_n 1, 1) := by decide +kernel
theorem dX12_compared_10 : decode cX12_compared 10 = .ok (.bipush 60, 2) := by decide +kernel
theorem dX12_compared_12 : decode cX12_compared 12 = .ok (.if_icmp .eq 25, 3) := by decide +kernel
theorem dX12_compared_15 : decode cX12_compared 15 = .ok (.iload_n 1, 1) := by decide +kernel
theorem dX12_compared_16 : decode cX12_compared 16 = .ok (.bipush 61, 2) := by decide +kernel
theorem dX12_compared_18 : decode cX12_compared 18 = .ok (.if_icmp .eq 19, 3) := by decide +kernel
theorem dX12_compared_21 : decode cX12_compared 21 = .ok (.iload_n 1, 1) := by decide +kernel
theorem dX12_compared_22 : decode cX12_compared 22 = .ok (.bipush 62, 2) := by decide +kernel
theorem dX12_compared_24 : decode cX12_compared 24 = .ok (.if_icmp .eq 13, 3) := by decide +kernel
theorem dX12_compared_27 : decode cX12_compared 27 = .ok (.aload_n 0, 1) := by decide +kernel
theorem dX12_compared_28 : decode cX12_compared 28 = .ok (.iconst 0, 1) := by decide +kernel
theorem dX12_compared_29 : decode cX12_compared 29 = .ok (.aload_n 0, 1) := by decide +kernel
theorem dX12_compared_30 : decode cX12_compared 30 = .ok (.getfield 243, 3) := by decide +kernel
theorem dX12_compared_33 : decode cX12_compared 33 = .ok (.invokevirtual 279, 3) := by decide +kernel
theorem dX12_compared_36 : decode cX12_compared 36 = .ok (.return_, 1) := by decide +kernel
theorem dX12_compared_37 : decode cX12_compared 37 = .ok (.aload_n 0, 1) := by decide +kernel
theorem dX12_compared_38 : decode cX12_compared 38 = .ok (.aload_n 0, 1) := by decide +kernel
theorem dX12_compared_39 : decode cX12_compared 39 = .ok (.getfield 243, 3) := by decide +kernel
theorem dX12_compared_42 : decode cX12_compared 42 = .ok (.invokevirtual 290, 3) := by decide +kernel
theorem dX12_compared_45 : decode cX12_compared 45 = .ok (.aload_n 0, 1) := by decide +kernel
theorem dX12_compared_46 : decode cX12_compared 46 = .ok (.dup, 1) := by decide +kernel
theorem dX12_compared_47 : decode cX12_compared 47 = .ok (.getfield 243, 3) := by decide +kernel
theorem dX12_compared_50 : decode cX12_compared 50 = .ok (.iconst 1, 1) := by decide +kernel
theorem dX12_compared_51 : decode cX12_compared 51 = .ok (.iadd, 1) := by decide +kernel
theorem dX12_compared_52 : decode cX12_compared 52 = .ok (.putfield 243, 3) := by decide +kernel
theorem dX12_compared_55 : decode cX12_compared 55 = .ok (.iload_n 1, 1) := by decide +kernel
theorem dX12_compared_56 : decode cX12_compared 56 = .ok (.bipush 61, 2) := by decide +kernel
theorem dX12_compared_58 : decode cX12_compared 58 = .ok (.if_icmp .eq 16, 3) := by decide +kernel
theorem dX12_compared_61 : decode cX12_compared 61 = .ok (.aload_n 0, 1) := by decide +kernel
theorem dX12_compared_62 : decode cX12_compared 62 = .ok (.invokevirtual 246, 3) := by decide +kernel
theorem dX12_compared_65 : decode cX12_compared 65 = .ok (.bipush 61, 2) := by decide +kernel
theorem dX12_compared_67 : decode cX12_compared 67 = .ok (.if_icmp .ne 7, 3) := by decide +kernel
theorem dX12_compared_70 : decode cX12_compared 70 = .ok (.iconst 1, 1) := by decide +kernel
theorem dX12_compared_71 : decode cX12_compared 71 = .ok (.goto 4, 3) := by decide +kernel
theorem dX12_compared_74 : decode cX12_compared 74 = .ok (.iconst 0, 1) := by decide +kernel
theorem dX12_compared_75 : decode cX12_compared 75 = .ok (.istore_n 2, 1) := by decide +kernel
theorem dX12_compared_76 : decode cX12_compared 76 = .ok (.aload_n 0, 1) := by decide +kernel
theorem dX12_compared_77 : decode cX12_compared 77 = .ok (.dup, 1) := by decide +kernel
theorem dX12_compared_78 : decode cX12_compared 78 = .ok (.getfield 243, 3) := by decide +kernel
theorem dX12_compared_81 : decode cX12_compared 81 = .ok (.iload_n 2, 1) := by decide +kernel
theorem dX12_compared_82 : decode cX12_compared 82 = .ok (.ifCond .eq 7, 3) := by decide +kernel
theorem dX12_compared_85 : decode cX12_compared 85 = .ok (.iconst 1, 1) := by decide +kernel
theorem dX12_compared_86 : decode cX12_compared 86 = .ok (.goto 4, 3) := by decide +kernel
theorem dX12_compared_89 : decode cX12_compared 89 = .ok (.iconst 0, 1) := by decide +kernel
theorem dX12_compared_90 : decode cX12_compared 90 = .ok (.iadd, 1) := by decide +kernel
theorem dX12_compared_91 : decode cX12_compared 91 = .ok (.putfield 243, 3) := by decide +kernel
theorem dX12_compared_94 : decode cX12_compared 94 = .ok (.aload_n 0, 1) := by decide +kernel
theorem dX12_compared_95 : decode cX12_compared 95 = .ok (.invokevirtual 306, 3) := by decide +kernel
theorem dX12_compared_98 : decode cX12_compared 98 = .ok (.aload_n 0, 1) := by decide +kernel
theorem dX12_compared_99 : decode cX12_compared 99 = .ok (.iload_n 1, 1) := by decide +kernel
theorem dX12_compared_100 : decode cX12_compared 100 = .ok (.bipush 61, 2) := by decide +kernel
theorem dX12_compared_102 : decode cX12_compared 102 = .ok (.if_icmp .ne 8, 3) := by decide +kernel
theorem dX12_compared_105 : decode cX12_compared 105 = .ok (.bipush 6, 2) := by decide +kernel
theorem dX12_compared_107 : decode cX12_compared 107 = .ok (.goto 32, 3) := by decide +kernel
theorem dX12_compared_110 : decode cX12_compared 110 = .ok (.iload_n 1, 1) := by decide +kernel
theorem dX12_compared_111 : decode cX12_compared 111 = .ok (.bipush 60, 2) := by decide +kernel
theorem dX12_compared_113 : decode cX12_compared 113 = .ok (.if_icmp .ne 15, 3) := by decide +kernel
theorem dX12_compared_116 : decode cX12_compared 116 = .ok (.iload_n 2, 1) := by decide +kernel
theorem dX12_compared_117 : decode cX12_compared 117 = .ok (.ifCond .eq 7, 3) := by decide +kernel
theorem dX12_compared_120 : decode cX12_compared 120 = .ok (.iconst 5, 1) := by decide +kernel
theorem dX12_compared_121 : decode cX12_compared 121 = .ok (.goto 18, 3) := by decide +kernel
theorem dX12_compared_124 : decode cX12_compared 124 = .ok (.iconst 4, 1) := by decide +kernel
theorem dX12_compared_125 : decode cX12_compared 125 = .ok (.goto 14, 3) := by decide +kernel
theorem dX12_compared_128 : decode cX12_compared 128 = .ok (.iload_n 2, 1) := by decide +kernel
theorem dX12_compared_129 : decode cX12_compared 129 = .ok (.ifCond .eq 8, 3) := by decide +kernel
theorem dX12_compared_132 : decode cX12_compared 132 = .ok (.bipush 7, 2) := by decide +kernel
theorem dX12_compared_134 : decode cX12_compared 134 = .ok (.goto 5, 3) := by decide +kernel
theorem dX12_compared_137 : decode cX12_compared 137 = .ok (.bipush 8, 2) := by decide +kernel
theorem dX12_compared_139 : decode cX12_compared 139 = .ok (.iconst 0, 1) := by decide +kernel
theorem dX12_compared_140 : decode cX12_compared 140 = .ok (.invokevirtual 293, 3) := by decide +kernel
theorem dX12_compared_143 : decode cX12_compared 143 = .ok (.return_, 1) := by decide +kernel
theorem dX12_top_0 : decode cX12_top 0 = .ok (.aload_n 0, 1) := by decide +kernel
theorem dX12_top_1 : decode cX12_top 1 = .ok (.getfield 309, 3) := by decide +kernel
theorem dX12_top_4 : decode cX12_top 4 = .ok (.ifCond .ne 7, 3) := by decide +kernel
theorem dX12_top_7 : decode cX12_top 7 = .ok (.iconst (-1), 1) := by decide +kernel
theorem dX12_top_8 : decode cX12_top 8 = .ok (.goto 14, 3) := by decide +kernel
theorem dX12_top_11 : decode cX12_top 11 = .ok (.aload_n 0, 1) := by decide +kernel
theorem dX12_top_12 : decode cX12_top 12 = .ok (.getfield 99, 3) := by decide +kernel
theorem dX12_top_15 : decode cX12_top 15 = .ok (.aload_n 0, 1) := by decide +kernel
theorem dX12_top_16 : decode cX12_top 16 = .ok (.getfield 309, 3) := by decide +kernel
theorem dX12_top_19 : decode cX12_top 19 = .ok (.iconst 1, 1) := by decide +kernel
theorem dX12_top_20 : decode cX12_top 20 = .ok (.isub, 1) := by decide +kernel
theorem dX12_top_21 : decode cX12_top 21 = .ok (.iaload, 1) := by decide +kernel
theorem dX12_top_22 : decode cX12_top 22 = .ok (.ireturn, 1) := by decide +kernel
theorem dX12_opens_0 : decode cX12_opens 0 = .ok (.iload_n 1, 1) := by decide +kernel
theorem dX12_opens_1 : decode cX12_opens 1 = .ok (.bipush 9, 2) := by decide +kernel
theorem dX12_opens_3 : decode cX12_opens 3 = .ok (.if_icmp .eq 9, 3) := by decide +kernel
theorem dX12_opens_6 : decode cX12_opens 6 = .ok (.iload_n 1, 1) := by decide +kernel
theorem dX12_opens_7 : decode cX12_opens 7 = .ok (.bipush 12, 2) := by decide +kernel
theorem dX12_opens_9 : decode cX12_opens 9 = .ok (.if_icmp .ne 31, 3) := by decide +kernel
theorem dX12_opens_12 : decode cX12_opens 12 = .ok (.aload_n 0, 1) := by decide +kernel
theorem dX12_opens_13 : decode cX12_opens 13 = .ok (.getfield 312, 3) := by decide +kernel
theorem dX12_opens_16 : decode cX12_opens 16 = .ok (.bipush 10, 2) := by decide +kernel
theorem dX12_opens_18 : decode cX12_opens 18 = .ok (.if_icmp .ne 12, 3) := by decide +kernel
theorem dX12_opens_21 : decode cX12_opens 21 = .ok (.aload_n 0, 1) := by decide +kernel
theorem dX12_opens_22 : decode cX12_opens 22 = .ok (.iconst 2, 1) := by decide +kernel
theorem dX12_opens_23 : decode cX12_opens 23 = .ok (.aload_n 0, 1) := by decide +kernel
theorem dX12_opens_24 : decode cX12_opens 24 = .ok (.getfield 243, 3) := by decide +kernel
theorem dX12_opens_27 : decode cX12_opens 27 = .ok (.invokevirtual 279, 3) := by decide +kernel
theorem dX12_opens_30 : decode cX12_opens 30 = .ok (.aload_n 0, 1) := by decide +kernel
theorem dX12_opens_31 : decode cX12_opens 31 = .ok (.dup, 1) := by decide +kernel
theorem dX12_opens_32 : decode cX12_opens 32 = .ok (.getfield 312, 3) := by decide +kernel
theorem dX12_opens_35 : decode cX12_opens 35 = .ok (.iconst 1, 1) := by decide +kernel
theorem dX12_opens_36 : decode cX12_opens 36 = .ok (.iadd, 1) := by decide +kernel
theorem dX12_opens_37 : decode cX12_opens 37 = .ok (.putfield 312, 3) := by decide +kernel
theorem dX12_opens_40 : decode cX12_opens 40 = .ok (.aload_n 0, 1) := by decide +kernel
theorem dX12_opens_41 : decode cX12_opens 41 = .ok (.getfield 99, 3) := by decide +kernel
theorem dX12_opens_44 : decode cX12_opens 44 = .ok (.aload_n 0, 1) := by decide +kernel
theorem dX12_opens_45 : decode cX12_opens 45 = .ok (.getfield 309, 3) := by decide +kernel
theorem dX12_opens_48 : decode cX12_opens 48 = .ok (.iload_n 1, 1) := by decide +kernel
theorem dX12_opens_49 : decode cX12_opens 49 = .ok (.iastore, 1) := by decide +kernel
theorem dX12_opens_50 : decode cX12_opens 50 = .ok (.aload_n 0, 1) := by decide +kernel
theorem dX12_opens_51 : decode cX12_opens 51 = .ok (.dup, 1) := by decide +kernel
theorem dX12_opens_52 : decode cX12_opens 52 = .ok (.getfield 309, 3) := by decide +kernel
theorem dX12_opens_55 : decode cX12_opens 55 = .ok (.iconst 1, 1) := by decide +kernel
theorem dX12_opens_56 : decode cX12_opens 56 = .ok (.iadd, 1) := by decide +kernel
theorem dX12_opens_57 : decode cX12_opens 57 = .ok (.putfield 309, 3) := by decide +kernel
theorem dX12_opens_60 : decode cX12_opens 60 = .ok (.return_, 1) := by decide +kernel
theorem dX12_answers_0 : decode cX12_answers 0 = .ok (.aload_n 0, 1) := by decide +kernel
theorem dX12_answers_1 : decode cX12_answers 1 = .ok (.invokevirtual 315, 3) := by decide +kernel
theorem dX12_answers_4 : decode cX12_answers 4 = .ok (.iload_n 1, 1) := by decide +kernel
theorem dX12_answers_5 : decode cX12_answers 5 = .ok (.if_icmp .ne 49, 3) := by decide +kernel
theorem dX12_answers_8 : decode cX12_answers 8 = .ok (.aload_n 0, 1) := by decide +kernel
theorem dX12_answers_9 : decode cX12_answers 9 = .ok (.getfield 240, 3) := by decide +kernel
theorem dX12_answers_12 : decode cX12_answers 12 = .ok (.ifCond .ne 42, 3) := by decide +kernel
theorem dX12_answers_15 : decode cX12_answers 15 = .ok (.aload_n 0, 1) := by decide +kernel
theorem dX12_answers_16 : decode cX12_answers 16 = .ok (.iload_n 1, 1) := by decide +kernel
theorem dX12_answers_17 : decode cX12_answers 17 = .ok (.iconst 0, 1) := by decide +kernel
theorem dX12_answers_18 : decode cX12_answers 18 = .ok (.invokevirtual 293, 3) := by decide +kernel
theorem dX12_answers_21 : decode cX12_answers 21 = .ok (.aload_n 0, 1) := by decide +kernel
theorem dX12_answers_22 : decode cX12_answers 22 = .ok (.dup, 1) := by decide +kernel
theorem dX12_answers_23 : decode cX12_answers 23 = .ok (.getfield 309, 3) := by decide +kernel
theorem dX12_answers_26 : decode cX12_answers 26 = .ok (.iconst 1, 1) := by decide +kernel
theorem dX12_answers_27 : decode cX12_answers 27 = .ok (.isub, 1) := by decide +kernel
theorem dX12_answers_28 : decode cX12_answers 28 = .ok (.putfield 309, 3) := by decide +kernel
theorem dX12_answers_31 : decode cX12_answers 31 = .ok (.aload_n 0, 1) := by decide +kernel
theorem dX12_answers_32 : decode cX12_answers 32 = .ok (.dup, 1) := by decide +kernel
theorem dX12_answers_33 : decode cX12_answers 33 = .ok (.getfield 312, 3) := by decide +kernel
theorem dX12_answers_36 : decode cX12_answers 36 = .ok (.iload_n 1, 1) := by decide +kernel
theorem dX12_answers_37 : decode cX12_answers 37 = .ok (.bipush 9, 2) := by decide +kernel
theorem dX12_answers_39 : decode cX12_answers 39 = .ok (.if_icmp .ne 7, 3) := by decide +kernel
theorem dX12_answers_42 : decode cX12_answers 42 = .ok (.iconst 1, 1) := by decide +kernel
theorem dX12_answers_43 : decode cX12_answers 43 = .ok (.goto 4, 3) := by decide +kernel
theorem dX12_answers_46 : decode cX12_answers 46 = .ok (.iconst 0, 1) := by decide +kernel
theorem dX12_answers_47 : decode cX12_answers 47 = .ok (.isub, 1) := by decide +kernel
theorem dX12_answers_48 : decode cX12_answers 48 = .ok (.putfield 312, 3) := by decide +kernel
theorem dX12_answers_51 : decode cX12_answers 51 = .ok (.goto (-51), 3) := by decide +kernel
theorem dX12_answers_54 : decode cX12_answers 54 = .ok (.return_, 1) := by decide +kernel
theorem dX12_fact_0 : decode cX12_fact 0 = .ok (.aload_n 0, 1) := by decide +kernel
theorem dX12_fact_1 : decode cX12_fact 1 = .ok (.invokevirtual 263, 3) := by decide +kernel
theorem dX12_fact_4 : decode cX12_fact 4 = .ok (.aload_n 0, 1) := by decide +kernel
theorem dX12_fact_5 : decode cX12_fact 5 = .ok (.ldc_w 318, 3) := by decide +kernel
theorem dX12_fact_8 : decode cX12_fact 8 = .ok (.invokevirtual 266, 3) := by decide +kernel
theorem dX12_fact_11 : decode cX12_fact 11 = .ok (.ifCond .eq 21, 3) := by decide +kernel
theorem dX12_fact_14 : decode cX12_fact 14 = .ok (.aload_n 0, 1) := by decide +kernel
theorem dX12_fact_15 : decode cX12_fact 15 = .ok (.bipush 9, 2) := by decide +kernel
theorem dX12_fact_17 : decode cX12_fact 17 = .ok (.invokevirtual 320, 3) := by decide +kernel
theorem dX12_fact_20 : decode cX12_fact 20 = .ok (.aload_n 0, 1) := by decide +kernel
theorem dX12_fact_21 : decode cX12_fact 21 = .ok (.dup, 1) := by decide +kernel
theorem dX12_fact_22 : decode cX12_fact 22 = .ok (.getfield 243, 3) := by decide +kernel
theorem dX12_fact_25 : decode cX12_fact 25 = .ok (.iconst 3, 1) := by decide +kernel
theorem dX12_fact_26 : decode cX12_fact 26 = .ok (.iadd, 1) := by decide +kernel
theorem dX12_fact_27 : decode cX12_fact 27 = .ok (.putfield 243, 3) := by decide +kernel
theorem dX12_fact_30 : decode cX12_fact 30 = .ok (.iconst 0, 1) := by decide +kernel
theorem dX12_fact_31 : decode cX12_fact 31 = .ok (.ireturn, 1) := by decide +kernel
theorem dX12_fact_32 : decode cX12_fact 32 = .ok (.aload_n 0, 1) := by decide +kernel
theorem dX12_fact_33 : decode cX12_fact 33 = .ok (.invokevirtual 246, 3) := by decide +kernel
theorem dX12_fact_36 : decode cX12_fact 36 = .ok (.bipush 91, 2) := by decide +kernel
theorem dX12_fact_38 : decode cX12_fact 38 = .ok (.if_icmp .ne 21, 3) := by decide +kernel
theorem dX12_fact_41 : decode cX12_fact 41 = .ok (.aload_n 0, 1) := by decide +kernel
theorem dX12_fact_42 : decode cX12_fact 42 = .ok (.bipush 12, 2) := by decide +kernel
theorem dX12_fact_44 : decode cX12_fact 44 = .ok (.invokevirtual 320, 3) := by decide +kernel
theorem dX12_fact_47 : decode cX12_fact 47 = .ok (.aload_n 0, 1) := by decide +kernel
theorem dX12_fact_48 : decode cX12_fact 48 = .ok (.dup, 1) := by decide +kernel
theorem dX12_fact_49 : decode cX12_fact 49 = .ok (.getfield 243, 3) := by decide +kernel
theorem dX12_fact_52 : decode cX12_fact 52 = .ok (.iconst 1, 1) := by decide +kernel
theorem dX12_fact_53 : decode cX12_fact 53 = .ok (.iadd, 1) := by decide +kernel
theorem dX12_fact_54 : decode cX12_fact 54 = .ok (.putfield 243, 3) := by decide +kernel
theorem dX12_fact_57 : decode cX12_fact 57 = .ok (.iconst 0, 1) := by decide +kernel
theorem dX12_fact_58 : decode cX12_fact 58 = .ok (.ireturn, 1) := by decide +kernel
theorem dX12_fact_59 : decode cX12_fact 59 = .ok (.aload_n 0, 1) := by decide +kernel
theorem dX12_fact_60 : decode cX12_fact 60 = .ok (.invokevirtual 323, 3) := by decide +kernel
theorem dX12_fact_63 : decode cX12_fact 63 = .ok (.iconst 1, 1) := by decide +kernel
theorem dX12_fact_64 : decode cX12_fact 64 = .ok (.ireturn, 1) := by decide +kernel
theorem dX12_test_0 : decode cX12_test 0 = .ok (.aload_n 0, 1) := by decide +kernel
theorem dX12_test_1 : decode cX12_test 1 = .ok (.iconst 0, 1) := by decide +kernel
theorem dX12_test_2 : decode cX12_test 2 = .ok (.putfield 309, 3) := by decide +kernel
theorem dX12_test_5 : decode cX12_test 5 = .ok (.iconst 1, 1) := by decide +kernel
theorem dX12_test_6 : decode cX12_test 6 = .ok (.istore_n 1, 1) := by decide +kernel
theorem dX12_test_7 : decode cX12_test 7 = .ok (.iconst 1, 1) := by decide +kernel
theorem dX12_test_8 : decode cX12_test 8 = .ok (.istore_n 2, 1) := by decide +kernel
theorem dX12_test_9 : decode cX12_test 9 = .ok (.iload_n 2, 1) := by decide +kernel
theorem dX12_test_10 : decode cX12_test 10 = .ok (.ifCond .eq 192, 3) := by decide +kernel
theorem dX12_test_13 : decode cX12_test 13 = .ok (.aload_n 0, 1) := by decide +kernel
theorem dX12_test_14 : decode cX12_test 14 = .ok (.getfield 240, 3) := by decide +kernel
theorem dX12_test_17 : decode cX12_test 17 = .ok (.ifCond .ne 185, 3) := by decide +kernel
theorem dX12_test_20 : decode cX12_test 20 = .ok (.iload_n 1, 1) := by decide +kernel
theorem dX12_test_21 : decode cX12_test 21 = .ok (.ifCond .eq 19, 3) := by decide +kernel
theorem dX12_test_24 : decode cX12_test 24 = .ok (.aload_n 0, 1) := by decide +kernel
theorem dX12_test_25 : decode cX12_test 25 = .ok (.invokevirtual 326, 3) := by decide +kernel
theorem dX12_test_28 : decode cX12_test 28 = .ok (.ifCond .ne 7, 3) := by decide +kernel
theorem dX12_test_31 : decode cX12_test 31 = .ok (.iconst 1, 1) := by decide +kernel
theorem dX12_test_32 : decode cX12_test 32 = .ok (.goto 4, 3) := by decide +kernel
theorem dX12_test_35 : decode cX12_test 35 = .ok (.iconst 0, 1) := by decide +kernel
theorem dX12_test_36 : decode cX12_test 36 = .ok (.istore_n 1, 1) := by decide +kernel
theorem dX12_test_37 : decode cX12_test 37 = .ok (.goto (-28), 3) := by decide +kernel
theorem dX12_test_40 : decode cX12_test 40 = .ok (.aload_n 0, 1) := by decide +kernel
theorem dX12_test_41 : decode cX12_test 41 = .ok (.bipush 9, 2) := by decide +kernel
theorem dX12_test_43 : decode cX12_test 43 = .ok (.invokevirtual 329, 3) := by decide +kernel
theorem dX12_test_46 : decode cX12_test 46 = .ok (.aload_n 0, 1) := by decide +kernel
theorem dX12_test_47 : decode cX12_test 47 = .ok (.invokevirtual 263, 3) := by decide +kernel
theorem dX12_test_50 : decode cX12_test 50 = .ok (.aload_n 0, 1) := by decide +kernel
theorem dX12_test_51 : decode cX12_test 51 = .ok (.ldc_w 332, 3) := by decide +kernel
theorem dX12_test_54 : decode cX12_test 54 = .ok (.invokevirtual 266, 3) := by decide +kernel
theorem dX12_test_57 : decode cX12_test 57 = .ok (.istore_n 3, 1) := by decide +kernel
theorem dX12_test_58 : decode cX12_test 58 = .ok (.aload_n 0, 1) := by decide +kernel
theorem dX12_test_59 : decode cX12_test 59 = .ok (.ldc_w 334, 3) := by decide +kernel
theorem dX12_test_62 : decode cX12_test 62 = .ok (.invokevirtual 266, 3) := by decide +kernel
theorem dX12_test_65 : decode cX12_test 65 = .ok (.istore 4, 2) := by decide +kernel
theorem dX12_test_67 : decode cX12_test 67 = .ok (.aload_n 0, 1) := by decide +kernel
theorem dX12_test_68 : decode cX12_test 68 = .ok (.bipush 10, 2) := by decide +kernel
theorem dX12_test_70 : decode cX12_test 70 = .ok (.invokevirtual 329, 3) := by decide +kernel
theorem dX12_test_73 : decode cX12_test 73 = .ok (.iload_n 3, 1) := by decide +kernel
theorem dX12_test_74 : decode cX12_test 74 = .ok (.ifCond .ne 8, 3) := by decide +kernel
theorem dX12_test_77 : decode cX12_test 77 = .ok (.iload 4, 2) := by decide +kernel
theorem dX12_test_79 : decode cX12_test 79 = .ok (.ifCond .eq 52, 3) := by decide +kernel
theorem dX12_test_82 : decode cX12_test 82 = .ok (.iload 4, 2) := by decide +kernel
theorem dX12_test_84 : decode cX12_test 84 = .ok (.ifCond .eq 9, 3) := by decide +kernel
theorem dX12_test_87 : decode cX12_test 87 = .ok (.aload_n 0, 1) := by decide +kernel
theorem dX12_test_88 : decode cX12_test 88 = .ok (.bipush 11, 2) := by decide +kernel
theorem dX12_test_90 : decode cX12_test 90 = .ok (.invokevirtual 329, 3) := by decide +kernel
theorem dX12_test_93 : decode cX12_test 93 = .ok (.aload_n 0, 1) := by decide +kernel
theorem dX12_test_94 : decode cX12_test 94 = .ok (.iload_n 3, 1) := by decide +kernel
theorem dX12_test_95 : decode cX12_test 95 = .ok (.ifCond .eq 8, 3) := by decide +kernel
theorem dX12_test_98 : decode cX12_test 98 = .ok (.bipush 10, 2) := by decide +kernel
theorem dX12_test_100 : decode cX12_test 100 = .ok (.goto 5, 3) := by decide +kernel
theorem dX12_test_103 : decode cX12_test 103 = .ok (.bipush 11, 2) := by decide +kernel
theorem dX12_test_105 : decode cX12_test 105 = .ok (.invokevirtual 320, 3) := by decide +kernel
theorem dX12_test_108 : decode cX12_test 108 = .ok (.aload_n 0, 1) := by decide +kernel
theorem dX12_test_109 : decode cX12_test 109 = .ok (.dup, 1) := by decide +kernel
theorem dX12_test_110 : decode cX12_test 110 = .ok (.getfield 243, 3) := by decide +kernel
theorem dX12_test_113 : decode cX12_test 113 = .ok (.iload_n 3, 1) := by decide +kernel
theorem dX12_test_114 : decode cX12_test 114 = .ok (.ifCond .eq 7, 3) := by decide +kernel
theorem dX12_test_117 : decode cX12_test 117 = .ok (.iconst 3, 1) := by decide +kernel
theorem dX12_test_118 : decode cX12_test 118 = .ok (.goto 4, 3) := by decide +kernel
theorem dX12_test_121 : decode cX12_test 121 = .ok (.iconst 2, 1) := by decide +kernel
theorem dX12_test_122 : decode cX12_test 122 = .ok (.iadd, 1) := by decide +kernel
theorem dX12_test_123 : decode cX12_test 123 = .ok (.putfield 243, 3) := by decide +kernel
theorem dX12_test_126 : decode cX12_test 126 = .ok (.iconst 1, 1) := by decide +kernel
theorem dX12_test_127 : decode cX12_test 127 = .ok (.istore_n 1, 1) := by decide +kernel
theorem dX12_test_128 : decode cX12_test 128 = .ok (.goto 71, 3) := by decide +kernel
theorem dX12_test_131 : decode cX12_test 131 = .ok (.aload_n 0, 1) := by decide +kernel
theorem dX12_test_132 : decode cX12_test 132 = .ok (.bipush 11, 2) := by decide +kernel
theorem dX12_test_134 : decode cX12_test 134 = .ok (.invokevirtual 329, 3) := by decide +kernel
theorem dX12_test_137 : decode cX12_test 137 = .ok (.aload_n 0, 1) := by decide +kernel
theorem dX12_test_138 : decode cX12_test 138 = .ok (.invokevirtual 315, 3) := by decide +kernel
theorem dX12_test_141 : decode cX12_test 141 = .ok (.bipush 12, 2) := by decide +kernel
theorem dX12_test_143 : decode cX12_test 143 = .ok (.if_icmp .ne 54, 3) := by decide +kernel
theorem dX12_test_146 : decode cX12_test 146 = .ok (.aload_n 0, 1) := by decide +kernel
theorem dX12_test_147 : decode cX12_test 147 = .ok (.invokevirtual 246, 3) := by decide +kernel
theorem dX12_test_150 : decode cX12_test 150 = .ok (.bipush 93, 2) := by decide +kernel
theorem dX12_test_152 : decode cX12_test 152 = .ok (.if_icmp .eq 12, 3) := by decide +kernel
theorem dX12_test_155 : decode cX12_test 155 = .ok (.aload_n 0, 1) := by decide +kernel
theorem dX12_test_156 : decode cX12_test 156 = .ok (.iconst 0, 1) := by decide +kernel
theorem dX12_test_157 : decode cX12_test 157 = .ok (.aload_n 0, 1) := by decide +kernel
theorem dX12_test_158 : decode cX12_test 158 = .ok (.getfield 243, 3) := by decide +kernel
theorem dX12_test_161 : decode cX12_test 161 = .ok (.invokevirtual 279, 3) := by decide +kernel
theorem dX12_test_164 : decode cX12_test 164 = .ok (.aload_n 0, 1) := by decide +kernel
theorem dX12_test_165 : decode cX12_test 165 = .ok (.dup, 1) := by decide +kernel
theorem dX12_test_166 : decode cX12_test 166 = .ok (.getfield 243, 3) := by decide +kernel
theorem dX12_test_169 : decode cX12_test 169 = .ok (.iconst 1, 1) := by decide +kernel
theorem dX12_test_170 : decode cX12_test 170 = .ok (.iadd, 1) := by decide +kernel
theorem dX12_test_171 : decode cX12_test 171 = .ok (.putfield 243, 3) := by decide +kernel
theorem dX12_test_174 : decode cX12_test 174 = .ok (.aload_n 0, 1) := by decide +kernel
theorem dX12_test_175 : decode cX12_test 175 = .ok (.dup, 1) := by decide +kernel
theorem dX12_test_176 : decode cX12_test 176 = .ok (.getfield 309, 3) := by decide +kernel
theorem dX12_test_179 : decode cX12_test 179 = .ok (.iconst 1, 1) := by decide +kernel
theorem dX12_test_180 : decode cX12_test 180 = .ok (.isub, 1) := by decide +kernel
theorem dX12_test_181 : decode cX12_test 181 = .ok (.putfield 309, 3) := by decide +kernel
theorem dX12_test_184 : decode cX12_test 184 = .ok (.aload_n 0, 1) := by decide +kernel
theorem dX12_test_185 : decode cX12_test 185 = .ok (.dup, 1) := by decide +kernel
theorem dX12_test_186 : decode cX12_test 186 = .ok (.getfield 312, 3) := by decide +kernel
theorem dX12_test_189 : decode cX12_test 189 = .ok (.iconst 1, 1) := by decide +kernel
theorem dX12_test_190 : decode cX12_test 190 = .ok (.isub, 1) := by decide +kernel
theorem dX12_test_191 : decode cX12_test 191 = .ok (.putfield 312, 3) := by decide +kernel
theorem dX12_test_194 : decode cX12_test 194 = .ok (.goto 5, 3) := by decide +kernel
theorem dX12_test_197 : decode cX12_test 197 = .ok (.iconst 0, 1) := by decide +kernel
theorem dX12_test_198 : decode cX12_test 198 = .ok (.istore_n 2, 1) := by decide +kernel
theorem dX12_test_199 : decode cX12_test 199 = .ok (.goto (-190), 3) := by decide +kernel
theorem dX12_test_202 : decode cX12_test 202 = .ok (.return_, 1) := by decide +kernel
theorem dX12_amount_0 : decode cX12_amount 0 = .ok (.aload_n 0, 1) := by decide +kernel
theorem dX12_amount_1 : decode cX12_amount 1 = .ok (.invokevirtual 263, 3) := by decide +kernel
theorem dX12_amount_4 : decode cX12_amount 4 = .ok (.aload_n 0, 1) := by decide +kernel
theorem dX12_amount_5 : decode cX12_amount 5 = .ok (.getfield 243, 3) := by decide +kernel
theorem dX12_amount_8 : decode cX12_amount 8 = .ok (.istore_n 3, 1) := by decide +kernel
theorem dX12_amount_9 : decode cX12_amount 9 = .ok (.aload_n 0, 1) := by decide +kernel
theorem dX12_amount_10 : decode cX12_amount 10 = .ok (.getfield 240, 3) := by decide +kernel
theorem dX12_amount_13 : decode cX12_amount 13 = .ok (.ifCond .ne 13, 3) := by decide +kernel
theorem dX12_amount_16 : decode cX12_amount 16 = .ok (.aload_n 0, 1) := by decide +kernel
theorem dX12_amount_17 : decode cX12_amount 17 = .ok (.ldc_w 286, 3) := by decide +kernel
theorem dX12_amount_20 : decode cX12_amount 20 = .ok (.invokevirtual 287, 3) := by decide +kernel
theorem dX12_amount_23 : decode cX12_amount 23 = .ok (.goto 4, 3) := by decide +kernel
theorem dX12_amount_26 : decode cX12_amount 26 = .ok (.iconst 0, 1) := by decide +kernel
theorem dX12_amount_27 : decode cX12_amount 27 = .ok (.istore 4, 2) := by decide +kernel
theorem dX12_amount_29 : decode cX12_amount 29 = .ok (.aload_n 0, 1) := by decide +kernel
theorem dX12_amount_30 : decode cX12_amount 30 = .ok (.getfield 240, 3) := by decide +kernel
theorem dX12_amount_33 : decode cX12_amount 33 = .ok (.ifCond .ne 22, 3) := by decide +kernel
theorem dX12_amount_36 : decode cX12_amount 36 = .ok (.iload 4, 2) := by decide +kernel
theorem dX12_amount_38 : decode cX12_amount 38 = .ok (.i2l, 1) := by decide +kernel
theorem dX12_amount_39 : decode cX12_amount 39 = .ok (.iload_n 1, 1) := by decide +kernel
theorem dX12_amount_40 : decode cX12_amount 40 = .ok (.i2l, 1) := by decide +kernel
theorem dX12_amount_41 : decode cX12_amount 41 = .ok (.iload_n 2, 1) := by decide +kernel
theorem dX12_amount_42 : decode cX12_amount 42 = .ok (.i2l, 1) := by decide +kernel
theorem dX12_amount_43 : decode cX12_amount 43 = .ok (.invokestatic 161, 3) := by decide +kernel
theorem dX12_amount_46 : decode cX12_amount 46 = .ok (.ifCond .ne 9, 3) := by decide +kernel
theorem dX12_amount_49 : decode cX12_amount 49 = .ok (.aload_n 0, 1) := by decide +kernel
theorem dX12_amount_50 : decode cX12_amount 50 = .ok (.iconst 1, 1) := by decide +kernel
theorem dX12_amount_51 : decode cX12_amount 51 = .ok (.iload_n 3, 1) := by decide +kernel
theorem dX12_amount_52 : decode cX12_amount 52 = .ok (.invokevirtual 279, 3) := by decide +kernel
theorem dX12_amount_55 : decode cX12_amount 55 = .ok (.iload 4, 2) := by decide +kernel
theorem dX12_amount_57 : decode cX12_amount 57 = .ok (.ireturn, 1) := by decide +kernel
theorem dX12_spotX_0 : decode cX12_spotX 0 = .ok (.aload_n 0, 1) := by decide +kernel
theorem dX12_spotX_1 : decode cX12_spotX 1 = .ok (.iload_n 1, 1) := by decide +kernel
theorem dX12_spotX_2 : decode cX12_spotX 2 = .ok (.aload_n 0, 1) := by decide +kernel
theorem dX12_spotX_3 : decode cX12_spotX 3 = .ok (.getfield 46, 3) := by decide +kernel
theorem dX12_spotX_6 : decode cX12_spotX 6 = .ok (.iconst 0, 1) := by decide +kernel
theorem dX12_spotX_7 : decode cX12_spotX 7 = .ok (.iaload, 1) := by decide +kernel
theorem dX12_spotX_8 : decode cX12_spotX 8 = .ok (.iconst 1, 1) := by decide +kernel
theorem dX12_spotX_9 : decode cX12_spotX 9 = .ok (.isub, 1) := by decide +kernel
theorem dX12_spotX_10 : decode cX12_spotX 10 = .ok (.invokevirtual 336, 3) := by decide +kernel
theorem dX12_spotX_13 : decode cX12_spotX 13 = .ok (.ireturn, 1) := by decide +kernel
theorem dX12_spotY_0 : decode cX12_spotY 0 = .ok (.aload_n 0, 1) := by decide +kernel
theorem dX12_spotY_1 : decode cX12_spotY 1 = .ok (.iload_n 1, 1) := by decide +kernel
theorem dX12_spotY_2 : decode cX12_spotY 2 = .ok (.aload_n 0, 1) := by decide +kernel
theorem dX12_spotY_3 : decode cX12_spotY 3 = .ok (.getfield 46, 3) := by decide +kernel
theorem dX12_spotY_6 : decode cX12_spotY 6 = .ok (.iconst 1, 1) := by decide +kernel
theorem dX12_spotY_7 : decode cX12_spotY 7 = .ok (.iaload, 1) := by decide +kernel
theorem dX12_spotY_8 : decode cX12_spotY 8 = .ok (.iconst 1, 1) := by decide +kernel
theorem dX12_spotY_9 : decode cX12_spotY 9 = .ok (.isub, 1) := by decide +kernel
theorem dX12_spotY_10 : decode cX12_spotY 10 = .ok (.invokevirtual 336, 3) := by decide +kernel
theorem dX12_spotY_13 : decode cX12_spotY 13 = .ok (.ireturn, 1) := by decide +kernel
theorem dX12_isNewHill_0 : decode cX12_isNewHill 0 = .ok (.iconst 0, 1) := by decide +kernel
theorem dX12_isNewHill_1 : decode cX12_isNewHill 1 = .ok (.istore_n 2, 1) := by decide +kernel
theorem dX12_isNewHill_2 : decode cX12_isNewHill 2 = .ok (.iconst 0, 1) := by decide +kernel
theorem dX12_isNewHill_3 : decode cX12_isNewHill 3 = .ok (.istore_n 3, 1) := by decide +kernel
theorem dX12_isNewHill_4 : decode cX12_isNewHill 4 = .ok (.iload_n 3, 1) := by decide +kernel
theorem dX12_isNewHill_5 : decode cX12_isNewHill 5 = .ok (.aload_n 0, 1) := by decide +kernel
theorem dX12_isNewHill_6 : decode cX12_isNewHill 6 = .ok (.getfield 46, 3) := by decide +kernel
theorem dX12_isNewHill_9 : decode cX12_isNewHill 9 = .ok (.iconst 2, 1) := by decide +kernel
theorem dX12_isNewHill_10 : decode cX12_isNewHill 10 = .ok (.iaload, 1) := by decide +kernel
theorem dX12_isNewHill_11 : decode cX12_isNewHill 11 = .ok (.if_icmp .ge 29, 3) := by decide +kernel
theorem dX12_isNewHill_14 : decode cX12_isNewHill 14 = .ok (.iload_n 2, 1) := by decide +kernel
theorem dX12_isNewHill_15 : decode cX12_isNewHill 15 = .ok (.ifCond .ne 13, 3) := by decide +kernel
theorem dX12_isNewHill_18 : decode cX12_isNewHill 18 = .ok (.aload_n 0, 1) := by decide +kernel
theorem dX12_isNewHill_19 : decode cX12_isNewHill 19 = .ok (.getfield 52, 3) := by decide +kernel
theorem dX12_isNewHill_22 : decode cX12_isNewHill 22 = .ok (.iload_n 3, 1) := by decide +kernel
theorem dX12_isNewHill_23 : decode cX12_isNewHill 23 = .ok (.iaload, 1) := by decide +kernel
theorem dX12_isNewHill_24 : decode cX12_isNewHill 24 = .ok (.iload_n 1, 1) := by decide +kernel
theorem dX12_isNewHill_25 : decode cX12_isNewHill 25 = .ok (.if_icmp .ne 7, 3) := by decide +kernel
theorem dX12_isNewHill_28 : decode cX12_isNewHill 28 = .ok (.iconst 1, 1) := by decide +kernel
theorem dX12_isNewHill_29 : decode cX12_isNewHill 29 = .ok (.goto 4, 3) := by decide +kernel
theorem dX12_isNewHill_32 : decode cX12_isNewHill 32 = .ok (.iconst 0, 1) := by decide +kernel
theorem dX12_isNewHill_33 : decode cX12_isNewHill 33 = .ok (.istore_n 2, 1) := by decide +kernel
theorem dX12_isNewHill_34 : decode cX12_isNewHill 34 = .ok (.iinc 3 1, 3) := by decide +kernel
theorem dX12_isNewHill_37 : decode cX12_isNewHill 37 = .ok (.goto (-33), 3) := by decide +kernel
theorem dX12_isNewHill_40 : decode cX12_isNewHill 40 = .ok (.iload_n 2, 1) := by decide +kernel
theorem dX12_isNewHill_41 : decode cX12_isNewHill 41 = .ok (.ireturn, 1) := by decide +kernel
theorem dX12_woods_0 : decode cX12_woods 0 = .ok (.aload_n 0, 1) := by decide +kernel
theorem dX12_woods_1 : decode cX12_woods 1 = .ok (.iconst 0, 1) := by decide +kernel
theorem dX12_woods_2 : decode cX12_woods 2 = .ok (.invokevirtual 339, 3) := by decide +kernel
theorem dX12_woods_5 : decode cX12_woods 5 = .ok (.istore_n 1, 1) := by decide +kernel
theorem dX12_woods_6 : decode cX12_woods 6 = .ok (.aload_n 0, 1) := by decide +kernel
theorem dX12_woods_7 : decode cX12_woods 7 = .ok (.iconst 0, 1) := by decide +kernel
theorem dX12_woods_8 : decode cX12_woods 8 = .ok (.invokevirtual 342, 3) := by decide +kernel
theorem dX12_woods_11 : decode cX12_woods 11 = .ok (.istore_n 2, 1) := by decide +kernel
theorem dX12_woods_12 : decode cX12_woods 12 = .ok (.aload_n 0, 1) := by decide +kernel
theorem dX12_woods_13 : decode cX12_woods 13 = .ok (.iload_n 1, 1) := by decide +kernel
theorem dX12_woods_14 : decode cX12_woods 14 = .ok (.invokevirtual 339, 3) := by decide +kernel
theorem dX12_woods_17 : decode cX12_woods 17 = .ok (.istore_n 3, 1) := by decide +kernel
theorem dX12_woods_18 : decode cX12_woods 18 = .ok (.aload_n 0, 1) := by decide +kernel
theorem dX12_woods_19 : decode cX12_woods 19 = .ok (.iload_n 2, 1) := by decide +kernel
theorem dX12_woods_20 : decode cX12_woods 20 = .ok (.invokevirtual 342, 3) := by decide +kernel
theorem dX12_woods_23 : decode cX12_woods 23 = .ok (.istore 4, 2) := by decide +kernel
theorem dX12_woods_25 : decode cX12_woods 25 = .ok (.iconst 0, 1) := by decide +kernel
theorem dX12_woods_26 : decode cX12_woods 26 = .ok (.istore 5, 2) := by decide +kernel
theorem dX12_woods_28 : decode cX12_woods 28 = .ok (.iload 5, 2) := by decide +kernel
theorem dX12_woods_30 : decode cX12_woods 30 = .ok (.bipush 36, 2) := by decide +kernel
theorem dX12_woods_32 : decode cX12_woods 32 = .ok (.if_icmp .ge 67, 3) := by decide +kernel
theorem dX12_woods_35 : decode cX12_woods 35 = .ok (.aload_n 0, 1) := by decide +kernel
theorem dX12_woods_36 : decode cX12_woods 36 = .ok (.getfield 240, 3) := by decide +kernel
theorem dX12_woods_39 : decode cX12_woods 39 = .ok (.ifCond .ne 60, 3) := by decide +kernel
theorem dX12_woods_42 : decode cX12_woods 42 = .ok (.aload_n 0, 1) := by decide +kernel
theorem dX12_woods_43 : decode cX12_woods 43 = .ok (.getfield 49, 3) := by decide +kernel
theorem dX12_woods_46 : decode cX12_woods 46 = .ok (.iload 5, 2) := by decide +kernel
theorem dX12_woods_48 : decode cX12_woods 48 = .ok (.iload 5, 2) := by decide +kernel
theorem dX12_woods_50 : decode cX12_woods 50 = .ok (.bipush 6, 2) := by decide +kernel
theorem dX12_woods_52 : decode cX12_woods 52 = .ok (.irem, 1) := by decide +kernel
theorem dX12_woods_53 : decode cX12_woods 53 = .ok (.i2l, 1) := by decide +kernel
theorem dX12_woods_54 : decode cX12_woods 54 = .ok (.iload_n 1, 1) := by decide +kernel
theorem dX12_woods_55 : decode cX12_woods 55 = .ok (.i2l, 1) := by decide +kernel
theorem dX12_woods_56 : decode cX12_woods 56 = .ok (.iload_n 3, 1) := by decide +kernel
theorem dX12_woods_57 : decode cX12_woods 57 = .ok (.i2l, 1) := by decide +kernel
theorem dX12_woods_58 : decode cX12_woods 58 = .ok (.invokestatic 161, 3) := by decide +kernel
theorem dX12_woods_61 : decode cX12_woods 61 = .ok (.ifCond .eq 24, 3) := by decide +kernel
theorem dX12_woods_64 : decode cX12_woods 64 = .ok (.iload 5, 2) := by decide +kernel
theorem dX12_woods_66 : decode cX12_woods 66 = .ok (.bipush 6, 2) := by decide +kernel
theorem dX12_woods_68 : decode cX12_woods 68 = .ok (.idiv, 1) := by decide +kernel
theorem dX12_woods_69 : decode cX12_woods 69 = .ok (.i2l, 1) := by decide +kernel
theorem dX12_woods_70 : decode cX12_woods 70 = .ok (.iload_n 2, 1) := by decide +kernel
theorem dX12_woods_71 : decode cX12_woods 71 = .ok (.i2l, 1) := by decide +kernel
theorem dX12_woods_72 : decode cX12_woods 72 = .ok (.iload 4, 2) := by decide +kernel
theorem dX12_woods_74 : decode cX12_woods 74 = .ok (.i2l, 1) := by decide +kernel
theorem dX12_woods_75 : decode cX12_woods 75 = .ok (.invokestatic 161, 3) := by decide +kernel
theorem dX12_woods_78 : decode cX12_woods 78 = .ok (.ifCond .eq 7, 3) := by decide +kernel
theorem dX12_woods_81 : decode cX12_woods 81 = .ok (.iconst 1, 1) := by decide +kernel
theorem dX12_woods_82 : decode cX12_woods 82 = .ok (.goto 10, 3) := by decide +kernel
theorem dX12_woods_85 : decode cX12_woods 85 = .ok (.aload_n 0, 1) := by decide +kernel
theorem dX12_woods_86 : decode cX12_woods 86 = .ok (.getfield 49, 3) := by decide +kernel
theorem dX12_woods_89 : decode cX12_woods 89 = .ok (.iload 5, 2) := by decide +kernel
theorem dX12_woods_91 : decode cX12_woods 91 = .ok (.iaload, 1) := by decide +kernel
theorem dX12_woods_92 : decode cX12_woods 92 = .ok (.iastore, 1) := by decide +kernel
theorem dX12_woods_93 : decode cX12_woods 93 = .ok (.iinc 5 1, 3) := by decide +kernel
theorem dX12_woods_96 : decode cX12_woods 96 = .ok (.goto (-68), 3) := by decide +kernel
theorem dX12_woods_99 : decode cX12_woods 99 = .ok (.return_, 1) := by decide +kernel
theorem dX12_hill_0 : decode cX12_hill 0 = .ok (.aload_n 0, 1) := by decide +kernel
theorem dX12_hill_1 : decode cX12_hill 1 = .ok (.invokevirtual 263, 3) := by decide +kernel
theorem dX12_hill_4 : decode cX12_hill 4 = .ok (.aload_n 0, 1) := by decide +kernel
theorem dX12_hill_5 : decode cX12_hill 5 = .ok (.getfield 243, 3) := by decide +kernel
theorem dX12_hill_8 : decode cX12_hill 8 = .ok (.istore_n 1, 1) := by decide +kernel
theorem dX12_hill_9 : decode cX12_hill 9 = .ok (.aload_n 0, 1) := by decide +kernel
theorem dX12_hill_10 : decode cX12_hill 10 = .ok (.iconst 0, 1) := by decide +kernel
theorem dX12_hill_11 : decode cX12_hill 11 = .ok (.invokevirtual 339, 3) := by decide +kernel
theorem dX12_hill_14 : decode cX12_hill 14 = .ok (.istore_n 2, 1) := by decide +kernel
theorem dX12_hill_15 : decode cX12_hill 15 = .ok (.aload_n 0, 1) := by decide +kernel
theorem dX12_hill_16 : decode cX12_hill 16 = .ok (.iconst 0, 1) := by decide +kernel
theorem dX12_hill_17 : decode cX12_hill 17 = .ok (.invokevirtual 342, 3) := by decide +kernel
theorem dX12_hill_20 : decode cX12_hill 20 = .ok (.istore_n 3, 1) := by decide +kernel
theorem dX12_hill_21 : decode cX12_hill 21 = .ok (.aload_n 0, 1) := by decide +kernel
theorem dX12_hill_22 : decode cX12_hill 22 = .ok (.getfield 240, 3) := by decide +kernel
theorem dX12_hill_25 : decode cX12_hill 25 = .ok (.ifCond .ne 22, 3) := by decide +kernel
theorem dX12_hill_28 : decode cX12_hill 28 = .ok (.aload_n 0, 1) := by decide +kernel
theorem dX12_hill_29 : decode cX12_hill 29 = .ok (.bipush 6, 2) := by decide +kernel
theorem dX12_hill_31 : decode cX12_hill 31 = .ok (.iload_n 3, 1) := by decide +kernel
theorem dX12_hill_32 : decode cX12_hill 32 = .ok (.imul, 1) := by decide +kernel
theorem dX12_hill_33 : decode cX12_hill 33 = .ok (.iload_n 2, 1) := by decide +kernel
theorem dX12_hill_34 : decode cX12_hill 34 = .ok (.iadd, 1) := by decide +kernel
theorem dX12_hill_35 : decode cX12_hill 35 = .ok (.invokevirtual 345, 3) := by decide +kernel
theorem dX12_hill_38 : decode cX12_hill 38 = .ok (.ifCond .eq 9, 3) := by decide +kernel
theorem dX12_hill_41 : decode cX12_hill 41 = .ok (.aload_n 0, 1) := by decide +kernel
theorem dX12_hill_42 : decode cX12_hill 42 = .ok (.iconst 5, 1) := by decide +kernel
theorem dX12_hill_43 : decode cX12_hill 43 = .ok (.iload_n 1, 1) := by decide +kernel
theorem dX12_hill_44 : decode cX12_hill 44 = .ok (.invokevirtual 279, 3) := by decide +kernel
theorem dX12_hill_47 : decode cX12_hill 47 = .ok (.aload_n 0, 1) := by decide +kernel
theorem dX12_hill_48 : decode cX12_hill 48 = .ok (.getfield 52, 3) := by decide +kernel
theorem dX12_hill_51 : decode cX12_hill 51 = .ok (.aload_n 0, 1) := by decide +kernel
theorem dX12_hill_52 : decode cX12_hill 52 = .ok (.getfield 46, 3) := by decide +kernel
theorem dX12_hill_55 : decode cX12_hill 55 = .ok (.iconst 2, 1) := by decide +kernel
theorem dX12_hill_56 : decode cX12_hill 56 = .ok (.iaload, 1) := by decide +kernel
theorem dX12_hill_57 : decode cX12_hill 57 = .ok (.bipush 6, 2) := by decide +kernel
theorem dX12_hill_59 : decode cX12_hill 59 = .ok (.iload_n 3, 1) := by decide +kernel
theorem dX12_hill_60 : decode cX12_hill 60 = .ok (.imul, 1) := by decide +kernel
theorem dX12_hill_61 : decode cX12_hill 61 = .ok (.iload_n 2, 1) := by decide +kernel
theorem dX12_hill_62 : decode cX12_hill 62 = .ok (.iadd, 1) := by decide +kernel
theorem dX12_hill_63 : decode cX12_hill 63 = .ok (.iastore, 1) := by decide +kernel
theorem dX12_hill_64 : decode cX12_hill 64 = .ok (.aload_n 0, 1) := by decide +kernel
theorem dX12_hill_65 : decode cX12_hill 65 = .ok (.getfield 55, 3) := by decide +kernel
theorem dX12_hill_68 : decode cX12_hill 68 = .ok (.aload_n 0, 1) := by decide +kernel
theorem dX12_hill_69 : decode cX12_hill 69 = .ok (.getfield 46, 3) := by decide +kernel
theorem dX12_hill_72 : decode cX12_hill 72 = .ok (.iconst 2, 1) := by decide +kernel
theorem dX12_hill_73 : decode cX12_hill 73 = .ok (.iaload, 1) := by decide +kernel
theorem dX12_hill_74 : decode cX12_hill 74 = .ok (.aload_n 0, 1) := by decide +kernel
theorem dX12_hill_75 : decode cX12_hill 75 = .ok (.iconst 1, 1) := by decide +kernel
theorem dX12_hill_76 : decode cX12_hill 76 = .ok (.bipush 9, 2) := by decide +kernel
theorem dX12_hill_78 : decode cX12_hill 78 = .ok (.invokevirtual 336, 3) := by decide +kernel
theorem dX12_hill_81 : decode cX12_hill 81 = .ok (.iastore, 1) := by decide +kernel
theorem dX12_hill_82 : decode cX12_hill 82 = .ok (.aload_n 0, 1) := by decide +kernel
theorem dX12_hill_83 : decode cX12_hill 83 = .ok (.getfield 46, 3) := by decide +kernel
theorem dX12_hill_86 : decode cX12_hill 86 = .ok (.iconst 2, 1) := by decide +kernel
theorem dX12_hill_87 : decode cX12_hill 87 = .ok (.dup2, 1) := by decide +kernel
theorem dX12_hill_88 : decode cX12_hill 88 = .ok (.iaload, 1) := by decide +kernel
theorem dX12_hill_89 : decode cX12_hill 89 = .ok (.iconst 1, 1) := by decide +kernel
theorem dX12_hill_90 : decode cX12_hill 90 = .ok (.iadd, 1) := by decide +kernel
theorem dX12_hill_91 : decode cX12_hill 91 = .ok (.iastore, 1) := by decide +kernel
theorem dX12_hill_92 : decode cX12_hill 92 = .ok (.return_, 1) := by decide +kernel
theorem dX12_road_0 : decode cX12_road 0 = .ok (.aload_n 0, 1) := by decide +kernel
theorem dX12_road_1 : decode cX12_road 1 = .ok (.invokevirtual 263, 3) := by decide +kernel
theorem dX12_road_4 : decode cX12_road 4 = .ok (.aload_n 0, 1) := by decide +kernel
theorem dX12_road_5 : decode cX12_road 5 = .ok (.getfield 243, 3) := by decide +kernel
theorem dX12_road_8 : decode cX12_road 8 = .ok (.istore_n 1, 1) := by decide +kernel
theorem dX12_road_9 : decode cX12_road 9 = .ok (.aload_n 0, 1) := by decide +kernel
theorem dX12_road_10 : decode cX12_road 10 = .ok (.iconst 0, 1) := by decide +kernel
theorem dX12_road_11 : decode cX12_road 11 = .ok (.invokevirtual 339, 3) := by decide +kernel
theorem dX12_road_14 : decode cX12_road 14 = .ok (.istore_n 2, 1) := by decide +kernel
theorem dX12_road_15 : decode cX12_road 15 = .ok (.aload_n 0, 1) := by decide +kernel
theorem dX12_road_16 : decode cX12_road 16 = .ok (.iconst 0, 1) := by decide +kernel
theorem dX12_road_17 : decode cX12_road 17 = .ok (.invokevirtual 342, 3) := by decide +kernel
theorem dX12_road_20 : decode cX12_road 20 = .ok (.istore_n 3, 1) := by decide +kernel
theorem dX12_road_21 : decode cX12_road 21 = .ok (.aload_n 0, 1) := by decide +kernel
theorem dX12_road_22 : decode cX12_road 22 = .ok (.iload_n 2, 1) := by decide +kernel
theorem dX12_road_23 : decode cX12_road 23 = .ok (.invokevirtual 339, 3) := by decide +kernel
theorem dX12_road_26 : decode cX12_road 26 = .ok (.istore 4, 2) := by decide +kernel
theorem dX12_road_28 : decode cX12_road 28 = .ok (.aload_n 0, 1) := by decide +kernel
theorem dX12_road_29 : decode cX12_road 29 = .ok (.iload_n 3, 1) := by decide +kernel
theorem dX12_road_30 : decode cX12_road 30 = .ok (.invokevirtual 342, 3) := by decide +kernel
theorem dX12_road_33 : decode cX12_road 33 = .ok (.istore 5, 2) := by decide +kernel
theorem dX12_road_35 : decode cX12_road 35 = .ok (.aload_n 0, 1) := by decide +kernel
theorem dX12_road_36 : decode cX12_road 36 = .ok (.getfield 240, 3) := by decide +kernel
theorem dX12_road_39 : decode cX12_road 39 = .ok (.ifCond .ne 21, 3) := by decide +kernel
theorem dX12_road_42 : decode cX12_road 42 = .ok (.iload_n 2, 1) := by decide +kernel
theorem dX12_road_43 : decode cX12_road 43 = .ok (.iload 4, 2) := by decide +kernel
theorem dX12_road_45 : decode cX12_road 45 = .ok (.if_icmp .eq 15, 3) := by decide +kernel
theorem dX12_road_48 : decode cX12_road 48 = .ok (.iload_n 3, 1) := by decide +kernel
theorem dX12_road_49 : decode cX12_road 49 = .ok (.iload 5, 2) := by decide +kernel
theorem dX12_road_51 : decode cX12_road 51 = .ok (.if_icmp .eq 9, 3) := by decide +kernel
theorem dX12_road_54 : decode cX12_road 54 = .ok (.aload_n 0, 1) := by decide +kernel
theorem dX12_road_55 : decode cX12_road 55 = .ok (.iconst 5, 1) := by decide +kernel
theorem dX12_road_56 : decode cX12_road 56 = .ok (.iload_n 1, 1) := by decide +kernel
theorem dX12_road_57 : decode cX12_road 57 = .ok (.invokevirtual 279, 3) := by decide +kernel
theorem dX12_road_60 : decode cX12_road 60 = .ok (.aload_n 0, 1) := by decide +kernel
theorem dX12_road_61 : decode cX12_road 61 = .ok (.getfield 58, 3) := by decide +kernel
theorem dX12_road_64 : decode cX12_road 64 = .ok (.aload_n 0, 1) := by decide +kernel
theorem dX12_road_65 : decode cX12_road 65 = .ok (.getfield 46, 3) := by decide +kernel
theorem dX12_road_68 : decode cX12_road 68 = .ok (.iconst 3, 1) := by decide +kernel
theorem dX12_road_69 : decode cX12_road 69 = .ok (.iaload, 1) := by decide +kernel
theorem dX12_road_70 : decode cX12_road 70 = .ok (.bipush 6, 2) := by decide +kernel
theorem dX12_road_72 : decode cX12_road 72 = .ok (.iload_n 3, 1) := by decide +kernel
theorem dX12_road_73 : decode cX12_road 73 = .ok (.imul, 1) := by decide +kernel
theorem dX12_road_74 : decode cX12_road 74 = .ok (.iload_n 2, 1) := by decide +kernel
theorem dX12_road_75 : decode cX12_road 75 = .ok (.iadd, 1) := by decide +kernel
theorem dX12_road_76 : decode cX12_road 76 = .ok (.iastore, 1) := by decide +kernel
theorem dX12_road_77 : decode cX12_road 77 = .ok (.aload_n 0, 1) := by decide +kernel
theorem dX12_road_78 : decode cX12_road 78 = .ok (.getfield 61, 3) := by decide +kernel
theorem dX12_road_81 : decode cX12_road 81 = .ok (.aload_n 0, 1) := by decide +kernel
theorem dX12_road_82 : decode cX12_road 82 = .ok (.getfield 46, 3) := by decide +kernel
theorem dX12_road_85 : decode cX12_road 85 = .ok (.iconst 3, 1) := by decide +kernel
theorem dX12_road_86 : decode cX12_road 86 = .ok (.iaload, 1) := by decide +kernel
theorem dX12_road_87 : decode cX12_road 87 = .ok (.bipush 6, 2) := by decide +kernel
theorem dX12_road_89 : decode cX12_road 89 = .ok (.iload 5, 2) := by decide +kernel
theorem dX12_road_91 : decode cX12_road 91 = .ok (.imul, 1) := by decide +kernel
theorem dX12_road_92 : decode cX12_road 92 = .ok (.iload 4, 2) := by decide +kernel
theorem dX12_road_94 : decode cX12_road 94 = .ok (.iadd, 1) := by decide +kernel
theorem dX12_road_95 : decode cX12_road 95 = .ok (.iastore, 1) := by decide +kernel
theorem dX12_road_96 : decode cX12_road 96 = .ok (.aload_n 0, 1) := by decide +kernel
theorem dX12_road_97 : decode cX12_road 97 = .ok (.getfield 46, 3) := by decide +kernel
theorem dX12_road_100 : decode cX12_road 100 = .ok (.iconst 3, 1) := by decide +kernel
theorem dX12_road_101 : decode cX12_road 101 = .ok (.dup2, 1) := by decide +kernel
theorem dX12_road_102 : decode cX12_road 102 = .ok (.iaload, 1) := by decide +kernel
theorem dX12_road_103 : decode cX12_road 103 = .ok (.iconst 1, 1) := by decide +kernel
theorem dX12_road_104 : decode cX12_road 104 = .ok (.iadd, 1) := by decide +kernel
theorem dX12_road_105 : decode cX12_road 105 = .ok (.iastore, 1) := by decide +kernel
theorem dX12_road_106 : decode cX12_road 106 = .ok (.return_, 1) := by decide +kernel
theorem dX12_sorted_0 : decode cX12_sorted 0 = .ok (.aload_n 0, 1) := by decide +kernel
theorem dX12_sorted_1 : decode cX12_sorted 1 = .ok (.invokevirtual 263, 3) := by decide +kernel
theorem dX12_sorted_4 : decode cX12_sorted 4 = .ok (.aload_n 0, 1) := by decide +kernel
theorem dX12_sorted_5 : decode cX12_sorted 5 = .ok (.getfield 243, 3) := by decide +kernel
theorem dX12_sorted_8 : decode cX12_sorted 8 = .ok (.istore_n 1, 1) := by decide +kernel
theorem dX12_sorted_9 : decode cX12_sorted 9 = .ok (.aload_n 0, 1) := by decide +kernel
theorem dX12_sorted_10 : decode cX12_sorted 10 = .ok (.iconst 0, 1) := by decide +kernel
theorem dX12_sorted_11 : decode cX12_sorted 11 = .ok (.iconst 4, 1) := by decide +kernel
theorem dX12_sorted_12 : decode cX12_sorted 12 = .ok (.invokevirtual 336, 3) := by decide +kernel
theorem dX12_sorted_15 : decode cX12_sorted 15 = .ok (.istore_n 2, 1) := by decide +kernel
theorem dX12_sorted_16 : decode cX12_sorted 16 = .ok (.iload_n 2, 1) := by decide +kernel
theorem dX12_sorted_17 : decode cX12_sorted 17 = .ok (.istore_n 3, 1) := by decide +kernel
theorem dX12_sorted_18 : decode cX12_sorted 18 = .ok (.iconst 0, 1) := by decide +kernel
theorem dX12_sorted_19 : decode cX12_sorted 19 = .ok (.istore 4, 2) := by decide +kernel
theorem dX12_sorted_21 : decode cX12_sorted 21 = .ok (.iload 4, 2) := by decide +kernel
theorem dX12_sorted_23 : decode cX12_sorted 23 = .ok (.aload_n 0, 1) := by decide +kernel
theorem dX12_sorted_24 : decode cX12_sorted 24 = .ok (.getfield 46, 3) := by decide +kernel
theorem dX12_sorted_27 : decode cX12_sorted 27 = .ok (.iconst 4, 1) := by decide +kernel
theorem dX12_sorted_28 : decode cX12_sorted 28 = .ok (.iaload, 1) := by decide +kernel
theorem dX12_sorted_29 : decode cX12_sorted 29 = .ok (.if_icmp .ge 19, 3) := by decide +kernel
theorem dX12_sorted_32 : decode cX12_sorted 32 = .ok (.iload_n 3, 1) := by decide +kernel
theorem dX12_sorted_33 : decode cX12_sorted 33 = .ok (.aload_n 0, 1) := by decide +kernel
theorem dX12_sorted_34 : decode cX12_sorted 34 = .ok (.getfield 64, 3) := by decide +kernel
theorem dX12_sorted_37 : decode cX12_sorted 37 = .ok (.iload 4, 2) := by decide +kernel
theorem dX12_sorted_39 : decode cX12_sorted 39 = .ok (.iaload, 1) := by decide +kernel
theorem dX12_sorted_40 : decode cX12_sorted 40 = .ok (.iadd, 1) := by decide +kernel
theorem dX12_sorted_41 : decode cX12_sorted 41 = .ok (.istore_n 3, 1) := by decide +kernel
theorem dX12_sorted_42 : decode cX12_sorted 42 = .ok (.iinc 4 1, 3) := by decide +kernel
theorem dX12_sorted_45 : decode cX12_sorted 45 = .ok (.goto (-24), 3) := by decide +kernel
theorem dX12_sorted_48 : decode cX12_sorted 48 = .ok (.aload_n 0, 1) := by decide +kernel
theorem dX12_sorted_49 : decode cX12_sorted 49 = .ok (.getfield 240, 3) := by decide +kernel
theorem dX12_sorted_52 : decode cX12_sorted 52 = .ok (.ifCond .ne 14, 3) := by decide +kernel
theorem dX12_sorted_55 : decode cX12_sorted 55 = .ok (.iload_n 3, 1) := by decide +kernel
theorem dX12_sorted_56 : decode cX12_sorted 56 = .ok (.iconst 4, 1) := by decide +kernel
theorem dX12_sorted_57 : decode cX12_sorted 57 = .ok (.if_icmp .le 9, 3) := by decide +kernel
theorem dX12_sorted_60 : decode cX12_sorted 60 = .ok (.aload_n 0, 1) := by decide +kernel
theorem dX12_sorted_61 : decode cX12_sorted 61 = .ok (.iconst 5, 1) := by decide +kernel
theorem dX12_sorted_62 : decode cX12_sorted 62 = .ok (.iload_n 1, 1) := by decide +kernel
theorem dX12_sorted_63 : decode cX12_sorted 63 = .ok (.invokevirtual 279, 3) := by decide +kernel
theorem dX12_sorted_66 : decode cX12_sorted 66 = .ok (.aload_n 0, 1) := by decide +kernel
theorem dX12_sorted_67 : decode cX12_sorted 67 = .ok (.getfield 64, 3) := by decide +kernel
theorem dX12_sorted_70 : decode cX12_sorted 70 = .ok (.aload_n 0, 1) := by decide +kernel
theorem dX12_sorted_71 : decode cX12_sorted 71 = .ok (.getfield 46, 3) := by decide +kernel
theorem dX12_sorted_74 : decode cX12_sorted 74 = .ok (.iconst 4, 1) := by decide +kernel
theorem dX12_sorted_75 : decode cX12_sorted 75 = .ok (.iaload, 1) := by decide +kernel
theorem dX12_sorted_76 : decode cX12_sorted 76 = .ok (.iload_n 2, 1) := by decide +kernel
theorem dX12_sorted_77 : decode cX12_sorted 77 = .ok (.iastore, 1) := by decide +kernel
theorem dX12_sorted_78 : decode cX12_sorted 78 = .ok (.aload_n 0, 1) := by decide +kernel
theorem dX12_sorted_79 : decode cX12_sorted 79 = .ok (.getfield 46, 3) := by decide +kernel
theorem dX12_sorted_82 : decode cX12_sorted 82 = .ok (.iconst 4, 1) := by decide +kernel
theorem dX12_sorted_83 : decode cX12_sorted 83 = .ok (.dup2, 1) := by decide +kernel
theorem dX12_sorted_84 : decode cX12_sorted 84 = .ok (.iaload, 1) := by decide +kernel
theorem dX12_sorted_85 : decode cX12_sorted 85 = .ok (.iconst 1, 1) := by decide +kernel
theorem dX12_sorted_86 : decode cX12_sorted 86 = .ok (.iadd, 1) := by decide +kernel
theorem dX12_sorted_87 : decode cX12_sorted 87 = .ok (.iastore, 1) := by decide +kernel
theorem dX12_sorted_88 : decode cX12_sorted 88 = .ok (.return_, 1) := by decide +kernel
theorem dX12_isFull_0 : decode cX12_isFull 0 = .ok (.iload_n 2, 1) := by decide +kernel
theorem dX12_isFull_1 : decode cX12_isFull 1 = .ok (.ifCond .ne 7, 3) := by decide +kernel
theorem dX12_isFull_4 : decode cX12_isFull 4 = .ok (.iconst 1, 1) := by decide +kernel
theorem dX12_isFull_5 : decode cX12_isFull 5 = .ok (.goto 4, 3) := by decide +kernel
theorem dX12_isFull_8 : decode cX12_isFull 8 = .ok (.iconst 0, 1) := by decide +kernel
theorem dX12_isFull_9 : decode cX12_isFull 9 = .ok (.istore_n 3, 1) := by decide +kernel
theorem dX12_isFull_10 : decode cX12_isFull 10 = .ok (.iload_n 2, 1) := by decide +kernel
theorem dX12_isFull_11 : decode cX12_isFull 11 = .ok (.bipush 24, 2) := by decide +kernel
theorem dX12_isFull_13 : decode cX12_isFull 13 = .ok (.if_icmp .eq 63, 3) := by decide +kernel
theorem dX12_isFull_16 : decode cX12_isFull 16 = .ok (.iload_n 1, 1) := by decide +kernel
theorem dX12_isFull_17 : decode cX12_isFull 17 = .ok (.ifCond .ne 7, 3) := by decide +kernel
theorem dX12_isFull_20 : decode cX12_isFull 20 = .ok (.iconst 1, 1) := by decide +kernel
theorem dX12_isFull_21 : decode cX12_isFull 21 = .ok (.goto 4, 3) := by decide +kernel
theorem dX12_isFull_24 : decode cX12_isFull 24 = .ok (.iconst 0, 1) := by decide +kernel
theorem dX12_isFull_25 : decode cX12_isFull 25 = .ok (.iload_n 3, 1) := by decide +kernel
theorem dX12_isFull_26 : decode cX12_isFull 26 = .ok (.if_icmp .ne 50, 3) := by decide +kernel
theorem dX12_isFull_29 : decode cX12_isFull 29 = .ok (.iload_n 1, 1) := by decide +kernel
theorem dX12_isFull_30 : decode cX12_isFull 30 = .ok (.iconst 2, 1) := by decide +kernel
theorem dX12_isFull_31 : decode cX12_isFull 31 = .ok (.if_icmp .ne 14, 3) := by decide +kernel
theorem dX12_isFull_34 : decode cX12_isFull 34 = .ok (.aload_n 0, 1) := by decide +kernel
theorem dX12_isFull_35 : decode cX12_isFull 35 = .ok (.getfield 46, 3) := by decide +kernel
theorem dX12_isFull_38 : decode cX12_isFull 38 = .ok (.iconst 2, 1) := by decide +kernel
theorem dX12_isFull_39 : decode cX12_isFull 39 = .ok (.iaload, 1) := by decide +kernel
theorem dX12_isFull_40 : decode cX12_isFull 40 = .ok (.bipush 8, 2) := by decide +kernel
theorem dX12_isFull_42 : decode cX12_isFull 42 = .ok (.if_icmp .eq 34, 3) := by decide +kernel
theorem dX12_isFull_45 : decode cX12_isFull 45 = .ok (.iload_n 1, 1) := by decide +kernel
theorem dX12_isFull_46 : decode cX12_isFull 46 = .ok (.iconst 3, 1) := by decide +kernel
theorem dX12_isFull_47 : decode cX12_isFull 47 = .ok (.if_icmp .ne 14, 3) := by decide +kernel
theorem dX12_isFull_50 : decode cX12_isFull 50 = .ok (.aload_n 0, 1) := by decide +kernel
theorem dX12_isFull_51 : decode cX12_isFull 51 = .ok (.getfield 46, 3) := by decide +kernel
theorem dX12_isFull_54 : decode cX12_isFull 54 = .ok (.iconst 3, 1) := by decide +kernel
theorem dX12_isFull_55 : decode cX12_isFull 55 = .ok (.iaload, 1) := by decide +kernel
theorem dX12_isFull_56 : decode cX12_isFull 56 = .ok (.bipush 6, 2) := by decide +kernel
theorem dX12_isFull_58 : decode cX12_isFull 58 = .ok (.if_icmp .eq 18, 3) := by decide +kernel
theorem dX12_isFull_61 : decode cX12_isFull 61 = .ok (.iload_n 1, 1) := by decide +kernel
theorem dX12_isFull_62 : decode cX12_isFull 62 = .ok (.iconst 4, 1) := by decide +kernel
theorem dX12_isFull_63 : decode cX12_isFull 63 = .ok (.if_icmp .ne 17, 3) := by decide +kernel
theorem dX12_isFull_66 : decode cX12_isFull 66 = .ok (.aload_n 0, 1) := by decide +kernel
theorem dX12_isFull_67 : decode cX12_isFull 67 = .ok (.getfield 46, 3) := by decide +kernel
theorem dX12_isFull_70 : decode cX12_isFull 70 = .ok (.iconst 4, 1) := by decide +kernel
theorem dX12_isFull_71 : decode cX12_isFull 71 = .ok (.iaload, 1) := by decide +kernel
theorem dX12_isFull_72 : decode cX12_isFull 72 = .ok (.iconst 4, 1) := by decide +kernel
theorem dX12_isFull_73 : decode cX12_isFull 73 = .ok (.if_icmp .ne 7, 3) := by decide +kernel
theorem dX12_isFull_76 : decode cX12_isFull 76 = .ok (.iconst 1, 1) := by decide +kernel
theorem dX12_isFull_77 : decode cX12_isFull 77 = .ok (.goto 4, 3) := by decide +kernel
theorem dX12_isFull_80 : decode cX12_isFull 80 = .ok (.iconst 0, 1) := by decide +kernel
theorem dX12_isFull_81 : decode cX12_isFull 81 = .ok (.ireturn, 1) := by decide +kernel
theorem dX12_landClause_0 : decode cX12_landClause 0 = .ok (.aload_n 0, 1) := by decide +kernel
theorem dX12_landClause_1 : decode cX12_landClause 1 = .ok (.invokevirtual 263, 3) := by decide +kernel
theorem dX12_landClause_4 : decode cX12_landClause 4 = .ok (.aload_n 0, 1) := by decide +kernel
theorem dX12_landClause_5 : decode cX12_landClause 5 = .ok (.getfield 243, 3) := by decide +kernel
theorem dX12_landClause_8 : decode cX12_landClause 8 = .ok (.istore_n 2, 1) := by decide +kernel
theorem dX12_landClause_9 : decode cX12_landClause 9 = .ok (.iconst 0, 1) := by decide +kernel
theorem dX12_landClause_10 : decode cX12_landClause 10 = .ok (.istore_n 3, 1) := by decide +kernel
theorem dX12_landClause_11 : decode cX12_landClause 11 = .ok (.iload_n 3, 1) := by decide +kernel
theorem dX12_landClause_12 : decode cX12_landClause 12 = .ok (.iconst 5, 1) := by decide +kernel
theorem dX12_landClause_13 : decode cX12_landClause 13 = .ok (.if_icmp .ge 20, 3) := by decide +kernel
theorem dX12_landClause_16 : decode cX12_landClause 16 = .ok (.aload_n 0, 1) := by decide +kernel
theorem dX12_landClause_17 : decode cX12_landClause 17 = .ok (.iload_n 3, 1) := by decide +kernel
theorem dX12_landClause_18 : decode cX12_landClause 18 = .ok (.invokestatic 348, 3) := by decide +kernel
theorem dX12_landClause_21 : decode cX12_landClause 21 = .ok (.invokevirtual 266, 3) := by decide +kernel
theorem dX12_landClause_24 : decode cX12_landClause 24 = .ok (.ifCond .ne 9, 3) := by decide +kernel
theorem dX12_landClause_27 : decode cX12_landClause 27 = .ok (.iinc 3 1, 3) := by decide +kernel
theorem dX12_landClause_30 : decode cX12_landClause 30 = .ok (.goto (-19), 3) := by decide +kernel
theorem dX12_landClause_33 : decode cX12_landClause 33 = .ok (.iload_n 3, 1) := by decide +kernel
theorem dX12_landClause_34 : decode cX12_landClause 34 = .ok (.iconst 5, 1) := by decide +kernel
theorem dX12_landClause_35 : decode cX12_landClause 35 = .ok (.if_icmp .ne 10, 3) := by decide +kernel
theorem dX12_landClause_38 : decode cX12_landClause 38 = .ok (.aload_n 0, 1) := by decide +kernel
theorem dX12_landClause_39 : decode cX12_landClause 39 = .ok (.iconst 0, 1) := by decide +kernel
theorem dX12_landClause_40 : decode cX12_landClause 40 = .ok (.iload_n 2, 1) := by decide +kernel
theorem dX12_landClause_41 : decode cX12_landClause 41 = .ok (.invokevirtual 279, 3) := by decide +kernel
theorem dX12_landClause_44 : decode cX12_landClause 44 = .ok (.return_, 1) := by decide +kernel
theorem dX12_landClause_45 : decode cX12_landClause 45 = .ok (.aload_n 0, 1) := by decide +kernel
theorem dX12_landClause_46 : decode cX12_landClause 46 = .ok (.iload_n 3, 1) := by decide +kernel
theorem dX12_landClause_47 : decode cX12_landClause 47 = .ok (.iload_n 1, 1) := by decide +kernel
theorem dX12_landClause_48 : decode cX12_landClause 48 = .ok (.invokevirtual 351, 3) := by decide +kernel
theorem dX12_landClause_51 : decode cX12_landClause 51 = .ok (.ifCond .eq 10, 3) := by decide +kernel
theorem dX12_landClause_54 : decode cX12_landClause 54 = .ok (.aload_n 0, 1) := by decide +kernel
theorem dX12_landClause_55 : decode cX12_landClause 55 = .ok (.iconst 4, 1) := by decide +kernel
theorem dX12_landClause_56 : decode cX12_landClause 56 = .ok (.iload_n 2, 1) := by decide +kernel
theorem dX12_landClause_57 : decode cX12_landClause 57 = .ok (.invokevirtual 279, 3) := by decide +kernel
theorem dX12_landClause_60 : decode cX12_landClause 60 = .ok (.return_, 1) := by decide +kernel
theorem dX12_landClause_61 : decode cX12_landClause 61 = .ok (.aload_n 0, 1) := by decide +kernel
theorem dX12_landClause_62 : decode cX12_landClause 62 = .ok (.dup, 1) := by decide +kernel
theorem dX12_landClause_63 : decode cX12_landClause 63 = .ok (.getfield 243, 3) := by decide +kernel
theorem dX12_landClause_66 : decode cX12_landClause 66 = .ok (.iconst 4, 1) := by decide +kernel
theorem dX12_landClause_67 : decode cX12_landClause 67 = .ok (.iadd, 1) := by decide +kernel
theorem dX12_landClause_68 : decode cX12_landClause 68 = .ok (.putfield 243, 3) := by decide +kernel
theorem dX12_landClause_71 : decode cX12_landClause 71 = .ok (.iload_n 3, 1) := by decide +kernel
theorem dX12_landClause_72 : decode cX12_landClause 72 = .ok (.ifCond .ne 32, 3) := by decide +kernel
theorem dX12_landClause_75 : decode cX12_landClause 75 = .ok (.aload_n 0, 1) := by decide +kernel
theorem dX12_landClause_76 : decode cX12_landClause 76 = .ok (.getfield 46, 3) := by decide +kernel
theorem dX12_landClause_79 : decode cX12_landClause 79 = .ok (.iconst 0, 1) := by decide +kernel
theorem dX12_landClause_80 : decode cX12_landClause 80 = .ok (.aload_n 0, 1) := by decide +kernel
theorem dX12_landClause_81 : decode cX12_landClause 81 = .ok (.iconst 2, 1) := by decide +kernel
theorem dX12_landClause_82 : decode cX12_landClause 82 = .ok (.bipush 6, 2) := by decide +kernel
theorem dX12_landClause_84 : decode cX12_landClause 84 = .ok (.invokevirtual 336, 3) := by decide +kernel
theorem dX12_landClause_87 : decode cX12_landClause 87 = .ok (.iastore, 1) := by decide +kernel
theorem dX12_landClause_88 : decode cX12_landClause 88 = .ok (.aload_n 0, 1) := by decide +kernel
theorem dX12_landClause_89 : decode cX12_landClause 89 = .ok (.getfield 46, 3) := by decide +kernel
theorem dX12_landClause_92 : decode cX12_landClause 92 = .ok (.iconst 1, 1) := by decide +kernel
theorem dX12_landClause_93 : decode cX12_landClause 93 = .ok (.aload_n 0, 1) := by decide +kernel
theorem dX12_landClause_94 : decode cX12_landClause 94 = .ok (.iconst 2, 1) := by decide +kernel
theorem dX12_landClause_95 : decode cX12_landClause 95 = .ok (.bipush 6, 2) := by decide +kernel
theorem dX12_landClause_97 : decode cX12_landClause 97 = .ok (.invokevirtual 336, 3) := by decide +kernel
theorem dX12_landClause_100 : decode cX12_landClause 100 = .ok (.iastore, 1) := by decide +kernel
theorem dX12_landClause_101 : decode cX12_landClause 101 = .ok (.goto 43, 3) := by decide +kernel
theorem dX12_landClause_104 : decode cX12_landClause 104 = .ok (.iload_n 3, 1) := by decide +kernel
theorem dX12_landClause_105 : decode cX12_landClause 105 = .ok (.iconst 1, 1) := by decide +kernel
theorem dX12_landClause_106 : decode cX12_landClause 106 = .ok (.if_icmp .ne 10, 3) := by decide +kernel
theorem dX12_landClause_109 : decode cX12_landClause 109 = .ok (.aload_n 0, 1) := by decide +kernel
theorem dX12_landClause_110 : decode cX12_landClause 110 = .ok (.invokevirtual 354, 3) := by decide +kernel
theorem dX12_landClause_113 : decode cX12_landClause 113 = .ok (.goto 31, 3) := by decide +kernel
theorem dX12_landClause_116 : decode cX12_landClause 116 = .ok (.iload_n 3, 1) := by decide +kernel
theorem dX12_landClause_117 : decode cX12_landClause 117 = .ok (.iconst 2, 1) := by decide +kernel
theorem dX12_landClause_118 : decode cX12_landClause 118 = .ok (.if_icmp .ne 10, 3) := by decide +kernel
theorem dX12_landClause_121 : decode cX12_landClause 121 = .ok (.aload_n 0, 1) := by decide +kernel
theorem dX12_landClause_122 : decode cX12_landClause 122 = .ok (.invokevirtual 356, 3) := by decide +kernel
theorem dX12_landClause_125 : decode cX12_landClause 125 = .ok (.goto 19, 3) := by decide +kernel
theorem dX12_landClause_128 : decode cX12_landClause 128 = .ok (.iload_n 3, 1) := by decide +kernel
theorem dX12_landClause_129 : decode cX12_landClause 129 = .ok (.iconst 3, 1) := by decide +kernel
theorem dX12_landClause_130 : decode cX12_landClause 130 = .ok (.if_icmp .ne 10, 3) := by decide +kernel
theorem dX12_landClause_133 : decode cX12_landClause 133 = .ok (.aload_n 0, 1) := by decide +kernel
theorem dX12_landClause_134 : decode cX12_landClause 134 = .ok (.invokevirtual 358, 3) := by decide +kernel
theorem dX12_landClause_137 : decode cX12_landClause 137 = .ok (.goto 7, 3) := by decide +kernel
theorem dX12_landClause_140 : decode cX12_landClause 140 = .ok (.aload_n 0, 1) := by decide +kernel
theorem dX12_landClause_141 : decode cX12_landClause 141 = .ok (.invokevirtual 360, 3) := by decide +kernel
theorem dX12_landClause_144 : decode cX12_landClause 144 = .ok (.return_, 1) := by decide +kernel
theorem dX12_lay_0 : decode cX12_lay 0 = .ok (.iconst 0, 1) := by decide +kernel
theorem dX12_lay_1 : decode cX12_lay 1 = .ok (.istore_n 2, 1) := by decide +kernel
theorem dX12_lay_2 : decode cX12_lay 2 = .ok (.iload_n 2, 1) := by decide +kernel
theorem dX12_lay_3 : decode cX12_lay 3 = .ok (.aload_n 0, 1) := by decide +kernel
theorem dX12_lay_4 : decode cX12_lay 4 = .ok (.arraylength, 1) := by decide +kernel
theorem dX12_lay_5 : decode cX12_lay 5 = .ok (.if_icmp .ge 15, 3) := by decide +kernel
theorem dX12_lay_8 : decode cX12_lay 8 = .ok (.aload_n 1, 1) := by decide +kernel
theorem dX12_lay_9 : decode cX12_lay 9 = .ok (.iload_n 2, 1) := by decide +kernel
theorem dX12_lay_10 : decode cX12_lay 10 = .ok (.aload_n 0, 1) := by decide +kernel
theorem dX12_lay_11 : decode cX12_lay 11 = .ok (.iload_n 2, 1) := by decide +kernel
theorem dX12_lay_12 : decode cX12_lay 12 = .ok (.iaload, 1) := by decide +kernel
theorem dX12_lay_13 : decode cX12_lay 13 = .ok (.iastore, 1) := by decide +kernel
theorem dX12_lay_14 : decode cX12_lay 14 = .ok (.iinc 2 1, 3) := by decide +kernel
theorem dX12_lay_17 : decode cX12_lay 17 = .ok (.goto (-15), 3) := by decide +kernel
theorem dX12_lay_20 : decode cX12_lay 20 = .ok (.return_, 1) := by decide +kernel
theorem dX12_goesOn_0 : decode cX12_goesOn 0 = .ok (.aload_n 0, 1) := by decide +kernel
theorem dX12_goesOn_1 : decode cX12_goesOn 1 = .ok (.invokevirtual 263, 3) := by decide +kernel
theorem dX12_goesOn_4 : decode cX12_goesOn 4 = .ok (.aload_n 0, 1) := by decide +kernel
theorem dX12_goesOn_5 : decode cX12_goesOn 5 = .ok (.getfield 240, 3) := by decide +kernel
theorem dX12_goesOn_8 : decode cX12_goesOn 8 = .ok (.ifCond .ne 32, 3) := by decide +kernel
theorem dX12_goesOn_11 : decode cX12_goesOn 11 = .ok (.aload_n 0, 1) := by decide +kernel
theorem dX12_goesOn_12 : decode cX12_goesOn 12 = .ok (.getfield 243, 3) := by decide +kernel
theorem dX12_goesOn_15 : decode cX12_goesOn 15 = .ok (.aload_n 0, 1) := by decide +kernel
theorem dX12_goesOn_16 : decode cX12_goesOn 16 = .ok (.getfield 215, 3) := by decide +kernel
theorem dX12_goesOn_19 : decode cX12_goesOn 19 = .ok (.if_icmp .ge 21, 3) := by decide +kernel
theorem dX12_goesOn_22 : decode cX12_goesOn 22 = .ok (.aload_n 0, 1) := by decide +kernel
theorem dX12_goesOn_23 : decode cX12_goesOn 23 = .ok (.invokevirtual 246, 3) := by decide +kernel
theorem dX12_goesOn_26 : decode cX12_goesOn 26 = .ok (.bipush 59, 2) := by decide +kernel
theorem dX12_goesOn_28 : decode cX12_goesOn 28 = .ok (.if_icmp .eq 12, 3) := by decide +kernel
theorem dX12_goesOn_31 : decode cX12_goesOn 31 = .ok (.aload_n 0, 1) := by decide +kernel
theorem dX12_goesOn_32 : decode cX12_goesOn 32 = .ok (.iconst 0, 1) := by decide +kernel
theorem dX12_goesOn_33 : decode cX12_goesOn 33 = .ok (.aload_n 0, 1) := by decide +kernel
theorem dX12_goesOn_34 : decode cX12_goesOn 34 = .ok (.getfield 243, 3) := by decide +kernel
theorem dX12_goesOn_37 : decode cX12_goesOn 37 = .ok (.invokevirtual 279, 3) := by decide +kernel
theorem dX12_goesOn_40 : decode cX12_goesOn 40 = .ok (.aload_n 0, 1) := by decide +kernel
theorem dX12_goesOn_41 : decode cX12_goesOn 41 = .ok (.getfield 240, 3) := by decide +kernel
theorem dX12_goesOn_44 : decode cX12_goesOn 44 = .ok (.ifCond .ne 18, 3) := by decide +kernel
theorem dX12_goesOn_47 : decode cX12_goesOn 47 = .ok (.aload_n 0, 1) := by decide +kernel
theorem dX12_goesOn_48 : decode cX12_goesOn 48 = .ok (.getfield 243, 3) := by decide +kernel
theorem dX12_goesOn_51 : decode cX12_goesOn 51 = .ok (.aload_n 0, 1) := by decide +kernel
theorem dX12_goesOn_52 : decode cX12_goesOn 52 = .ok (.getfield 215, 3) := by decide +kernel
theorem dX12_goesOn_55 : decode cX12_goesOn 55 = .ok (.if_icmp .ge 7, 3) := by decide +kernel
theorem dX12_goesOn_58 : decode cX12_goesOn 58 = .ok (.iconst 1, 1) := by decide +kernel
theorem dX12_goesOn_59 : decode cX12_goesOn 59 = .ok (.goto 4, 3) := by decide +kernel
theorem dX12_goesOn_62 : decode cX12_goesOn 62 = .ok (.iconst 0, 1) := by decide +kernel
theorem dX12_goesOn_63 : decode cX12_goesOn 63 = .ok (.istore_n 1, 1) := by decide +kernel
theorem dX12_goesOn_64 : decode cX12_goesOn 64 = .ok (.aload_n 0, 1) := by decide +kernel
theorem dX12_goesOn_65 : decode cX12_goesOn 65 = .ok (.dup, 1) := by decide +kernel
theorem dX12_goesOn_66 : decode cX12_goesOn 66 = .ok (.getfield 243, 3) := by decide +kernel
theorem dX12_goesOn_69 : decode cX12_goesOn 69 = .ok (.iconst 1, 1) := by decide +kernel
theorem dX12_goesOn_70 : decode cX12_goesOn 70 = .ok (.iadd, 1) := by decide +kernel
theorem dX12_goesOn_71 : decode cX12_goesOn 71 = .ok (.putfield 243, 3) := by decide +kernel
theorem dX12_goesOn_74 : decode cX12_goesOn 74 = .ok (.iload_n 1, 1) := by decide +kernel
theorem dX12_goesOn_75 : decode cX12_goesOn 75 = .ok (.ireturn, 1) := by decide +kernel
theorem dX12_starts_0 : decode cX12_starts 0 = .ok (.aload_n 0, 1) := by decide +kernel
theorem dX12_starts_1 : decode cX12_starts 1 = .ok (.iconst 0, 1) := by decide +kernel
theorem dX12_starts_2 : decode cX12_starts 2 = .ok (.putfield 243, 3) := by decide +kernel
theorem dX12_starts_5 : decode cX12_starts 5 = .ok (.aload_n 0, 1) := by decide +kernel
theorem dX12_starts_6 : decode cX12_starts 6 = .ok (.iconst 0, 1) := by decide +kernel
theorem dX12_starts_7 : decode cX12_starts 7 = .ok (.putfield 240, 3) := by decide +kernel
theorem dX12_starts_10 : decode cX12_starts 10 = .ok (.aload_n 0, 1) := by decide +kernel
theorem dX12_starts_11 : decode cX12_starts 11 = .ok (.iconst 0, 1) := by decide +kernel
theorem dX12_starts_12 : decode cX12_starts 12 = .ok (.putfield 273, 3) := by decide +kernel
theorem dX12_starts_15 : decode cX12_starts 15 = .ok (.aload_n 0, 1) := by decide +kernel
theorem dX12_starts_16 : decode cX12_starts 16 = .ok (.iconst 0, 1) := by decide +kernel
theorem dX12_starts_17 : decode cX12_starts 17 = .ok (.putfield 312, 3) := by decide +kernel
theorem dX12_starts_20 : decode cX12_starts 20 = .ok (.aload_n 0, 1) := by decide +kernel
theorem dX12_starts_21 : decode cX12_starts 21 = .ok (.iconst 0, 1) := by decide +kernel
theorem dX12_starts_22 : decode cX12_starts 22 = .ok (.putfield 276, 3) := by decide +kernel
theorem dX12_starts_25 : decode cX12_starts 25 = .ok (.return_, 1) := by decide +kernel
theorem dX12_land_0 : decode cX12_land 0 = .ok (.aload_n 0, 1) := by decide +kernel
theorem dX12_land_1 : decode cX12_land 1 = .ok (.invokevirtual 363, 3) := by decide +kernel
theorem dX12_land_4 : decode cX12_land 4 = .ok (.iconst 0, 1) := by decide +kernel
theorem dX12_land_5 : decode cX12_land 5 = .ok (.istore_n 1, 1) := by decide +kernel
theorem dX12_land_6 : decode cX12_land 6 = .ok (.iload_n 1, 1) := by decide +kernel
theorem dX12_land_7 : decode cX12_land 7 = .ok (.iconst 5, 1) := by decide +kernel
theorem dX12_land_8 : decode cX12_land 8 = .ok (.if_icmp .ge 16, 3) := by decide +kernel
theorem dX12_land_11 : decode cX12_land 11 = .ok (.aload_n 0, 1) := by decide +kernel
theorem dX12_land_12 : decode cX12_land 12 = .ok (.getfield 46, 3) := by decide +kernel
theorem dX12_land_15 : decode cX12_land 15 = .ok (.iload_n 1, 1) := by decide +kernel
theorem dX12_land_16 : decode cX12_land 16 = .ok (.iconst 0, 1) := by decide +kernel
theorem dX12_land_17 : decode cX12_land 17 = .ok (.iastore, 1) := by decide +kernel
theorem dX12_land_18 : decode cX12_land 18 = .ok (.iinc 1 1, 3) := by decide +kernel
theorem dX12_land_21 : decode cX12_land 21 = .ok (.goto (-15), 3) := by decide +kernel
theorem dX12_land_24 : decode cX12_land 24 = .ok (.iconst 0, 1) := by decide +kernel
theorem dX12_land_25 : decode cX12_land 25 = .ok (.istore_n 1, 1) := by decide +kernel
theorem dX12_land_26 : decode cX12_land 26 = .ok (.iload_n 1, 1) := by decide +kernel
theorem dX12_land_27 : decode cX12_land 27 = .ok (.bipush 36, 2) := by decide +kernel
theorem dX12_land_29 : decode cX12_land 29 = .ok (.if_icmp .ge 16, 3) := by decide +kernel
theorem dX12_land_32 : decode cX12_land 32 = .ok (.aload_n 0, 1) := by decide +kernel
theorem dX12_land_33 : decode cX12_land 33 = .ok (.getfield 49, 3) := by decide +kernel
theorem dX12_land_36 : decode cX12_land 36 = .ok (.iload_n 1, 1) := by decide +kernel
theorem dX12_land_37 : decode cX12_land 37 = .ok (.iconst 0, 1) := by decide +kernel
theorem dX12_land_38 : decode cX12_land 38 = .ok (.iastore, 1) := by decide +kernel
theorem dX12_land_39 : decode cX12_land 39 = .ok (.iinc 1 1, 3) := by decide +kernel
theorem dX12_land_42 : decode cX12_land 42 = .ok (.goto (-16), 3) := by decide +kernel
theorem dX12_land_45 : decode cX12_land 45 = .ok (.iconst 0, 1) := by decide +kernel
theorem dX12_land_46 : decode cX12_land 46 = .ok (.istore_n 1, 1) := by decide +kernel
theorem dX12_land_47 : decode cX12_land 47 = .ok (.iconst 1, 1) := by decide +kernel
theorem dX12_land_48 : decode cX12_land 48 = .ok (.istore_n 2, 1) := by decide +kernel
theorem dX12_land_49 : decode cX12_land 49 = .ok (.iload_n 2, 1) := by decide +kernel
theorem dX12_land_50 : decode cX12_land 50 = .ok (.ifCond .eq 19, 3) := by decide +kernel
theorem dX12_land_53 : decode cX12_land 53 = .ok (.aload_n 0, 1) := by decide +kernel
theorem dX12_land_54 : decode cX12_land 54 = .ok (.iload_n 1, 1) := by decide +kernel
theorem dX12_land_55 : decode cX12_land 55 = .ok (.invokevirtual 366, 3) := by decide +kernel
theorem dX12_land_58 : decode cX12_land 58 = .ok (.iinc 1 1, 3) := by decide +kernel
theorem dX12_land_61 : decode cX12_land 61 = .ok (.aload_n 0, 1) := by decide +kernel
theorem dX12_land_62 : decode cX12_land 62 = .ok (.invokevirtual 369, 3) := by decide +kernel
theorem dX12_land_65 : decode cX12_land 65 = .ok (.istore_n 2, 1) := by decide +kernel
theorem dX12_land_66 : decode cX12_land 66 = .ok (.goto (-17), 3) := by decide +kernel
theorem dX12_land_69 : decode cX12_land 69 = .ok (.aload_n 0, 1) := by decide +kernel
theorem dX12_land_70 : decode cX12_land 70 = .ok (.iconst 0, 1) := by decide +kernel
theorem dX12_land_71 : decode cX12_land 71 = .ok (.putfield 215, 3) := by decide +kernel
theorem dX12_land_74 : decode cX12_land 74 = .ok (.aload_n 0, 1) := by decide +kernel
theorem dX12_land_75 : decode cX12_land 75 = .ok (.getfield 240, 3) := by decide +kernel
theorem dX12_land_78 : decode cX12_land 78 = .ok (.ifCond .le 11, 3) := by decide +kernel
theorem dX12_land_81 : decode cX12_land 81 = .ok (.bipush (-2), 2) := by decide +kernel
theorem dX12_land_83 : decode cX12_land 83 = .ok (.aload_n 0, 1) := by decide +kernel
theorem dX12_land_84 : decode cX12_land 84 = .ok (.getfield 240, 3) := by decide +kernel
theorem dX12_land_87 : decode cX12_land 87 = .ok (.isub, 1) := by decide +kernel
theorem dX12_land_88 : decode cX12_land 88 = .ok (.ireturn, 1) := by decide +kernel
theorem dX12_land_89 : decode cX12_land 89 = .ok (.aload_n 0, 1) := by decide +kernel
theorem dX12_land_90 : decode cX12_land 90 = .ok (.getfield 46, 3) := by decide +kernel
theorem dX12_land_93 : decode cX12_land 93 = .ok (.aload_n 0, 1) := by decide +kernel
theorem dX12_land_94 : decode cX12_land 94 = .ok (.getfield 7, 3) := by decide +kernel
theorem dX12_land_97 : decode cX12_land 97 = .ok (.invokestatic 372, 3) := by decide +kernel
theorem dX12_land_100 : decode cX12_land 100 = .ok (.aload_n 0, 1) := by decide +kernel
theorem dX12_land_101 : decode cX12_land 101 = .ok (.getfield 49, 3) := by decide +kernel
theorem dX12_land_104 : decode cX12_land 104 = .ok (.aload_n 0, 1) := by decide +kernel
theorem dX12_land_105 : decode cX12_land 105 = .ok (.getfield 13, 3) := by decide +kernel
theorem dX12_land_108 : decode cX12_land 108 = .ok (.invokestatic 372, 3) := by decide +kernel
theorem dX12_land_111 : decode cX12_land 111 = .ok (.aload_n 0, 1) := by decide +kernel
theorem dX12_land_112 : decode cX12_land 112 = .ok (.getfield 52, 3) := by decide +kernel
theorem dX12_land_115 : decode cX12_land 115 = .ok (.aload_n 0, 1) := by decide +kernel
theorem dX12_land_116 : decode cX12_land 116 = .ok (.getfield 16, 3) := by decide +kernel
theorem dX12_land_119 : decode cX12_land 119 = .ok (.invokestatic 372, 3) := by decide +kernel
theorem dX12_land_122 : decode cX12_land 122 = .ok (.aload_n 0, 1) := by decide +kernel
theorem dX12_land_123 : decode cX12_land 123 = .ok (.getfield 55, 3) := by decide +kernel
theorem dX12_land_126 : decode cX12_land 126 = .ok (.aload_n 0, 1) := by decide +kernel
theorem dX12_land_127 : decode cX12_land 127 = .ok (.getfield 19, 3) := by decide +kernel
theorem dX12_land_130 : decode cX12_land 130 = .ok (.invokestatic 372, 3) := by decide +kernel
theorem dX12_land_133 : decode cX12_land 133 = .ok (.aload_n 0, 1) := by decide +kernel
theorem dX12_land_134 : decode cX12_land 134 = .ok (.getfield 58, 3) := by decide +kernel
theorem dX12_land_137 : decode cX12_land 137 = .ok (.aload_n 0, 1) := by decide +kernel
theorem dX12_land_138 : decode cX12_land 138 = .ok (.getfield 22, 3) := by decide +kernel
theorem dX12_land_141 : decode cX12_land 141 = .ok (.invokestatic 372, 3) := by decide +kernel
theorem dX12_land_144 : decode cX12_land 144 = .ok (.aload_n 0, 1) := by decide +kernel
theorem dX12_land_145 : decode cX12_land 145 = .ok (.getfield 61, 3) := by decide +kernel
theorem dX12_land_148 : decode cX12_land 148 = .ok (.aload_n 0, 1) := by decide +kernel
theorem dX12_land_149 : decode cX12_land 149 = .ok (.getfield 25, 3) := by decide +kernel
theorem dX12_land_152 : decode cX12_land 152 = .ok (.invokestatic 372, 3) := by decide +kernel
theorem dX12_land_155 : decode cX12_land 155 = .ok (.aload_n 0, 1) := by decide +kernel
theorem dX12_land_156 : decode cX12_land 156 = .ok (.getfield 64, 3) := by decide +kernel
theorem dX12_land_159 : decode cX12_land 159 = .ok (.aload_n 0, 1) := by decide +kernel
theorem dX12_land_160 : decode cX12_land 160 = .ok (.getfield 28, 3) := by decide +kernel
theorem dX12_land_163 : decode cX12_land 163 = .ok (.invokestatic 372, 3) := by decide +kernel
theorem dX12_land_166 : decode cX12_land 166 = .ok (.aload_n 0, 1) := by decide +kernel
theorem dX12_land_167 : decode cX12_land 167 = .ok (.getfield 7, 3) := by decide +kernel
theorem dX12_land_170 : decode cX12_land 170 = .ok (.iconst 5, 1) := by decide +kernel
theorem dX12_land_171 : decode cX12_land 171 = .ok (.iconst 0, 1) := by decide +kernel
theorem dX12_land_172 : decode cX12_land 172 = .ok (.iastore, 1) := by decide +kernel
theorem dX12_land_173 : decode cX12_land 173 = .ok (.aload_n 0, 1) := by decide +kernel
theorem dX12_land_174 : decode cX12_land 174 = .ok (.getfield 7, 3) := by decide +kernel
theorem dX12_land_177 : decode cX12_land 177 = .ok (.iconst 2, 1) := by decide +kernel
theorem dX12_land_178 : decode cX12_land 178 = .ok (.iaload, 1) := by decide +kernel
theorem dX12_land_179 : decode cX12_land 179 = .ok (.ireturn, 1) := by decide +kernel
theorem dX12_lawClause_0 : decode cX12_lawClause 0 = .ok (.aload_n 0, 1) := by decide +kernel
theorem dX12_lawClause_1 : decode cX12_lawClause 1 = .ok (.invokevirtual 263, 3) := by decide +kernel
theorem dX12_lawClause_4 : decode cX12_lawClause 4 = .ok (.aload_n 0, 1) := by decide +kernel
theorem dX12_lawClause_5 : decode cX12_lawClause 5 = .ok (.getfield 243, 3) := by decide +kernel
theorem dX12_lawClause_8 : decode cX12_lawClause 8 = .ok (.istore_n 2, 1) := by decide +kernel
theorem dX12_lawClause_9 : decode cX12_lawClause 9 = .ok (.aload_n 0, 1) := by decide +kernel
theorem dX12_lawClause_10 : decode cX12_lawClause 10 = .ok (.ldc_w 376, 3) := by decide +kernel
theorem dX12_lawClause_13 : decode cX12_lawClause 13 = .ok (.invokevirtual 266, 3) := by decide +kernel
theorem dX12_lawClause_16 : decode cX12_lawClause 16 = .ok (.istore_n 3, 1) := by decide +kernel
theorem dX12_lawClause_17 : decode cX12_lawClause 17 = .ok (.iload_n 3, 1) := by decide +kernel
theorem dX12_lawClause_18 : decode cX12_lawClause 18 = .ok (.ifCond .ne 20, 3) := by decide +kernel
theorem dX12_lawClause_21 : decode cX12_lawClause 21 = .ok (.aload_n 0, 1) := by decide +kernel
theorem dX12_lawClause_22 : decode cX12_lawClause 22 = .ok (.ldc_w 377, 3) := by decide +kernel
theorem dX12_lawClause_25 : decode cX12_lawClause 25 = .ok (.invokevirtual 266, 3) := by decide +kernel
theorem dX12_lawClause_28 : decode cX12_lawClause 28 = .ok (.ifCond .ne 10, 3) := by decide +kernel
theorem dX12_lawClause_31 : decode cX12_lawClause 31 = .ok (.aload_n 0, 1) := by decide +kernel
theorem dX12_lawClause_32 : decode cX12_lawClause 32 = .ok (.iconst 0, 1) := by decide +kernel
theorem dX12_lawClause_33 : decode cX12_lawClause 33 = .ok (.iload_n 2, 1) := by decide +kernel
theorem dX12_lawClause_34 : decode cX12_lawClause 34 = .ok (.invokevirtual 279, 3) := by decide +kernel
theorem dX12_lawClause_37 : decode cX12_lawClause 37 = .ok (.return_, 1) := by decide +kernel
theorem dX12_lawClause_38 : decode cX12_lawClause 38 = .ok (.iload_n 1, 1) := by decide +kernel
theorem dX12_lawClause_39 : decode cX12_lawClause 39 = .ok (.bipush 12, 2) := by decide +kernel
theorem dX12_lawClause_41 : decode cX12_lawClause 41 = .ok (.if_icmp .ne 10, 3) := by decide +kernel
theorem dX12_lawClause_44 : decode cX12_lawClause 44 = .ok (.aload_n 0, 1) := by decide +kernel
theorem dX12_lawClause_45 : decode cX12_lawClause 45 = .ok (.iconst 4, 1) := by decide +kernel
theorem dX12_lawClause_46 : decode cX12_lawClause 46 = .ok (.iload_n 2, 1) := by decide +kernel
theorem dX12_lawClause_47 : decode cX12_lawClause 47 = .ok (.invokevirtual 279, 3) := by decide +kernel
theorem dX12_lawClause_50 : decode cX12_lawClause 50 = .ok (.return_, 1) := by decide +kernel
theorem dX12_lawClause_51 : decode cX12_lawClause 51 = .ok (.aload_n 0, 1) := by decide +kernel
theorem dX12_lawClause_52 : decode cX12_lawClause 52 = .ok (.dup, 1) := by decide +kernel
theorem dX12_lawClause_53 : decode cX12_lawClause 53 = .ok (.getfield 243, 3) := by decide +kernel
theorem dX12_lawClause_56 : decode cX12_lawClause 56 = .ok (.iload_n 3, 1) := by decide +kernel
theorem dX12_lawClause_57 : decode cX12_lawClause 57 = .ok (.ifCond .eq 7, 3) := by decide +kernel
theorem dX12_lawClause_60 : decode cX12_lawClause 60 = .ok (.iconst 5, 1) := by decide +kernel
theorem dX12_lawClause_61 : decode cX12_lawClause 61 = .ok (.goto 4, 3) := by decide +kernel
theorem dX12_lawClause_64 : decode cX12_lawClause 64 = .ok (.iconst 3, 1) := by decide +kernel
theorem dX12_lawClause_65 : decode cX12_lawClause 65 = .ok (.iadd, 1) := by decide +kernel
theorem dX12_lawClause_66 : decode cX12_lawClause 66 = .ok (.putfield 243, 3) := by decide +kernel
theorem dX12_lawClause_69 : decode cX12_lawClause 69 = .ok (.bipush 12, 2) := by decide +kernel
theorem dX12_lawClause_71 : decode cX12_lawClause 71 = .ok (.aload_n 0, 1) := by decide +kernel
theorem dX12_lawClause_72 : decode cX12_lawClause 72 = .ok (.getfield 270, 3) := by decide +kernel
theorem dX12_lawClause_75 : decode cX12_lawClause 75 = .ok (.imul, 1) := by decide +kernel
theorem dX12_lawClause_76 : decode cX12_lawClause 76 = .ok (.iload_n 1, 1) := by decide +kernel
theorem dX12_lawClause_77 : decode cX12_lawClause 77 = .ok (.iadd, 1) := by decide +kernel
theorem dX12_lawClause_78 : decode cX12_lawClause 78 = .ok (.istore 4, 2) := by decide +kernel
theorem dX12_lawClause_80 : decode cX12_lawClause 80 = .ok (.aload_n 0, 1) := by decide +kernel
theorem dX12_lawClause_81 : decode cX12_lawClause 81 = .ok (.getfield 84, 3) := by decide +kernel
theorem dX12_lawClause_84 : decode cX12_lawClause 84 = .ok (.iload 4, 2) := by decide +kernel
theorem dX12_lawClause_86 : decode cX12_lawClause 86 = .ok (.aload_n 0, 1) := by decide +kernel
theorem dX12_lawClause_87 : decode cX12_lawClause 87 = .ok (.iconst 0, 1) := by decide +kernel
theorem dX12_lawClause_88 : decode cX12_lawClause 88 = .ok (.iconst 3, 1) := by decide +kernel
theorem dX12_lawClause_89 : decode cX12_lawClause 89 = .ok (.invokevirtual 336, 3) := by decide +kernel
theorem dX12_lawClause_92 : decode cX12_lawClause 92 = .ok (.iastore, 1) := by decide +kernel
theorem dX12_lawClause_93 : decode cX12_lawClause 93 = .ok (.aload_n 0, 1) := by decide +kernel
theorem dX12_lawClause_94 : decode cX12_lawClause 94 = .ok (.getfield 87, 3) := by decide +kernel
theorem dX12_lawClause_97 : decode cX12_lawClause 97 = .ok (.iload 4, 2) := by decide +kernel
theorem dX12_lawClause_99 : decode cX12_lawClause 99 = .ok (.iload_n 3, 1) := by decide +kernel
theorem dX12_lawClause_100 : decode cX12_lawClause 100 = .ok (.ifCond .eq 12, 3) := by decide +kernel
theorem dX12_lawClause_103 : decode cX12_lawClause 103 = .ok (.aload_n 0, 1) := by decide +kernel
theorem dX12_lawClause_104 : decode cX12_lawClause 104 = .ok (.iconst 0, 1) := by decide +kernel
theorem dX12_lawClause_105 : decode cX12_lawClause 105 = .ok (.iconst 3, 1) := by decide +kernel
theorem dX12_lawClause_106 : decode cX12_lawClause 106 = .ok (.invokevirtual 336, 3) := by decide +kernel
theorem dX12_lawClause_109 : decode cX12_lawClause 109 = .ok (.goto 4, 3) := by decide +kernel
theorem dX12_lawClause_112 : decode cX12_lawClause 112 = .ok (.iconst (-1), 1) := by decide +kernel
theorem dX12_lawClause_113 : decode cX12_lawClause 113 = .ok (.iastore, 1) := by decide +kernel
theorem dX12_lawClause_114 : decode cX12_lawClause 114 = .ok (.aload_n 0, 1) := by decide +kernel
theorem dX12_lawClause_115 : decode cX12_lawClause 115 = .ok (.getfield 90, 3) := by decide +kernel
theorem dX12_lawClause_118 : decode cX12_lawClause 118 = .ok (.iload 4, 2) := by decide +kernel
theorem dX12_lawClause_120 : decode cX12_lawClause 120 = .ok (.iload_n 3, 1) := by decide +kernel
theorem dX12_lawClause_121 : decode cX12_lawClause 121 = .ok (.ifCond .eq 12, 3) := by decide +kernel
theorem dX12_lawClause_124 : decode cX12_lawClause 124 = .ok (.aload_n 0, 1) := by decide +kernel
theorem dX12_lawClause_125 : decode cX12_lawClause 125 = .ok (.iconst 1, 1) := by decide +kernel
theorem dX12_lawClause_126 : decode cX12_lawClause 126 = .ok (.iconst 5, 1) := by decide +kernel
theorem dX12_lawClause_127 : decode cX12_lawClause 127 = .ok (.invokevirtual 336, 3) := by decide +kernel
theorem dX12_lawClause_130 : decode cX12_lawClause 130 = .ok (.goto 4, 3) := by decide +kernel
theorem dX12_lawClause_133 : decode cX12_lawClause 133 = .ok (.iconst 0, 1) := by decide +kernel
theorem dX12_lawClause_134 : decode cX12_lawClause 134 = .ok (.iastore, 1) := by decide +kernel
theorem dX12_lawClause_135 : decode cX12_lawClause 135 = .ok (.aload_n 0, 1) := by decide +kernel
theorem dX12_lawClause_136 : decode cX12_lawClause 136 = .ok (.getfield 93, 3) := by decide +kernel
theorem dX12_lawClause_139 : decode cX12_lawClause 139 = .ok (.iload 4, 2) := by decide +kernel
theorem dX12_lawClause_141 : decode cX12_lawClause 141 = .ok (.aload_n 0, 1) := by decide +kernel
theorem dX12_lawClause_142 : decode cX12_lawClause 142 = .ok (.getfield 273, 3) := by decide +kernel
theorem dX12_lawClause_145 : decode cX12_lawClause 145 = .ok (.iastore, 1) := by decide +kernel
theorem dX12_lawClause_146 : decode cX12_lawClause 146 = .ok (.iload_n 3, 1) := by decide +kernel
theorem dX12_lawClause_147 : decode cX12_lawClause 147 = .ok (.ifCond .ne 14, 3) := by decide +kernel
theorem dX12_lawClause_150 : decode cX12_lawClause 150 = .ok (.aload_n 0, 1) := by decide +kernel
theorem dX12_lawClause_151 : decode cX12_lawClause 151 = .ok (.getfield 240, 3) := by decide +kernel
theorem dX12_lawClause_154 : decode cX12_lawClause 154 = .ok (.ifCond .ne 7, 3) := by decide +kernel
theorem dX12_lawClause_157 : decode cX12_lawClause 157 = .ok (.aload_n 0, 1) := by decide +kernel
theorem dX12_lawClause_158 : decode cX12_lawClause 158 = .ok (.invokevirtual 379, 3) := by decide +kernel
theorem dX12_lawClause_161 : decode cX12_lawClause 161 = .ok (.aload_n 0, 1) := by decide +kernel
theorem dX12_lawClause_162 : decode cX12_lawClause 162 = .ok (.getfield 96, 3) := by decide +kernel
theorem dX12_lawClause_165 : decode cX12_lawClause 165 = .ok (.iload 4, 2) := by decide +kernel
theorem dX12_lawClause_167 : decode cX12_lawClause 167 = .ok (.aload_n 0, 1) := by decide +kernel
theorem dX12_lawClause_168 : decode cX12_lawClause 168 = .ok (.getfield 273, 3) := by decide +kernel
theorem dX12_lawClause_171 : decode cX12_lawClause 171 = .ok (.iastore, 1) := by decide +kernel
theorem dX12_lawClause_172 : decode cX12_lawClause 172 = .ok (.return_, 1) := by decide +kernel
theorem dX12_law_0 : decode cX12_law 0 = .ok (.aload_n 0, 1) := by decide +kernel
theorem dX12_law_1 : decode cX12_law 1 = .ok (.getfield 382, 3) := by decide +kernel
theorem dX12_law_4 : decode cX12_law 4 = .ok (.iconst 4, 1) := by decide +kernel
theorem dX12_law_5 : decode cX12_law 5 = .ok (.if_icmp .ne 5, 3) := by decide +kernel
theorem dX12_law_8 : decode cX12_law 8 = .ok (.iconst (-1), 1) := by decide +kernel
theorem dX12_law_9 : decode cX12_law 9 = .ok (.ireturn, 1) := by decide +kernel
theorem dX12_law_10 : decode cX12_law 10 = .ok (.aload_n 0, 1) := by decide +kernel
theorem dX12_law_11 : decode cX12_law 11 = .ok (.aload_n 0, 1) := by decide +kernel
theorem dX12_law_12 : decode cX12_law 12 = .ok (.getfield 382, 3) := by decide +kernel
theorem dX12_law_15 : decode cX12_law 15 = .ok (.putfield 270, 3) := by decide +kernel
theorem dX12_law_18 : decode cX12_law 18 = .ok (.aload_n 0, 1) := by decide +kernel
theorem dX12_law_19 : decode cX12_law 19 = .ok (.invokevirtual 363, 3) := by decide +kernel
theorem dX12_law_22 : decode cX12_law 22 = .ok (.iconst 0, 1) := by decide +kernel
theorem dX12_law_23 : decode cX12_law 23 = .ok (.istore_n 1, 1) := by decide +kernel
theorem dX12_law_24 : decode cX12_law 24 = .ok (.iconst 1, 1) := by decide +kernel
theorem dX12_law_25 : decode cX12_law 25 = .ok (.istore_n 2, 1) := by decide +kernel
theorem dX12_law_26 : decode cX12_law 26 = .ok (.iload_n 2, 1) := by decide +kernel
theorem dX12_law_27 : decode cX12_law 27 = .ok (.ifCond .eq 19, 3) := by decide +kernel
theorem dX12_law_30 : decode cX12_law 30 = .ok (.aload_n 0, 1) := by decide +kernel
theorem dX12_law_31 : decode cX12_law 31 = .ok (.iload_n 1, 1) := by decide +kernel
theorem dX12_law_32 : decode cX12_law 32 = .ok (.invokevirtual 385, 3) := by decide +kernel
theorem dX12_law_35 : decode cX12_law 35 = .ok (.iinc 1 1, 3) := by decide +kernel
theorem dX12_law_38 : decode cX12_law 38 = .ok (.aload_n 0, 1) := by decide +kernel
theorem dX12_law_39 : decode cX12_law 39 = .ok (.invokevirtual 369, 3) := by decide +kernel
theorem dX12_law_42 : decode cX12_law 42 = .ok (.istore_n 2, 1) := by decide +kernel
theorem dX12_law_43 : decode cX12_law 43 = .ok (.goto (-17), 3) := by decide +kernel
theorem dX12_law_46 : decode cX12_law 46 = .ok (.aload_n 0, 1) := by decide +kernel
theorem dX12_law_47 : decode cX12_law 47 = .ok (.iconst 0, 1) := by decide +kernel
theorem dX12_law_48 : decode cX12_law 48 = .ok (.putfield 215, 3) := by decide +kernel
theorem dX12_law_51 : decode cX12_law 51 = .ok (.aload_n 0, 1) := by decide +kernel
theorem dX12_law_52 : decode cX12_law 52 = .ok (.getfield 81, 3) := by decide +kernel
theorem dX12_law_55 : decode cX12_law 55 = .ok (.aload_n 0, 1) := by decide +kernel
theorem dX12_law_56 : decode cX12_law 56 = .ok (.getfield 270, 3) := by decide +kernel
theorem dX12_law_59 : decode cX12_law 59 = .ok (.iload_n 1, 1) := by decide +kernel
theorem dX12_law_60 : decode cX12_law 60 = .ok (.iastore, 1) := by decide +kernel
theorem dX12_law_61 : decode cX12_law 61 = .ok (.aload_n 0, 1) := by decide +kernel
theorem dX12_law_62 : decode cX12_law 62 = .ok (.dup, 1) := by decide +kernel
theorem dX12_law_63 : decode cX12_law 63 = .ok (.getfield 382, 3) := by decide +kernel
theorem dX12_law_66 : decode cX12_law 66 = .ok (.aload_n 0, 1) := by decide +kernel
theorem dX12_law_67 : decode cX12_law 67 = .ok (.getfield 240, 3) := by decide +kernel
theorem dX12_law_70 : decode cX12_law 70 = .ok (.ifCond .ne 7, 3) := by decide +kernel
theorem dX12_law_73 : decode cX12_law 73 = .ok (.iconst 1, 1) := by decide +kernel
theorem dX12_law_74 : decode cX12_law 74 = .ok (.goto 4, 3) := by decide +kernel
theorem dX12_law_77 : decode cX12_law 77 = .ok (.iconst 0, 1) := by decide +kernel
theorem dX12_law_78 : decode cX12_law 78 = .ok (.iadd, 1) := by decide +kernel
theorem dX12_law_79 : decode cX12_law 79 = .ok (.putfield 382, 3) := by decide +kernel
theorem dX12_law_82 : decode cX12_law 82 = .ok (.aload_n 0, 1) := by decide +kernel
theorem dX12_law_83 : decode cX12_law 83 = .ok (.getfield 240, 3) := by decide +kernel
theorem dX12_law_86 : decode cX12_law 86 = .ok (.ifCond .le 13, 3) := by decide +kernel
theorem dX12_law_89 : decode cX12_law 89 = .ok (.bipush (-2), 2) := by decide +kernel
theorem dX12_law_91 : decode cX12_law 91 = .ok (.aload_n 0, 1) := by decide +kernel
theorem dX12_law_92 : decode cX12_law 92 = .ok (.getfield 240, 3) := by decide +kernel
theorem dX12_law_95 : decode cX12_law 95 = .ok (.isub, 1) := by decide +kernel
theorem dX12_law_96 : decode cX12_law 96 = .ok (.goto 9, 3) := by decide +kernel
theorem dX12_law_99 : decode cX12_law 99 = .ok (.aload_n 0, 1) := by decide +kernel
theorem dX12_law_100 : decode cX12_law 100 = .ok (.getfield 382, 3) := by decide +kernel
theorem dX12_law_103 : decode cX12_law 103 = .ok (.iconst 1, 1) := by decide +kernel
theorem dX12_law_104 : decode cX12_law 104 = .ok (.isub, 1) := by decide +kernel
theorem dX12_law_105 : decode cX12_law 105 = .ok (.ireturn, 1) := by decide +kernel
theorem dX12_isLaw_0 : decode cX12_isLaw 0 = .ok (.iload_n 1, 1) := by decide +kernel
theorem dX12_isLaw_1 : decode cX12_isLaw 1 = .ok (.i2l, 1) := by decide +kernel
theorem dX12_isLaw_2 : decode cX12_isLaw 2 = .ok (.lconst 0, 1) := by decide +kernel
theorem dX12_isLaw_3 : decode cX12_isLaw 3 = .ok (.aload_n 0, 1) := by decide +kernel
theorem dX12_isLaw_4 : decode cX12_isLaw 4 = .ok (.getfield 382, 3) := by decide +kernel
theorem dX12_isLaw_7 : decode cX12_isLaw 7 = .ok (.iconst 1, 1) := by decide +kernel
theorem dX12_isLaw_8 : decode cX12_isLaw 8 = .ok (.isub, 1) := by decide +kernel
theorem dX12_isLaw_9 : decode cX12_isLaw 9 = .ok (.i2l, 1) := by decide +kernel
theorem dX12_isLaw_10 : decode cX12_isLaw 10 = .ok (.invokestatic 161, 3) := by decide +kernel
theorem dX12_isLaw_13 : decode cX12_isLaw 13 = .ok (.ireturn, 1) := by decide +kernel
theorem dX12_truth_0 : decode cX12_truth 0 = .ok (.iload_n 0, 1) := by decide +kernel
theorem dX12_truth_1 : decode cX12_truth 1 = .ok (.ifCond .eq 7, 3) := by decide +kernel
theorem dX12_truth_4 : decode cX12_truth 4 = .ok (.lconst 1, 1) := by decide +kernel
theorem dX12_truth_5 : decode cX12_truth 5 = .ok (.goto 4, 3) := by decide +kernel
theorem dX12_truth_8 : decode cX12_truth 8 = .ok (.lconst 0, 1) := by decide +kernel
theorem dX12_truth_9 : decode cX12_truth 9 = .ok (.lreturn, 1) := by decide +kernel
theorem dX12_both_0 : decode cX12_both 0 = .ok (.iload_n 0, 1) := by decide +kernel
theorem dX12_both_1 : decode cX12_both 1 = .ok (.tableswitch 172 2 14 #[67, 71, 93, 108, 123, 138, 153, 172, 168, 172, 172, 75, 79], 67) := by decide +kernel
theorem dX12_both_68 : decode cX12_both 68 = .ok (.lload_n 1, 1) := by decide +kernel
theorem dX12_both_69 : decode cX12_both 69 = .ok (.lload_n 3, 1) := by decide +kernel
theorem dX12_both_70 : decode cX12_both 70 = .ok (.ladd, 1) := by decide +kernel
theorem dX12_both_71 : decode cX12_both 71 = .ok (.lreturn, 1) := by decide +kernel
theorem dX12_both_72 : decode cX12_both 72 = .ok (.lload_n 1, 1) := by decide +kernel
theorem dX12_both_73 : decode cX12_both 73 = .ok (.lload_n 3, 1) := by decide +kernel
theorem dX12_both_74 : decode cX12_both 74 = .ok (.lsub, 1) := by decide +kernel
theorem dX12_both_75 : decode cX12_both 75 = .ok (.lreturn, 1) := by decide +kernel
theorem dX12_both_76 : decode cX12_both 76 = .ok (.lload_n 1, 1) := by decide +kernel
theorem dX12_both_77 : decode cX12_both 77 = .ok (.lload_n 3, 1) := by decide +kernel
theorem dX12_both_78 : decode cX12_both 78 = .ok (.lmul, 1) := by decide +kernel
theorem dX12_both_79 : decode cX12_both 79 = .ok (.lreturn, 1) := by decide +kernel
theorem dX12_both_80 : decode cX12_both 80 = .ok (.lload_n 3, 1) := by decide +kernel
theorem dX12_both_81 : decode cX12_both 81 = .ok (.lconst 0, 1) := by decide +kernel
theorem dX12_both_82 : decode cX12_both 82 = .ok (.lcmp, 1) := by decide +kernel
theorem dX12_both_83 : decode cX12_both 83 = .ok (.ifCond .ne 7, 3) := by decide +kernel
theorem dX12_both_86 : decode cX12_both 86 = .ok (.lconst 0, 1) := by decide +kernel
theorem dX12_both_87 : decode cX12_both 87 = .ok (.goto 6, 3) := by decide +kernel
theorem dX12_both_90 : decode cX12_both 90 = .ok (.lload_n 1, 1) := by decide +kernel
theorem dX12_both_91 : decode cX12_both 91 = .ok (.lload_n 3, 1) := by decide +kernel
theorem dX12_both_92 : decode cX12_both 92 = .ok (.ldiv, 1) := by decide +kernel
theorem dX12_both_93 : decode cX12_both 93 = .ok (.lreturn, 1) := by decide +kernel
theorem dX12_both_94 : decode cX12_both 94 = .ok (.lload_n 1, 1) := by decide +kernel
theorem dX12_both_95 : decode cX12_both 95 = .ok (.lload_n 3, 1) := by decide +kernel
theorem dX12_both_96 : decode cX12_both 96 = .ok (.lcmp, 1) := by decide +kernel
theorem dX12_both_97 : decode cX12_both 97 = .ok (.ifCond .ge 7, 3) := by decide +kernel
theorem dX12_both_100 : decode cX12_both 100 = .ok (.iconst 1, 1) := by decide +kernel
theorem dX12_both_101 : decode cX12_both 101 = .ok (.goto 4, 3) := by decide +kernel
theorem dX12_both_104 : decode cX12_both 104 = .ok (.iconst 0, 1) := by decide +kernel
theorem dX12_both_105 : decode cX12_both 105 = .ok (.invokestatic 388, 3) := by decide +kernel
theorem dX12_both_108 : decode cX12_both 108 = .ok (.lreturn, 1) := by decide +kernel
theorem dX12_both_109 : decode cX12_both 109 = .ok (.lload_n 1, 1) := by decide +kernel
theorem dX12_both_110 : decode cX12_both 110 = .ok (.lload_n 3, 1) := by decide +kernel
theorem dX12_both_111 : decode cX12_both 111 = .ok (.lcmp, 1) := by decide +kernel
theorem dX12_both_112 : decode cX12_both 112 = .ok (.ifCond .gt 7, 3) := by decide +kernel
theorem dX12_both_115 : decode cX12_both 115 = .ok (.iconst 1, 1) := by decide +kernel
theorem dX12_both_116 : decode cX12_both 116 = .ok (.goto 4, 3) := by decide +kernel
theorem dX12_both_119 : decode cX12_both 119 = .ok (.iconst 0, 1) := by decide +kernel
theorem dX12_both_120 : decode cX12_both 120 = .ok (.invokestatic 388, 3) := by decide +kernel
theorem dX12_both_123 : decode cX12_both 123 = .ok (.lreturn, 1) := by decide +kernel
theorem dX12_both_124 : decode cX12_both 124 = .ok (.lload_n 1, 1) := by decide +kernel
theorem dX12_both_125 : decode cX12_both 125 = .ok (.lload_n 3, 1) := by decide +kernel
theorem dX12_both_126 : decode cX12_both 126 = .ok (.lcmp, 1) := by decide +kernel
theorem dX12_both_127 : decode cX12_both 127 = .ok (.ifCond .ne 7, 3) := by decide +kernel
theorem dX12_both_130 : decode cX12_both 130 = .ok (.iconst 1, 1) := by decide +kernel
theorem dX12_both_131 : decode cX12_both 131 = .ok (.goto 4, 3) := by decide +kernel
theorem dX12_both_134 : decode cX12_both 134 = .ok (.iconst 0, 1) := by decide +kernel
theorem dX12_both_135 : decode cX12_both 135 = .ok (.invokestatic 388, 3) := by decide +kernel
theorem dX12_both_138 : decode cX12_both 138 = .ok (.lreturn, 1) := by decide +kernel
theorem dX12_both_139 : decode cX12_both 139 = .ok (.lload_n 1, 1) := by decide +kernel
theorem dX12_both_140 : decode cX12_both 140 = .ok (.lload_n 3, 1) := by decide +kernel
theorem dX12_both_141 : decode cX12_both 141 = .ok (.lcmp, 1) := by decide +kernel
theorem dX12_both_142 : decode cX12_both 142 = .ok (.ifCond .lt 7, 3) := by decide +kernel
theorem dX12_both_145 : decode cX12_both 145 = .ok (.iconst 1, 1) := by decide +kernel
theorem dX12_both_146 : decode cX12_both 146 = .ok (.goto 4, 3) := by decide +kernel
theorem dX12_both_149 : decode cX12_both 149 = .ok (.iconst 0, 1) := by decide +kernel
theorem dX12_both_150 : decode cX12_both 150 = .ok (.invokestatic 388, 3) := by decide +kernel
theorem dX12_both_153 : decode cX12_both 153 = .ok (.lreturn, 1) := by decide +kernel
theorem dX12_both_154 : decode cX12_both 154 = .ok (.lload_n 1, 1) := by decide +kernel
theorem dX12_both_155 : decode cX12_both 155 = .ok (.lload_n 3, 1) := by decide +kernel
theorem dX12_both_156 : decode cX12_both 156 = .ok (.lcmp, 1) := by decide +kernel
theorem dX12_both_157 : decode cX12_both 157 = .ok (.ifCond .le 7, 3) := by decide +kernel
theorem dX12_both_160 : decode cX12_both 160 = .ok (.iconst 1, 1) := by decide +kernel
theorem dX12_both_161 : decode cX12_both 161 = .ok (.goto 4, 3) := by decide +kernel
theorem dX12_both_164 : decode cX12_both 164 = .ok (.iconst 0, 1) := by decide +kernel
theorem dX12_both_165 : decode cX12_both 165 = .ok (.invokestatic 388, 3) := by decide +kernel
theorem dX12_both_168 : decode cX12_both 168 = .ok (.lreturn, 1) := by decide +kernel
theorem dX12_both_169 : decode cX12_both 169 = .ok (.lload_n 1, 1) := by decide +kernel
theorem dX12_both_170 : decode cX12_both 170 = .ok (.lload_n 3, 1) := by decide +kernel
theorem dX12_both_171 : decode cX12_both 171 = .ok (.land, 1) := by decide +kernel
theorem dX12_both_172 : decode cX12_both 172 = .ok (.lreturn, 1) := by decide +kernel
theorem dX12_both_173 : decode cX12_both 173 = .ok (.lload_n 1, 1) := by decide +kernel
theorem dX12_both_174 : decode cX12_both 174 = .ok (.lload_n 3, 1) := by decide +kernel
theorem dX12_both_175 : decode cX12_both 175 = .ok (.lor, 1) := by decide +kernel
theorem dX12_both_176 : decode cX12_both 176 = .ok (.lreturn, 1) := by decide +kernel
theorem dX12_answer_0 : decode cX12_answer 0 = .ok (.iconst 0, 1) := by decide +kernel
theorem dX12_answer_1 : decode cX12_answer 1 = .ok (.istore 4, 2) := by decide +kernel
theorem dX12_answer_3 : decode cX12_answer 3 = .ok (.iload_n 2, 1) := by decide +kernel
theorem dX12_answer_4 : decode cX12_answer 4 = .ok (.istore 5, 2) := by decide +kernel
theorem dX12_answer_6 : decode cX12_answer 6 = .ok (.iload 5, 2) := by decide +kernel
theorem dX12_answer_8 : decode cX12_answer 8 = .ok (.iload_n 3, 1) := by decide +kernel
theorem dX12_answer_9 : decode cX12_answer 9 = .ok (.if_icmp .ge 144, 3) := by decide +kernel
theorem dX12_answer_12 : decode cX12_answer 12 = .ok (.aload_n 0, 1) := by decide +kernel
theorem dX12_answer_13 : decode cX12_answer 13 = .ok (.getfield 75, 3) := by decide +kernel
theorem dX12_answer_16 : decode cX12_answer 16 = .ok (.sipush 300, 3) := by decide +kernel
theorem dX12_answer_19 : decode cX12_answer 19 = .ok (.iload_n 1, 1) := by decide +kernel
theorem dX12_answer_20 : decode cX12_answer 20 = .ok (.imul, 1) := by decide +kernel
theorem dX12_answer_21 : decode cX12_answer 21 = .ok (.iload 5, 2) := by decide +kernel
theorem dX12_answer_23 : decode cX12_answer 23 = .ok (.iadd, 1) := by decide +kernel
theorem dX12_answer_24 : decode cX12_answer 24 = .ok (.iaload, 1) := by decide +kernel
theorem dX12_answer_25 : decode cX12_answer 25 = .ok (.istore 6, 2) := by decide +kernel
theorem dX12_answer_27 : decode cX12_answer 27 = .ok (.aload_n 0, 1) := by decide +kernel
theorem dX12_answer_28 : decode cX12_answer 28 = .ok (.getfield 78, 3) := by decide +kernel
theorem dX12_answer_31 : decode cX12_answer 31 = .ok (.sipush 300, 3) := by decide +kernel
theorem dX12_answer_34 : decode cX12_answer 34 = .ok (.iload_n 1, 1) := by decide +kernel
theorem dX12_answer_35 : decode cX12_answer 35 = .ok (.imul, 1) := by decide +kernel
theorem dX12_answer_36 : decode cX12_answer 36 = .ok (.iload 5, 2) := by decide +kernel
theorem dX12_answer_38 : decode cX12_answer 38 = .ok (.iadd, 1) := by decide +kernel
theorem dX12_answer_39 : decode cX12_answer 39 = .ok (.iaload, 1) := by decide +kernel
theorem dX12_answer_40 : decode cX12_answer 40 = .ok (.istore 7, 2) := by decide +kernel
theorem dX12_answer_42 : decode cX12_answer 42 = .ok (.iload 6, 2) := by decide +kernel
theorem dX12_answer_44 : decode cX12_answer 44 = .ok (.ifCond .eq 9, 3) := by decide +kernel
theorem dX12_answer_47 : decode cX12_answer 47 = .ok (.iload 6, 2) := by decide +kernel
theorem dX12_answer_49 : decode cX12_answer 49 = .ok (.iconst 1, 1) := by decide +kernel
theorem dX12_answer_50 : decode cX12_answer 50 = .ok (.if_icmp .ne 34, 3) := by decide +kernel
theorem dX12_answer_53 : decode cX12_answer 53 = .ok (.aload_n 0, 1) := by decide +kernel
theorem dX12_answer_54 : decode cX12_answer 54 = .ok (.getfield 106, 3) := by decide +kernel
theorem dX12_answer_57 : decode cX12_answer 57 = .ok (.iload 4, 2) := by decide +kernel
theorem dX12_answer_59 : decode cX12_answer 59 = .ok (.iload 6, 2) := by decide +kernel
theorem dX12_answer_61 : decode cX12_answer 61 = .ok (.ifCond .ne 9, 3) := by decide +kernel
theorem dX12_answer_64 : decode cX12_answer 64 = .ok (.iload 7, 2) := by decide +kernel
theorem dX12_answer_66 : decode cX12_answer 66 = .ok (.i2l, 1) := by decide +kernel
theorem dX12_answer_67 : decode cX12_answer 67 = .ok (.goto 10, 3) := by decide +kernel
theorem dX12_answer_70 : decode cX12_answer 70 = .ok (.aload_n 0, 1) := by decide +kernel
theorem dX12_answer_71 : decode cX12_answer 71 = .ok (.getfield 102, 3) := by decide +kernel
theorem dX12_answer_74 : decode cX12_answer 74 = .ok (.iload 7, 2) := by decide +kernel
theorem dX12_answer_76 : decode cX12_answer 76 = .ok (.laload, 1) := by decide +kernel
theorem dX12_answer_77 : decode cX12_answer 77 = .ok (.lastore, 1) := by decide +kernel
theorem dX12_answer_78 : decode cX12_answer 78 = .ok (.iinc 4 1, 3) := by decide +kernel
theorem dX12_answer_81 : decode cX12_answer 81 = .ok (.goto 66, 3) := by decide +kernel
theorem dX12_answer_84 : decode cX12_answer 84 = .ok (.iload 6, 2) := by decide +kernel
theorem dX12_answer_86 : decode cX12_answer 86 = .ok (.bipush 9, 2) := by decide +kernel
theorem dX12_answer_88 : decode cX12_answer 88 = .ok (.if_icmp .ne 26, 3) := by decide +kernel
theorem dX12_answer_91 : decode cX12_answer 91 = .ok (.aload_n 0, 1) := by decide +kernel
theorem dX12_answer_92 : decode cX12_answer 92 = .ok (.getfield 106, 3) := by decide +kernel
theorem dX12_answer_95 : decode cX12_answer 95 = .ok (.iload 4, 2) := by decide +kernel
theorem dX12_answer_97 : decode cX12_answer 97 = .ok (.iconst 1, 1) := by decide +kernel
theorem dX12_answer_98 : decode cX12_answer 98 = .ok (.isub, 1) := by decide +kernel
theorem dX12_answer_99 : decode cX12_answer 99 = .ok (.lconst 1, 1) := by decide +kernel
theorem dX12_answer_100 : decode cX12_answer 100 = .ok (.aload_n 0, 1) := by decide +kernel
theorem dX12_answer_101 : decode cX12_answer 101 = .ok (.getfield 106, 3) := by decide +kernel
theorem dX12_answer_104 : decode cX12_answer 104 = .ok (.iload 4, 2) := by decide +kernel
theorem dX12_answer_106 : decode cX12_answer 106 = .ok (.iconst 1, 1) := by decide +kernel
theorem dX12_answer_107 : decode cX12_answer 107 = .ok (.isub, 1) := by decide +kernel
theorem dX12_answer_108 : decode cX12_answer 108 = .ok (.laload, 1) := by decide +kernel
theorem dX12_answer_109 : decode cX12_answer 109 = .ok (.lsub, 1) := by decide +kernel
theorem dX12_answer_110 : decode cX12_answer 110 = .ok (.lastore, 1) := by decide +kernel
theorem dX12_answer_111 : decode cX12_answer 111 = .ok (.goto 36, 3) := by decide +kernel
theorem dX12_answer_114 : decode cX12_answer 114 = .ok (.iinc 4 (-1), 3) := by decide +kernel
theorem dX12_answer_117 : decode cX12_answer 117 = .ok (.aload_n 0, 1) := by decide +kernel
theorem dX12_answer_118 : decode cX12_answer 118 = .ok (.getfield 106, 3) := by decide +kernel
theorem dX12_answer_121 : decode cX12_answer 121 = .ok (.iload 4, 2) := by decide +kernel
theorem dX12_answer_123 : decode cX12_answer 123 = .ok (.iconst 1, 1) := by decide +kernel
theorem dX12_answer_124 : decode cX12_answer 124 = .ok (.isub, 1) := by decide +kernel
theorem dX12_answer_125 : decode cX12_answer 125 = .ok (.iload 6, 2) := by decide +kernel
theorem dX12_answer_127 : decode cX12_answer 127 = .ok (.aload_n 0, 1) := by decide +kernel
theorem dX12_answer_128 : decode cX12_answer 128 = .ok (.getfield 106, 3) := by decide +kernel
theorem dX12_answer_131 : decode cX12_answer 131 = .ok (.iload 4, 2) := by decide +kernel
theorem dX12_answer_133 : decode cX12_answer 133 = .ok (.iconst 1, 1) := by decide +kernel
theorem dX12_answer_134 : decode cX12_answer 134 = .ok (.isub, 1) := by decide +kernel
theorem dX12_answer_135 : decode cX12_answer 135 = .ok (.laload, 1) := by decide +kernel
theorem dX12_answer_136 : decode cX12_answer 136 = .ok (.aload_n 0, 1) := by decide +kernel
theorem dX12_answer_137 : decode cX12_answer 137 = .ok (.getfield 106, 3) := by decide +kernel
theorem dX12_answer_140 : decode cX12_answer 140 = .ok (.iload 4, 2) := by decide +kernel
theorem dX12_answer_142 : decode cX12_answer 142 = .ok (.laload, 1) := by decide +kernel
theorem dX12_answer_143 : decode cX12_answer 143 = .ok (.invokestatic 392, 3) := by decide +kernel
theorem dX12_answer_146 : decode cX12_answer 146 = .ok (.lastore, 1) := by decide +kernel
theorem dX12_answer_147 : decode cX12_answer 147 = .ok (.iinc 5 1, 3) := by decide +kernel
theorem dX12_answer_150 : decode cX12_answer 150 = .ok (.goto (-144), 3) := by decide +kernel
theorem dX12_answer_153 : decode cX12_answer 153 = .ok (.aload_n 0, 1) := by decide +kernel
theorem dX12_answer_154 : decode cX12_answer 154 = .ok (.getfield 106, 3) := by decide +kernel
theorem dX12_answer_157 : decode cX12_answer 157 = .ok (.iconst 0, 1) := by decide +kernel
theorem dX12_answer_158 : decode cX12_answer 158 = .ok (.laload, 1) := by decide +kernel
theorem dX12_answer_159 : decode cX12_answer 159 = .ok (.lreturn, 1) := by decide +kernel
theorem dX12_stands_0 : decode cX12_stands 0 = .ok (.iload_n 1, 1) := by decide +kernel
theorem dX12_stands_1 : decode cX12_stands 1 = .ok (.iconst (-1), 1) := by decide +kernel
theorem dX12_stands_2 : decode cX12_stands 2 = .ok (.if_icmp .eq 14, 3) := by decide +kernel
theorem dX12_stands_5 : decode cX12_stands 5 = .ok (.aload_n 0, 1) := by decide +kernel
theorem dX12_stands_6 : decode cX12_stands 6 = .ok (.iload_n 1, 1) := by decide +kernel
theorem dX12_stands_7 : decode cX12_stands 7 = .ok (.invokevirtual 395, 3) := by decide +kernel
theorem dX12_stands_10 : decode cX12_stands 10 = .ok (.ifCond .ne 6, 3) := by decide +kernel
theorem dX12_stands_13 : decode cX12_stands 13 = .ok (.bipush (-2), 2) := by decide +kernel
theorem dX12_stands_15 : decode cX12_stands 15 = .ok (.ireturn, 1) := by decide +kernel
theorem dX12_stands_16 : decode cX12_stands 16 = .ok (.aload_n 0, 1) := by decide +kernel
theorem dX12_stands_17 : decode cX12_stands 17 = .ok (.getfield 7, 3) := by decide +kernel
theorem dX12_stands_20 : decode cX12_stands 20 = .ok (.bipush 6, 2) := by decide +kernel
theorem dX12_stands_22 : decode cX12_stands 22 = .ok (.iaload, 1) := by decide +kernel
theorem dX12_stands_23 : decode cX12_stands 23 = .ok (.iconst 1, 1) := by decide +kernel
theorem dX12_stands_24 : decode cX12_stands 24 = .ok (.isub, 1) := by decide +kernel
theorem dX12_stands_25 : decode cX12_stands 25 = .ok (.istore_n 2, 1) := by decide +kernel
theorem dX12_stands_26 : decode cX12_stands 26 = .ok (.aload_n 0, 1) := by decide +kernel
theorem dX12_stands_27 : decode cX12_stands 27 = .ok (.getfield 7, 3) := by decide +kernel
theorem dX12_stands_30 : decode cX12_stands 30 = .ok (.bipush 6, 2) := by decide +kernel
theorem dX12_stands_32 : decode cX12_stands 32 = .ok (.iload_n 1, 1) := by decide +kernel
theorem dX12_stands_33 : decode cX12_stands 33 = .ok (.iconst 1, 1) := by decide +kernel
theorem dX12_stands_34 : decode cX12_stands 34 = .ok (.iadd, 1) := by decide +kernel
theorem dX12_stands_35 : decode cX12_stands 35 = .ok (.iastore, 1) := by decide +kernel
theorem dX12_stands_36 : decode cX12_stands 36 = .ok (.iload_n 2, 1) := by decide +kernel
theorem dX12_stands_37 : decode cX12_stands 37 = .ok (.ireturn, 1) := by decide +kernel
