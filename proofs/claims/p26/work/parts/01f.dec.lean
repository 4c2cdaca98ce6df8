set_option maxRecDepth 20000 in
theorem ggL_plans_X6_length : GoodIn wsL_plans wsX6_length := goodIn_r _ [246, 12, 220, 237, 238, 239, 44, 240, 241, 33, 34, 35, 242, 229, 230, 231, 46, 232, 42, 43, 45, 47, 255, 256, 257, 258, 259, 260, 261, 280, 281, 282, 283, 284, 266, 267] (by decide +kernel) (by decide +kernel)
set_option maxRecDepth 20000 in
theorem gL_plans_X6_length : GoodIn wsL_plans (wsV RL 107 RX6 yX6_length wsX6_length) := goodIn_app (goodIn_of _ (by decide +kernel)) ggL_plans_X6_length
set_option maxRecDepth 20000 in
theorem ggL_plans_X6_bound : GoodIn wsL_plans wsX6_bound := goodIn_r _ [250, 105, 100, 101, 102, 4, 103, 104, 12, 99, 106, 107, 108, 109, 110, 111, 112, 113, 114, 115, 116, 117, 118, 119, 120, 121, 122, 123, 124, 125, 126, 127, 128, 129, 130, 131, 132, 60, 34, 61, 133, 134, 135, 136, 137, 138, 139, 42, 43, 44, 45, 46, 47, 140, 141, 142, 143, 144, 145, 146, 147, 148, 149, 150, 151, 152, 153, 154, 155, 156, 157, 158, 159, 160, 161, 162, 163, 164, 165, 166, 167, 168, 169, 170, 171, 172, 173, 174, 175, 176, 177, 178, 179, 180, 181, 182, 183, 184, 185, 186, 187, 188, 189, 190, 191, 192, 193, 194, 195, 196, 197, 198, 199, 200, 201, 202, 203, 204, 205, 206, 207, 208, 209, 210, 211, 212, 255, 256, 257, 258, 259, 260, 261, 269, 270, 271, 272, 273, 274, 275, 276, 277, 278, 279, 266, 267, 268] (by decide +kernel) (by decide +kernel)
set_option maxRecDepth 20000 in
theorem gL_plans_X6_bound : GoodIn wsL_plans (wsV RL 71 RX6 yX6_bound wsX6_bound) := goodIn_app (goodIn_of _ (by decide +kernel)) ggL_plans_X6_bound
set_option maxRecDepth 20000 in
theorem ggL_plans_X6_excess : GoodIn wsL_plans wsX6_excess := goodIn_r _ [254, 6, 12, 99, 7, 8, 9, 4, 10, 11, 13, 14, 15, 16, 17, 18, 19, 20, 21, 22, 23, 24, 25, 26, 27, 28, 29, 30, 31, 32, 33, 34, 35, 36, 37, 38, 39, 40, 41, 42, 43, 44, 45, 46, 47, 100, 101, 102, 103, 104, 105, 106, 107, 108, 109, 110, 111, 112, 113, 114, 115, 116, 117, 118, 119, 120, 121, 122, 123, 124, 125, 126, 127, 128, 129, 130, 131, 132, 60, 61, 133, 134, 135, 136, 137, 138, 139, 140, 141, 142, 143, 144, 145, 146, 147, 148, 149, 150, 151, 152, 153, 154, 155, 156, 157, 158, 159, 160, 161, 162, 163, 164, 165, 166, 167, 168, 169, 170, 171, 172, 173, 174, 175, 176, 177, 178, 179, 180, 181, 182, 183, 184, 185, 186, 187, 188, 189, 190, 191, 192, 193, 194, 195, 196, 197, 198, 199, 200, 201, 202, 203, 204, 205, 206, 207, 208, 209, 210, 211, 212, 237, 238, 239, 240, 241, 242, 229, 230, 231, 232, 255, 256, 257, 258, 259, 260, 261, 262, 263, 264, 265, 268, 266, 267, 269, 270, 271, 272, 273, 274, 275, 276, 277, 278, 279] (by decide +kernel) (by decide +kernel)
set_option maxRecDepth 20000 in
theorem gL_plans_X6_excess : GoodIn wsL_plans (wsV RL 110 RX6 yX6_excess wsX6_excess) := goodIn_app (goodIn_of _ (by decide +kernel)) ggL_plans_X6_excess
theorem dL_plans_0 : decode cL_plans 0 = .ok (.aload_n 0, 1) := by decide +kernel
theorem dL_plans_1 : decode cL_plans 1 = .ok (.invokevirtual 91, 3) := by decide +kernel
theorem dL_plans_4 : decode cL_plans 4 = .ok (.istore_n 1, 1) := by decide +kernel
theorem dL_plans_5 : decode cL_plans 5 = .ok (.iconst 0, 1) := by decide +kernel
theorem dL_plans_6 : decode cL_plans 6 = .ok (.istore_n 2, 1) := by decide +kernel
theorem dL_plans_7 : decode cL_plans 7 = .ok (.iconst 0, 1) := by decide +kernel
theorem dL_plans_8 : decode cL_plans 8 = .ok (.istore_n 3, 1) := by decide +kernel
theorem dL_plans_9 : decode cL_plans 9 = .ok (.iconst 0, 1) := by decide +kernel
theorem dL_plans_10 : decode cL_plans 10 = .ok (.istore 4, 2) := by decide +kernel
theorem dL_plans_12 : decode cL_plans 12 = .ok (.iload_n 1, 1) := by decide +kernel
theorem dL_plans_13 : decode cL_plans 13 = .ok (.aload_n 0, 1) := by decide +kernel
theorem dL_plans_14 : decode cL_plans 14 = .ok (.invokevirtual 94, 3) := by decide +kernel
theorem dL_plans_17 : decode cL_plans 17 = .ok (.if_icmp .ne 7, 3) := by decide +kernel
theorem dL_plans_20 : decode cL_plans 20 = .ok (.iconst 1, 1) := by decide +kernel
theorem dL_plans_21 : decode cL_plans 21 = .ok (.goto 4, 3) := by decide +kernel
theorem dL_plans_24 : decode cL_plans 24 = .ok (.iconst 0, 1) := by decide +kernel
theorem dL_plans_25 : decode cL_plans 25 = .ok (.istore 5, 2) := by decide +kernel
theorem dL_plans_27 : decode cL_plans 27 = .ok (.iconst 0, 1) := by decide +kernel
theorem dL_plans_28 : decode cL_plans 28 = .ok (.istore 6, 2) := by decide +kernel
theorem dL_plans_30 : decode cL_plans 30 = .ok (.iload 6, 2) := by decide +kernel
theorem dL_plans_32 : decode cL_plans 32 = .ok (.iconst 3, 1) := by decide +kernel
theorem dL_plans_33 : decode cL_plans 33 = .ok (.if_icmp .ge 232, 3) := by decide +kernel
theorem dL_plans_36 : decode cL_plans 36 = .ok (.iload 5, 2) := by decide +kernel
theorem dL_plans_38 : decode cL_plans 38 = .ok (.ifCond .eq 227, 3) := by decide +kernel
theorem dL_plans_41 : decode cL_plans 41 = .ok (.iconst 0, 1) := by decide +kernel
theorem dL_plans_42 : decode cL_plans 42 = .ok (.istore 7, 2) := by decide +kernel
theorem dL_plans_44 : decode cL_plans 44 = .ok (.iconst 0, 1) := by decide +kernel
theorem dL_plans_45 : decode cL_plans 45 = .ok (.istore 8, 2) := by decide +kernel
theorem dL_plans_47 : decode cL_plans 47 = .ok (.iconst 0, 1) := by decide +kernel
theorem dL_plans_48 : decode cL_plans 48 = .ok (.istore 9, 2) := by decide +kernel
theorem dL_plans_50 : decode cL_plans 50 = .ok (.iconst 0, 1) := by decide +kernel
theorem dL_plans_51 : decode cL_plans 51 = .ok (.istore 10, 2) := by decide +kernel
theorem dL_plans_53 : decode cL_plans 53 = .ok (.iload 10, 2) := by decide +kernel
theorem dL_plans_55 : decode cL_plans 55 = .ok (.aload_n 0, 1) := by decide +kernel
theorem dL_plans_56 : decode cL_plans 56 = .ok (.invokevirtual 54, 3) := by decide +kernel
theorem dL_plans_59 : decode cL_plans 59 = .ok (.if_icmp .ge 135, 3) := by decide +kernel
theorem dL_plans_62 : decode cL_plans 62 = .ok (.aload_n 0, 1) := by decide +kernel
theorem dL_plans_63 : decode cL_plans 63 = .ok (.iload 10, 2) := by decide +kernel
theorem dL_plans_65 : decode cL_plans 65 = .ok (.iload 6, 2) := by decide +kernel
theorem dL_plans_67 : decode cL_plans 67 = .ok (.invokestatic 65, 3) := by decide +kernel
theorem dL_plans_70 : decode cL_plans 70 = .ok (.istore 11, 2) := by decide +kernel
theorem dL_plans_72 : decode cL_plans 72 = .ok (.iload 5, 2) := by decide +kernel
theorem dL_plans_74 : decode cL_plans 74 = .ok (.ifCond .eq 45, 3) := by decide +kernel
theorem dL_plans_77 : decode cL_plans 77 = .ok (.iload 11, 2) := by decide +kernel
theorem dL_plans_79 : decode cL_plans 79 = .ok (.ifCond .gt 36, 3) := by decide +kernel
theorem dL_plans_82 : decode cL_plans 82 = .ok (.aload_n 0, 1) := by decide +kernel
theorem dL_plans_83 : decode cL_plans 83 = .ok (.iload 10, 2) := by decide +kernel
theorem dL_plans_85 : decode cL_plans 85 = .ok (.invokestatic 97, 3) := by decide +kernel
theorem dL_plans_88 : decode cL_plans 88 = .ok (.iload 6, 2) := by decide +kernel
theorem dL_plans_90 : decode cL_plans 90 = .ok (.if_icmp .eq 29, 3) := by decide +kernel
theorem dL_plans_93 : decode cL_plans 93 = .ok (.aload_n 0, 1) := by decide +kernel
theorem dL_plans_94 : decode cL_plans 94 = .ok (.iload 10, 2) := by decide +kernel
theorem dL_plans_96 : decode cL_plans 96 = .ok (.invokestatic 74, 3) := by decide +kernel
theorem dL_plans_99 : decode cL_plans 99 = .ok (.iload 6, 2) := by decide +kernel
theorem dL_plans_101 : decode cL_plans 101 = .ok (.if_icmp .eq 18, 3) := by decide +kernel
theorem dL_plans_104 : decode cL_plans 104 = .ok (.aload_n 0, 1) := by decide +kernel
theorem dL_plans_105 : decode cL_plans 105 = .ok (.iload 10, 2) := by decide +kernel
theorem dL_plans_107 : decode cL_plans 107 = .ok (.invokestatic 100, 3) := by decide +kernel
theorem dL_plans_110 : decode cL_plans 110 = .ok (.iload 6, 2) := by decide +kernel
theorem dL_plans_112 : decode cL_plans 112 = .ok (.if_icmp .eq 7, 3) := by decide +kernel
theorem dL_plans_115 : decode cL_plans 115 = .ok (.iconst 1, 1) := by decide +kernel
theorem dL_plans_116 : decode cL_plans 116 = .ok (.goto 4, 3) := by decide +kernel
theorem dL_plans_119 : decode cL_plans 119 = .ok (.iconst 0, 1) := by decide +kernel
theorem dL_plans_120 : decode cL_plans 120 = .ok (.istore 5, 2) := by decide +kernel
theorem dL_plans_122 : decode cL_plans 122 = .ok (.iload 7, 2) := by decide +kernel
theorem dL_plans_124 : decode cL_plans 124 = .ok (.aload_n 0, 1) := by decide +kernel
theorem dL_plans_125 : decode cL_plans 125 = .ok (.iload 10, 2) := by decide +kernel
theorem dL_plans_127 : decode cL_plans 127 = .ok (.invokestatic 97, 3) := by decide +kernel
theorem dL_plans_130 : decode cL_plans 130 = .ok (.iload 6, 2) := by decide +kernel
theorem dL_plans_132 : decode cL_plans 132 = .ok (.if_icmp .ne 8, 3) := by decide +kernel
theorem dL_plans_135 : decode cL_plans 135 = .ok (.iload 11, 2) := by decide +kernel
theorem dL_plans_137 : decode cL_plans 137 = .ok (.goto 4, 3) := by decide +kernel
theorem dL_plans_140 : decode cL_plans 140 = .ok (.iconst 0, 1) := by decide +kernel
theorem dL_plans_141 : decode cL_plans 141 = .ok (.iadd, 1) := by decide +kernel
theorem dL_plans_142 : decode cL_plans 142 = .ok (.istore 7, 2) := by decide +kernel
theorem dL_plans_144 : decode cL_plans 144 = .ok (.iload 8, 2) := by decide +kernel
theorem dL_plans_146 : decode cL_plans 146 = .ok (.aload_n 0, 1) := by decide +kernel
theorem dL_plans_147 : decode cL_plans 147 = .ok (.iload 10, 2) := by decide +kernel
theorem dL_plans_149 : decode cL_plans 149 = .ok (.invokestatic 74, 3) := by decide +kernel
theorem dL_plans_152 : decode cL_plans 152 = .ok (.iload 6, 2) := by decide +kernel
theorem dL_plans_154 : decode cL_plans 154 = .ok (.if_icmp .ne 8, 3) := by decide +kernel
theorem dL_plans_157 : decode cL_plans 157 = .ok (.iload 11, 2) := by decide +kernel
theorem dL_plans_159 : decode cL_plans 159 = .ok (.goto 4, 3) := by decide +kernel
theorem dL_plans_162 : decode cL_plans 162 = .ok (.iconst 0, 1) := by decide +kernel
theorem dL_plans_163 : decode cL_plans 163 = .ok (.iadd, 1) := by decide +kernel
theorem dL_plans_164 : decode cL_plans 164 = .ok (.istore 8, 2) := by decide +kernel
theorem dL_plans_166 : decode cL_plans 166 = .ok (.iload 9, 2) := by decide +kernel
theorem dL_plans_168 : decode cL_plans 168 = .ok (.aload_n 0, 1) := by decide +kernel
theorem dL_plans_169 : decode cL_plans 169 = .ok (.iload 10, 2) := by decide +kernel
theorem dL_plans_171 : decode cL_plans 171 = .ok (.invokestatic 100, 3) := by decide +kernel
theorem dL_plans_174 : decode cL_plans 174 = .ok (.iload 6, 2) := by decide +kernel
theorem dL_plans_176 : decode cL_plans 176 = .ok (.if_icmp .ne 8, 3) := by decide +kernel
theorem dL_plans_179 : decode cL_plans 179 = .ok (.iload 11, 2) := by decide +kernel
theorem dL_plans_181 : decode cL_plans 181 = .ok (.goto 4, 3) := by decide +kernel
theorem dL_plans_184 : decode cL_plans 184 = .ok (.iconst 0, 1) := by decide +kernel
theorem dL_plans_185 : decode cL_plans 185 = .ok (.iadd, 1) := by decide +kernel
theorem dL_plans_186 : decode cL_plans 186 = .ok (.istore 9, 2) := by decide +kernel
theorem dL_plans_188 : decode cL_plans 188 = .ok (.iinc 10 1, 3) := by decide +kernel
theorem dL_plans_191 : decode cL_plans 191 = .ok (.goto (-138), 3) := by decide +kernel
theorem dL_plans_194 : decode cL_plans 194 = .ok (.iload 7, 2) := by decide +kernel
theorem dL_plans_196 : decode cL_plans 196 = .ok (.iload_n 2, 1) := by decide +kernel
theorem dL_plans_197 : decode cL_plans 197 = .ok (.if_icmp .le 8, 3) := by decide +kernel
theorem dL_plans_200 : decode cL_plans 200 = .ok (.iload 7, 2) := by decide +kernel
theorem dL_plans_202 : decode cL_plans 202 = .ok (.goto 4, 3) := by decide +kernel
theorem dL_plans_205 : decode cL_plans 205 = .ok (.iload_n 2, 1) := by decide +kernel
theorem dL_plans_206 : decode cL_plans 206 = .ok (.istore_n 2, 1) := by decide +kernel
theorem dL_plans_207 : decode cL_plans 207 = .ok (.iload 8, 2) := by decide +kernel
theorem dL_plans_209 : decode cL_plans 209 = .ok (.iload_n 3, 1) := by decide +kernel
theorem dL_plans_210 : decode cL_plans 210 = .ok (.if_icmp .le 8, 3) := by decide +kernel
theorem dL_plans_213 : decode cL_plans 213 = .ok (.iload 8, 2) := by decide +kernel
theorem dL_plans_215 : decode cL_plans 215 = .ok (.goto 4, 3) := by decide +kernel
theorem dL_plans_218 : decode cL_plans 218 = .ok (.iload_n 3, 1) := by decide +kernel
theorem dL_plans_219 : decode cL_plans 219 = .ok (.istore_n 3, 1) := by decide +kernel
theorem dL_plans_220 : decode cL_plans 220 = .ok (.iload 9, 2) := by decide +kernel
theorem dL_plans_222 : decode cL_plans 222 = .ok (.iload 4, 2) := by decide +kernel
theorem dL_plans_224 : decode cL_plans 224 = .ok (.if_icmp .le 8, 3) := by decide +kernel
theorem dL_plans_227 : decode cL_plans 227 = .ok (.iload 9, 2) := by decide +kernel
theorem dL_plans_229 : decode cL_plans 229 = .ok (.goto 5, 3) := by decide +kernel
theorem dL_plans_232 : decode cL_plans 232 = .ok (.iload 4, 2) := by decide +kernel
theorem dL_plans_234 : decode cL_plans 234 = .ok (.istore 4, 2) := by decide +kernel
theorem dL_plans_236 : decode cL_plans 236 = .ok (.iload 5, 2) := by decide +kernel
theorem dL_plans_238 : decode cL_plans 238 = .ok (.ifCond .eq 18, 3) := by decide +kernel
theorem dL_plans_241 : decode cL_plans 241 = .ok (.aload_n 0, 1) := by decide +kernel
theorem dL_plans_242 : decode cL_plans 242 = .ok (.iload 6, 2) := by decide +kernel
theorem dL_plans_244 : decode cL_plans 244 = .ok (.invokestatic 102, 3) := by decide +kernel
theorem dL_plans_247 : decode cL_plans 247 = .ok (.iload 9, 2) := by decide +kernel
theorem dL_plans_249 : decode cL_plans 249 = .ok (.if_icmp .ne 7, 3) := by decide +kernel
theorem dL_plans_252 : decode cL_plans 252 = .ok (.iconst 1, 1) := by decide +kernel
theorem dL_plans_253 : decode cL_plans 253 = .ok (.goto 4, 3) := by decide +kernel
theorem dL_plans_256 : decode cL_plans 256 = .ok (.iconst 0, 1) := by decide +kernel
theorem dL_plans_257 : decode cL_plans 257 = .ok (.istore 5, 2) := by decide +kernel
theorem dL_plans_259 : decode cL_plans 259 = .ok (.iinc 6 1, 3) := by decide +kernel
theorem dL_plans_262 : decode cL_plans 262 = .ok (.goto (-232), 3) := by decide +kernel
theorem dL_plans_265 : decode cL_plans 265 = .ok (.iload 5, 2) := by decide +kernel
theorem dL_plans_267 : decode cL_plans 267 = .ok (.ifCond .eq 58, 3) := by decide +kernel
theorem dL_plans_270 : decode cL_plans 270 = .ok (.iload_n 2, 1) := by decide +kernel
theorem dL_plans_271 : decode cL_plans 271 = .ok (.iload_n 1, 1) := by decide +kernel
theorem dL_plans_272 : decode cL_plans 272 = .ok (.if_icmp .ne 53, 3) := by decide +kernel
theorem dL_plans_275 : decode cL_plans 275 = .ok (.iload_n 3, 1) := by decide +kernel
theorem dL_plans_276 : decode cL_plans 276 = .ok (.aload_n 0, 1) := by decide +kernel
theorem dL_plans_277 : decode cL_plans 277 = .ok (.invokevirtual 104, 3) := by decide +kernel
theorem dL_plans_280 : decode cL_plans 280 = .ok (.if_icmp .ne 45, 3) := by decide +kernel
theorem dL_plans_283 : decode cL_plans 283 = .ok (.iload 4, 2) := by decide +kernel
theorem dL_plans_285 : decode cL_plans 285 = .ok (.aload_n 0, 1) := by decide +kernel
theorem dL_plans_286 : decode cL_plans 286 = .ok (.invokevirtual 107, 3) := by decide +kernel
theorem dL_plans_289 : decode cL_plans 289 = .ok (.if_icmp .ne 36, 3) := by decide +kernel
theorem dL_plans_292 : decode cL_plans 292 = .ok (.iload_n 1, 1) := by decide +kernel
theorem dL_plans_293 : decode cL_plans 293 = .ok (.iload_n 3, 1) := by decide +kernel
theorem dL_plans_294 : decode cL_plans 294 = .ok (.if_icmp .gt 31, 3) := by decide +kernel
theorem dL_plans_297 : decode cL_plans 297 = .ok (.iload_n 1, 1) := by decide +kernel
theorem dL_plans_298 : decode cL_plans 298 = .ok (.iload 4, 2) := by decide +kernel
theorem dL_plans_300 : decode cL_plans 300 = .ok (.if_icmp .gt 25, 3) := by decide +kernel
theorem dL_plans_303 : decode cL_plans 303 = .ok (.aload_n 0, 1) := by decide +kernel
theorem dL_plans_304 : decode cL_plans 304 = .ok (.invokevirtual 71, 3) := by decide +kernel
theorem dL_plans_307 : decode cL_plans 307 = .ok (.iload_n 1, 1) := by decide +kernel
theorem dL_plans_308 : decode cL_plans 308 = .ok (.if_icmp .gt 17, 3) := by decide +kernel
theorem dL_plans_311 : decode cL_plans 311 = .ok (.iload_n 3, 1) := by decide +kernel
theorem dL_plans_312 : decode cL_plans 312 = .ok (.iconst 2, 1) := by decide +kernel
theorem dL_plans_313 : decode cL_plans 313 = .ok (.aload_n 0, 1) := by decide +kernel
theorem dL_plans_314 : decode cL_plans 314 = .ok (.invokevirtual 71, 3) := by decide +kernel
theorem dL_plans_317 : decode cL_plans 317 = .ok (.imul, 1) := by decide +kernel
theorem dL_plans_318 : decode cL_plans 318 = .ok (.if_icmp .gt 7, 3) := by decide +kernel
theorem dL_plans_321 : decode cL_plans 321 = .ok (.iconst 1, 1) := by decide +kernel
theorem dL_plans_322 : decode cL_plans 322 = .ok (.goto 4, 3) := by decide +kernel
theorem dL_plans_325 : decode cL_plans 325 = .ok (.iconst 0, 1) := by decide +kernel
theorem dL_plans_326 : decode cL_plans 326 = .ok (.istore 5, 2) := by decide +kernel
theorem dL_plans_328 : decode cL_plans 328 = .ok (.iload 5, 2) := by decide +kernel
theorem dL_plans_330 : decode cL_plans 330 = .ok (.ifCond .eq 31, 3) := by decide +kernel
theorem dL_plans_333 : decode cL_plans 333 = .ok (.aload_n 0, 1) := by decide +kernel
theorem dL_plans_334 : decode cL_plans 334 = .ok (.invokevirtual 110, 3) := by decide +kernel
theorem dL_plans_337 : decode cL_plans 337 = .ok (.aload_n 0, 1) := by decide +kernel
theorem dL_plans_338 : decode cL_plans 338 = .ok (.invokevirtual 54, 3) := by decide +kernel
theorem dL_plans_341 : decode cL_plans 341 = .ok (.ifCond .ne 7, 3) := by decide +kernel
theorem dL_plans_344 : decode cL_plans 344 = .ok (.fconst 1, 1) := by decide +kernel
theorem dL_plans_345 : decode cL_plans 345 = .ok (.goto 8, 3) := by decide +kernel
theorem dL_plans_348 : decode cL_plans 348 = .ok (.iload_n 3, 1) := by decide +kernel
theorem dL_plans_349 : decode cL_plans 349 = .ok (.i2f, 1) := by decide +kernel
theorem dL_plans_350 : decode cL_plans 350 = .ok (.iload_n 1, 1) := by decide +kernel
theorem dL_plans_351 : decode cL_plans 351 = .ok (.i2f, 1) := by decide +kernel
theorem dL_plans_352 : decode cL_plans 352 = .ok (.fdiv, 1) := by decide +kernel
theorem dL_plans_353 : decode cL_plans 353 = .ok (.fcmp .l, 1) := by decide +kernel
theorem dL_plans_354 : decode cL_plans 354 = .ok (.ifCond .ne 7, 3) := by decide +kernel
theorem dL_plans_357 : decode cL_plans 357 = .ok (.iconst 1, 1) := by decide +kernel
theorem dL_plans_358 : decode cL_plans 358 = .ok (.goto 4, 3) := by decide +kernel
theorem dL_plans_361 : decode cL_plans 361 = .ok (.iconst 0, 1) := by decide +kernel
theorem dL_plans_362 : decode cL_plans 362 = .ok (.ireturn, 1) := by decide +kernel
set_option maxRecDepth 20000 in
theorem ggL_law_X6_init : GoodIn wsL_law wsX6_init := goodIn_r _ [5, 6, 7, 8, 9, 10, 11, 12, 13, 14, 15, 16, 17, 18, 19, 20, 21, 22, 23, 24, 25, 26, 27, 28, 29, 30, 31, 32, 33, 34, 35, 36, 37, 38, 39, 40, 41, 42, 43, 44, 45, 46, 47, 48, 49, 50, 51, 52, 53, 54, 55, 56, 57, 58, 59, 60, 61, 62, 63, 64, 65, 430, 431, 423, 424, 425, 426, 427, 428, 429, 432, 433, 434, 435, 436, 437, 438, 439, 440, 441, 442, 443, 444, 445, 446, 447, 448, 449, 450, 451, 452] rfl (by decide +kernel)
set_option maxRecDepth 20000 in
theorem gL_law_X6_init : GoodIn wsL_law (wsX6_init) := ggL_law_X6_init
set_option maxRecDepth 20000 in
theorem ggL_law_L_divides : GoodIn wsL_law wsL_divides := goodIn_ca (goodIn_r _ [69, 70, 71, 72, 2, 73, 24, 74, 75, 76, 77, 78, 12, 28, 79, 80, 81, 23, 82, 83, 84, 85, 86, 87, 50, 88, 89, 90, 91, 92, 49, 93, 58, 94, 59, 61, 95, 96, 97, 98, 99, 100, 101, 102, 103, 104, 105, 106, 107, 108, 109, 110, 111, 11, 112, 113, 33, 114, 115, 116, 117, 118, 119, 120, 121, 122, 123, 124, 125, 126, 127, 128, 129, 130, 131, 132, 133, 134, 135, 136, 137, 138, 139, 140, 141, 142, 143, 144, 145, 146, 147, 148, 149, 150, 151, 152, 153, 154, 155, 156, 157, 158, 51, 52, 159, 160, 161, 162, 163, 164, 165, 166, 167, 168, 169, 27, 170, 171, 172, 173, 65, 174, 175, 176, 177, 178, 179, 180, 181, 182, 183, 184, 185, 186, 187, 188, 68, 189, 190, 191, 192, 193, 194, 195, 196, 197, 198, 199, 200, 201, 202, 203, 204, 205, 206, 207, 208, 209, 210, 211, 212, 213, 214, 215, 216, 217, 218, 219, 220, 221, 222, 223, 224, 225, 226, 227, 228, 229, 230, 231, 232, 233, 234, 235, 236, 237, 238, 239, 240, 241, 242, 243, 244, 245, 246, 247, 423, 424, 425, 426, 427, 428, 429, 441, 442, 443, 444, 445, 446, 448, 449, 450, 451, 452, 430, 431, 447] rfl (by decide +kernel)) (goodIn_sub (fun _ h => List.mem_append_left _ (List.mem_append_left _ (List.mem_append_right _ h))) (by decide +kernel))
set_option maxRecDepth 20000 in
theorem gL_law_L_divides : GoodIn wsL_law (va_wsS RL 115 yL_divides wsL_divides) := goodIn_app (goodIn_of _ (by decide +kernel)) ggL_law_L_divides
set_option maxRecDepth 20000 in
theorem ggL_law_L_plans : GoodIn wsL_law wsL_plans := goodIn_ca (goodIn_r _ [250, 251, 252, 253, 2, 254, 20, 255, 256, 257, 258, 259, 12, 260, 261, 262, 19, 263, 264, 265, 266, 267, 268, 41, 269, 270, 271, 42, 272, 273, 274, 275, 276, 277, 101, 278, 279, 280, 281, 282, 43, 283, 110, 111, 11, 112, 113, 33, 284, 285, 286, 287, 288, 289, 290, 291, 292, 293, 294, 295, 100, 102, 183, 184, 185, 186, 211, 212, 68, 213, 190, 214, 215, 216, 217, 195, 196, 197, 198, 199, 200, 201, 202, 203, 218, 296, 297, 298, 299, 300, 301, 302, 222, 223, 224, 225, 226, 227, 228, 28, 74, 75, 76, 77, 78, 24, 79, 80, 81, 23, 82, 83, 84, 85, 86, 87, 50, 88, 89, 90, 91, 92, 49, 93, 58, 94, 59, 61, 95, 96, 97, 98, 99, 103, 104, 105, 106, 107, 108, 109, 114, 115, 116, 117, 118, 119, 120, 121, 122, 123, 124, 125, 126, 127, 128, 129, 130, 131, 132, 133, 134, 135, 136, 137, 138, 139, 140, 141, 142, 143, 144, 145, 146, 147, 148, 149, 150, 151, 152, 153, 154, 155, 156, 157, 158, 51, 52, 159, 160, 161, 162, 163, 164, 165, 166, 167, 168, 169, 27, 170, 171, 172, 173, 65, 174, 175, 176, 177, 178, 179, 180, 181, 182, 303, 304, 305, 306, 307, 308, 309, 16, 310, 311, 312, 313, 314, 315, 316, 317, 318, 319, 320, 321, 322, 323, 324, 325, 326, 327, 328, 329, 330, 331, 332, 333, 334, 335, 70, 71, 72, 73, 336, 337, 338, 339, 423, 424, 425, 426, 427, 428, 429, 437, 438, 439, 440, 430, 431, 447, 441, 442, 443, 444, 445, 446, 448, 449, 450, 451, 452, 432, 433, 434, 435, 436] rfl (by decide +kernel)) (goodIn_sub (fun _ h => List.mem_append_left _ (List.mem_append_left _ (List.mem_append_right _ h))) (by decide +kernel))
set_option maxRecDepth 20000 in
theorem gL_law_L_plans : GoodIn wsL_law (va_wsS RL 119 yL_plans wsL_plans) := goodIn_app (goodIn_of _ (by decide +kernel)) ggL_law_L_plans
set_option maxRecDepth 20000 in
theorem ggL_law_L_cell : GoodIn wsL_law wsL_cell := goodIn_r _ [342, 343, 344] rfl (by decide +kernel)
set_option maxRecDepth 20000 in
theorem gL_law_L_cell : GoodIn wsL_law (va_wsS RL 122 yL_cell wsL_cell) := goodIn_app (goodIn_of _ (by decide +kernel)) ggL_law_L_cell
set_option maxRecDepth 20000 in
theorem ggL_law_X6_jobs : GoodIn wsL_law wsX6_jobs := goodIn_r _ [186, 12, 423, 424, 425, 426, 427, 428, 429, 430, 431] rfl (by decide +kernel)
set_option maxRecDepth 20000 in
theorem gL_law_X6_jobs : GoodIn wsL_law (wsV RL 54 RX6 yX6_jobs wsX6_jobs) := goodIn_app (goodIn_of _ (by decide +kernel)) ggL_law_X6_jobs
set_option maxRecDepth 20000 in
theorem ggL_law_L_addJob : GoodIn wsL_law wsL_addJob := goodIn_ca (goodIn_ca (goodIn_r _ [347, 348, 349, 350, 351, 352, 2, 353, 354, 355, 356, 357, 12, 16, 358, 359, 360, 361, 362, 363, 364, 259, 78, 423, 424, 425, 426, 427, 428, 429, 430, 431, 432, 433, 434, 435, 436] rfl (by decide +kernel)) (goodIn_sub (fun _ h => List.mem_append_left _ (List.mem_append_right _ h)) (by decide +kernel))) (goodIn_sub (fun _ h => List.mem_append_right _ h) (by decide +kernel))
set_option maxRecDepth 20000 in
theorem gL_law_L_addJob : GoodIn wsL_law (va_wsS RL 126 yL_addJob wsL_addJob) := goodIn_app (goodIn_of _ (by decide +kernel)) ggL_law_L_addJob
set_option maxRecDepth 20000 in
theorem ggL_law_L_time : GoodIn wsL_law wsL_time := goodIn_ca (goodIn_r _ [213, 190, 214, 215, 216, 2, 217, 12, 195, 196, 197, 198, 199, 200, 201, 202, 203, 218, 110, 111, 11, 112, 113, 33, 423, 424, 425, 426, 427, 428, 429, 430, 431] rfl (by decide +kernel)) (goodIn_sub (fun _ h => List.mem_append_left _ (List.mem_append_left _ (List.mem_append_right _ h))) (by decide +kernel))
set_option maxRecDepth 20000 in
theorem gL_law_L_time : GoodIn wsL_law (va_wsS RL 65 yL_time wsL_time) := goodIn_app (goodIn_of _ (by decide +kernel)) ggL_law_L_time
set_option maxRecDepth 20000 in
theorem ggL_law_L_setTime : GoodIn wsL_law wsL_setTime := goodIn_ca (goodIn_ca (goodIn_ca (goodIn_r _ [367, 190, 348, 349, 368, 369, 370, 2, 371, 354, 355, 356, 357, 16, 12, 195, 196, 197, 198, 199, 200, 201, 202, 203, 358, 359, 360, 218, 110, 111, 11, 112, 113, 33, 361, 362, 363, 364, 259, 78, 423, 424, 425, 426, 427, 428, 429, 432, 433, 434, 435, 436, 430, 431] rfl (by decide +kernel)) (goodIn_sub (fun _ h => List.mem_append_left _ (List.mem_append_right _ h)) (by decide +kernel))) (goodIn_sub (fun _ h => List.mem_append_right _ h) (by decide +kernel))) (goodIn_sub (fun _ h => List.mem_append_left _ (List.mem_append_left _ (List.mem_append_right _ h))) (by decide +kernel))
set_option maxRecDepth 20000 in
theorem gL_law_L_setTime : GoodIn wsL_law (va_wsS RL 129 yL_setTime wsL_setTime) := goodIn_app (goodIn_of _ (by decide +kernel)) ggL_law_L_setTime
set_option maxRecDepth 20000 in
theorem ggL_law_L_machine : GoodIn wsL_law wsL_machine := goodIn_ca (goodIn_r _ [305, 190, 306, 307, 308, 2, 309, 16, 195, 196, 197, 198, 199, 200, 12, 423, 424, 425, 426, 427, 428, 429, 432, 433, 434, 435, 436, 430, 431] rfl (by decide +kernel)) (goodIn_sub (fun _ h => List.mem_append_left _ (List.mem_append_left _ (List.mem_append_right _ h))) (by decide +kernel))
set_option maxRecDepth 20000 in
theorem gL_law_L_machine : GoodIn wsL_law (va_wsS RL 100 yL_machine wsL_machine) := goodIn_app (goodIn_of _ (by decide +kernel)) ggL_law_L_machine
set_option maxRecDepth 20000 in
theorem ggL_law_X6_removeLast : GoodIn wsL_law wsX6_removeLast := goodIn_r _ [375, 12, 361, 362, 363, 2, 364, 259, 78, 423, 424, 425, 426, 427, 428, 429, 430, 431] rfl (by decide +kernel)
set_option maxRecDepth 20000 in
theorem gL_law_X6_removeLast : GoodIn wsL_law (wsV RL 131 RX6 yX6_removeLast wsX6_removeLast) := goodIn_app (goodIn_of _ (by decide +kernel)) ggL_law_X6_removeLast
set_option maxRecDepth 20000 in
theorem ggL_law_L_assign : GoodIn wsL_law wsL_assign := goodIn_ca (goodIn_ca (goodIn_r _ [378, 190, 349, 379, 380, 381, 2, 382, 356, 357, 12, 16, 195, 196, 197, 198, 199, 200, 201, 202, 203, 218, 110, 111, 11, 112, 113, 33, 423, 424, 425, 426, 427, 428, 429, 432, 433, 434, 435, 436, 430, 431] rfl (by decide +kernel)) (goodIn_sub (fun _ h => List.mem_append_right _ h) (by decide +kernel))) (goodIn_sub (fun _ h => List.mem_append_left _ (List.mem_append_left _ (List.mem_append_right _ h))) (by decide +kernel))
set_option maxRecDepth 20000 in
theorem gL_law_L_assign : GoodIn wsL_law (va_wsS RL 134 yL_assign wsL_assign) := goodIn_app (goodIn_of _ (by decide +kernel)) ggL_law_L_assign
set_option maxRecDepth 20000 in
theorem ggL_law_X6_length : GoodIn wsL_law wsX6_length := goodIn_r _ [335, 12, 16, 326, 327, 328, 11, 329, 330, 277, 101, 278, 331, 318, 319, 320, 113, 321, 110, 111, 112, 33, 423, 424, 425, 426, 427, 428, 429, 432, 433, 434, 435, 436, 430, 431] rfl (by decide +kernel)
set_option maxRecDepth 20000 in
theorem gL_law_X6_length : GoodIn wsL_law (wsV RL 107 RX6 yX6_length wsX6_length) := goodIn_app (goodIn_of _ (by decide +kernel)) ggL_law_X6_length
set_option maxRecDepth 20000 in
theorem ggL_law_X6_improve : GoodIn wsL_law wsX6_improve := goodIn_r _ [386, 16, 12, 387, 388, 389, 15, 390, 391, 392, 393, 394, 37, 395, 396, 397, 398, 399, 277, 101, 278, 400, 100, 102, 401, 318, 319, 11, 320, 113, 321, 110, 111, 112, 33, 402, 403, 404, 405, 406, 407, 408, 409, 410, 411, 412, 413, 414, 415, 416, 417, 418, 326, 327, 328, 329, 330, 331, 423, 424, 425, 426, 427, 428, 429, 432, 433, 434, 435, 436, 430, 431] rfl (by decide +kernel)
set_option maxRecDepth 20000 in
theorem gL_law_X6_improve : GoodIn wsL_law (wsV RL 136 RX6 yX6_improve wsX6_improve) := goodIn_app (goodIn_of _ (by decide +kernel)) ggL_law_X6_improve
set_option maxRecDepth 20000 in
theorem ggL_law_L_roundedOn : GoodIn wsL_law wsL_roundedOn := goodIn_ca (goodIn_r _ [224, 190, 225, 226, 227, 2, 228, 28, 195, 196, 197, 198, 199, 200, 12, 74, 75, 76, 77, 78, 24, 79, 80, 81, 23, 82, 83, 84, 85, 86, 87, 50, 88, 89, 90, 91, 92, 49, 93, 58, 94, 59, 61, 95, 96, 97, 98, 99, 100, 101, 102, 103, 104, 105, 106, 107, 108, 109, 110, 111, 11, 112, 113, 33, 114, 115, 116, 117, 118, 119, 120, 121, 122, 123, 124, 125, 126, 127, 128, 129, 130, 131, 132, 133, 134, 135, 136, 137, 138, 139, 140, 141, 142, 143, 144, 145, 146, 147, 148, 149, 150, 151, 152, 153, 154, 155, 156, 157, 158, 51, 52, 159, 160, 161, 162, 163, 164, 165, 166, 167, 168, 169, 27, 170, 171, 172, 173, 65, 174, 175, 176, 177, 178, 179, 180, 181, 182, 423, 424, 425, 426, 427, 428, 429, 447, 430, 431, 441, 442, 443, 444, 445, 446, 448, 449, 450, 451, 452] rfl (by decide +kernel)) (goodIn_sub (fun _ h => List.mem_append_left _ (List.mem_append_left _ (List.mem_append_right _ h))) (by decide +kernel))
set_option maxRecDepth 20000 in
theorem gL_law_L_roundedOn : GoodIn wsL_law (va_wsS RL 74 yL_roundedOn wsL_roundedOn) := goodIn_app (goodIn_of _ (by decide +kernel)) ggL_law_L_roundedOn
set_option maxRecDepth 20000 in
theorem ggL_law_X6_takeRounded : GoodIn wsL_law wsX6_takeRounded := goodIn_r _ [422, 12, 16, 28, 74, 75, 76, 2, 77, 78, 24, 79, 80, 81, 23, 82, 83, 84, 85, 86, 87, 50, 88, 89, 90, 91, 92, 49, 93, 58, 94, 59, 61, 95, 96, 97, 98, 99, 100, 101, 102, 103, 104, 105, 106, 107, 108, 109, 110, 111, 11, 112, 113, 33, 114, 115, 116, 117, 118, 119, 120, 121, 122, 123, 124, 125, 126, 127, 128, 129, 130, 131, 132, 133, 134, 135, 136, 137, 138, 139, 140, 141, 142, 143, 144, 145, 146, 147, 148, 149, 150, 151, 152, 153, 154, 155, 156, 157, 158, 51, 52, 159, 160, 161, 162, 163, 164, 165, 166, 167, 168, 169, 27, 170, 171, 172, 173, 65, 174, 175, 176, 177, 178, 179, 180, 181, 182, 423, 424, 425, 426, 427, 428, 429, 430, 431, 432, 433, 434, 435, 436, 447, 441, 442, 443, 444, 445, 446, 448, 449, 450, 451, 452] rfl (by decide +kernel)
set_option maxRecDepth 20000 in
theorem gL_law_X6_takeRounded : GoodIn wsL_law (wsV RL 139 RX6 yX6_takeRounded wsX6_takeRounded) := goodIn_app (goodIn_of _ (by decide +kernel)) ggL_law_X6_takeRounded
set_option maxRecDepth 20000 in
theorem ggL_law_X6_roundedLength : GoodIn wsL_law wsX6_roundedLength := goodIn_r _ [325, 12, 28, 74, 75, 76, 2, 77, 78, 24, 79, 80, 81, 23, 82, 83, 84, 85, 86, 87, 50, 88, 89, 90, 91, 92, 49, 93, 58, 94, 59, 61, 95, 96, 97, 98, 99, 100, 101, 102, 103, 104, 105, 106, 107, 108, 109, 110, 111, 11, 112, 113, 33, 114, 115, 116, 117, 118, 119, 120, 121, 122, 123, 124, 125, 126, 127, 128, 129, 130, 131, 132, 133, 134, 135, 136, 137, 138, 139, 140, 141, 142, 143, 144, 145, 146, 147, 148, 149, 150, 151, 152, 153, 154, 155, 156, 157, 158, 51, 52, 159, 160, 161, 162, 163, 164, 165, 166, 167, 168, 169, 27, 170, 171, 172, 173, 65, 174, 175, 176, 177, 178, 179, 180, 181, 182, 326, 327, 328, 329, 330, 277, 278, 331, 318, 319, 320, 321, 423, 424, 425, 426, 427, 428, 429, 447, 441, 442, 443, 444, 445, 446, 448, 449, 450, 451, 452, 430, 431] rfl (by decide +kernel)
set_option maxRecDepth 20000 in
theorem gL_law_X6_roundedLength : GoodIn wsL_law (wsV RL 104 RX6 yX6_roundedLength wsX6_roundedLength) := goodIn_app (goodIn_of _ (by decide +kernel)) ggL_law_X6_roundedLength
theorem dL_law_0 : decode cL_law 0 = .ok (.new 10, 3) := by decide +kernel
theorem dL_law_3 : decode cL_law 3 = .ok (.dup, 1) := by decide +kernel
theorem dL_law_4 : decode cL_law 4 = .ok (.invokespecial 114, 3) := by decide +kernel
theorem dL_law_7 : decode cL_law 7 = .ok (.astore_n 1, 1) := by decide +kernel
theorem dL_law_8 : decode cL_law 8 = .ok (.aload_n 1, 1) := by decide +kernel
theorem dL_law_9 : decode cL_law 9 = .ok (.invokestatic 115, 3) := by decide +kernel
theorem dL_law_12 : decode cL_law 12 = .ok (.ifCond .eq 14, 3) := by decide +kernel
theorem dL_law_15 : decode cL_law 15 = .ok (.aload_n 1, 1) := by decide +kernel
theorem dL_law_16 : decode cL_law 16 = .ok (.invokestatic 119, 3) := by decide +kernel
theorem dL_law_19 : decode cL_law 19 = .ok (.ifCond .eq 7, 3) := by decide +kernel
theorem dL_law_22 : decode cL_law 22 = .ok (.iconst 1, 1) := by decide +kernel
theorem dL_law_23 : decode cL_law 23 = .ok (.goto 4, 3) := by decide +kernel
theorem dL_law_26 : decode cL_law 26 = .ok (.iconst 0, 1) := by decide +kernel
theorem dL_law_27 : decode cL_law 27 = .ok (.istore_n 2, 1) := by decide +kernel
theorem dL_law_28 : decode cL_law 28 = .ok (.iconst 0, 1) := by decide +kernel
theorem dL_law_29 : decode cL_law 29 = .ok (.istore_n 3, 1) := by decide +kernel
theorem dL_law_30 : decode cL_law 30 = .ok (.iload_n 3, 1) := by decide +kernel
theorem dL_law_31 : decode cL_law 31 = .ok (.bipush 16, 2) := by decide +kernel
theorem dL_law_33 : decode cL_law 33 = .ok (.if_icmp .ge 563, 3) := by decide +kernel
theorem dL_law_36 : decode cL_law 36 = .ok (.iload_n 2, 1) := by decide +kernel
theorem dL_law_37 : decode cL_law 37 = .ok (.ifCond .eq 559, 3) := by decide +kernel
theorem dL_law_40 : decode cL_law 40 = .ok (.aload_n 0, 1) := by decide +kernel
theorem dL_law_41 : decode cL_law 41 = .ok (.iload_n 3, 1) := by decide +kernel
theorem dL_law_42 : decode cL_law 42 = .ok (.invokestatic 122, 3) := by decide +kernel
theorem dL_law_45 : decode cL_law 45 = .ok (.istore 4, 2) := by decide +kernel
theorem dL_law_47 : decode cL_law 47 = .ok (.iload 4, 2) := by decide +kernel
theorem dL_law_49 : decode cL_law 49 = .ok (.bipush 8, 2) := by decide +kernel
theorem dL_law_51 : decode cL_law 51 = .ok (.idiv, 1) := by decide +kernel
theorem dL_law_52 : decode cL_law 52 = .ok (.istore 5, 2) := by decide +kernel
theorem dL_law_54 : decode cL_law 54 = .ok (.aload_n 1, 1) := by decide +kernel
theorem dL_law_55 : decode cL_law 55 = .ok (.invokevirtual 54, 3) := by decide +kernel
theorem dL_law_58 : decode cL_law 58 = .ok (.istore 6, 2) := by decide +kernel
theorem dL_law_60 : decode cL_law 60 = .ok (.iload 6, 2) := by decide +kernel
theorem dL_law_62 : decode cL_law 62 = .ok (.ifCond .ne 7, 3) := by decide +kernel
theorem dL_law_65 : decode cL_law 65 = .ok (.iconst 0, 1) := by decide +kernel
theorem dL_law_66 : decode cL_law 66 = .ok (.goto 8, 3) := by decide +kernel
theorem dL_law_69 : decode cL_law 69 = .ok (.iload 5, 2) := by decide +kernel
theorem dL_law_71 : decode cL_law 71 = .ok (.iload 6, 2) := by decide +kernel
theorem dL_law_73 : decode cL_law 73 = .ok (.irem, 1) := by decide +kernel
theorem dL_law_74 : decode cL_law 74 = .ok (.istore 7, 2) := by decide +kernel
theorem dL_law_76 : decode cL_law 76 = .ok (.iload 4, 2) := by decide +kernel
theorem dL_law_78 : decode cL_law 78 = .ok (.bipush 8, 2) := by decide +kernel
theorem dL_law_80 : decode cL_law 80 = .ok (.irem, 1) := by decide +kernel
theorem dL_law_81 : decode cL_law 81 = .ok (.iconst 4, 1) := by decide +kernel
theorem dL_law_82 : decode cL_law 82 = .ok (.if_icmp .ge 143, 3) := by decide +kernel
theorem dL_law_85 : decode cL_law 85 = .ok (.iload 5, 2) := by decide +kernel
theorem dL_law_87 : decode cL_law 87 = .ok (.iconst 4, 1) := by decide +kernel
theorem dL_law_88 : decode cL_law 88 = .ok (.irem, 1) := by decide +kernel
theorem dL_law_89 : decode cL_law 89 = .ok (.ifCond .ne 7, 3) := by decide +kernel
theorem dL_law_92 : decode cL_law 92 = .ok (.iconst 0, 1) := by decide +kernel
theorem dL_law_93 : decode cL_law 93 = .ok (.goto 24, 3) := by decide +kernel
theorem dL_law_96 : decode cL_law 96 = .ok (.iconst 1, 1) := by decide +kernel
theorem dL_law_97 : decode cL_law 97 = .ok (.iload 5, 2) := by decide +kernel
theorem dL_law_99 : decode cL_law 99 = .ok (.iconst 4, 1) := by decide +kernel
theorem dL_law_100 : decode cL_law 100 = .ok (.idiv, 1) := by decide +kernel
theorem dL_law_101 : decode cL_law 101 = .ok (.iload 5, 2) := by decide +kernel
theorem dL_law_103 : decode cL_law 103 = .ok (.iconst 3, 1) := by decide +kernel
theorem dL_law_104 : decode cL_law 104 = .ok (.irem, 1) := by decide +kernel
theorem dL_law_105 : decode cL_law 105 = .ok (.ifCond .ne 8, 3) := by decide +kernel
theorem dL_law_108 : decode cL_law 108 = .ok (.bipush 50, 2) := by decide +kernel
theorem dL_law_110 : decode cL_law 110 = .ok (.goto 5, 3) := by decide +kernel
theorem dL_law_113 : decode cL_law 113 = .ok (.bipush 9, 2) := by decide +kernel
theorem dL_law_115 : decode cL_law 115 = .ok (.irem, 1) := by decide +kernel
theorem dL_law_116 : decode cL_law 116 = .ok (.iadd, 1) := by decide +kernel
theorem dL_law_117 : decode cL_law 117 = .ok (.istore 8, 2) := by decide +kernel
theorem dL_law_119 : decode cL_law 119 = .ok (.iload 5, 2) := by decide +kernel
theorem dL_law_121 : decode cL_law 121 = .ok (.bipush 16, 2) := by decide +kernel
theorem dL_law_123 : decode cL_law 123 = .ok (.idiv, 1) := by decide +kernel
theorem dL_law_124 : decode cL_law 124 = .ok (.iconst 4, 1) := by decide +kernel
theorem dL_law_125 : decode cL_law 125 = .ok (.irem, 1) := by decide +kernel
theorem dL_law_126 : decode cL_law 126 = .ok (.ifCond .ne 7, 3) := by decide +kernel
theorem dL_law_129 : decode cL_law 129 = .ok (.iconst 0, 1) := by decide +kernel
theorem dL_law_130 : decode cL_law 130 = .ok (.goto 13, 3) := by decide +kernel
theorem dL_law_133 : decode cL_law 133 = .ok (.iconst 1, 1) := by decide +kernel
theorem dL_law_134 : decode cL_law 134 = .ok (.iload 5, 2) := by decide +kernel
theorem dL_law_136 : decode cL_law 136 = .ok (.bipush 64, 2) := by decide +kernel
theorem dL_law_138 : decode cL_law 138 = .ok (.idiv, 1) := by decide +kernel
theorem dL_law_139 : decode cL_law 139 = .ok (.bipush 9, 2) := by decide +kernel
theorem dL_law_141 : decode cL_law 141 = .ok (.irem, 1) := by decide +kernel
theorem dL_law_142 : decode cL_law 142 = .ok (.iadd, 1) := by decide +kernel
theorem dL_law_143 : decode cL_law 143 = .ok (.istore 9, 2) := by decide +kernel
theorem dL_law_145 : decode cL_law 145 = .ok (.iload 5, 2) := by decide +kernel
theorem dL_law_147 : decode cL_law 147 = .ok (.sipush 640, 3) := by decide +kernel
theorem dL_law_150 : decode cL_law 150 = .ok (.idiv, 1) := by decide +kernel
theorem dL_law_151 : decode cL_law 151 = .ok (.iconst 3, 1) := by decide +kernel
theorem dL_law_152 : decode cL_law 152 = .ok (.irem, 1) := by decide +kernel
theorem dL_law_153 : decode cL_law 153 = .ok (.ifCond .ne 7, 3) := by decide +kernel
theorem dL_law_156 : decode cL_law 156 = .ok (.iconst 0, 1) := by decide +kernel
theorem dL_law_157 : decode cL_law 157 = .ok (.goto 14, 3) := by decide +kernel
theorem dL_law_160 : decode cL_law 160 = .ok (.iconst 1, 1) := by decide +kernel
theorem dL_law_161 : decode cL_law 161 = .ok (.iload 5, 2) := by decide +kernel
theorem dL_law_163 : decode cL_law 163 = .ok (.sipush 1920, 3) := by decide +kernel
theorem dL_law_166 : decode cL_law 166 = .ok (.idiv, 1) := by decide +kernel
theorem dL_law_167 : decode cL_law 167 = .ok (.bipush 12, 2) := by decide +kernel
theorem dL_law_169 : decode cL_law 169 = .ok (.irem, 1) := by decide +kernel
theorem dL_law_170 : decode cL_law 170 = .ok (.iadd, 1) := by decide +kernel
theorem dL_law_171 : decode cL_law 171 = .ok (.istore 10, 2) := by decide +kernel
theorem dL_law_173 : decode cL_law 173 = .ok (.aload_n 1, 1) := by decide +kernel
theorem dL_law_174 : decode cL_law 174 = .ok (.iload 8, 2) := by decide +kernel
theorem dL_law_176 : decode cL_law 176 = .ok (.iload 9, 2) := by decide +kernel
theorem dL_law_178 : decode cL_law 178 = .ok (.iload 10, 2) := by decide +kernel
theorem dL_law_180 : decode cL_law 180 = .ok (.invokestatic 126, 3) := by decide +kernel
theorem dL_law_183 : decode cL_law 183 = .ok (.iload 8, 2) := by decide +kernel
theorem dL_law_185 : decode cL_law 185 = .ok (.iload 9, 2) := by decide +kernel
theorem dL_law_187 : decode cL_law 187 = .ok (.iadd, 1) := by decide +kernel
theorem dL_law_188 : decode cL_law 188 = .ok (.iload 10, 2) := by decide +kernel
theorem dL_law_190 : decode cL_law 190 = .ok (.iadd, 1) := by decide +kernel
theorem dL_law_191 : decode cL_law 191 = .ok (.ifCond .ne 8, 3) := by decide +kernel
theorem dL_law_194 : decode cL_law 194 = .ok (.bipush (-102), 2) := by decide +kernel
theorem dL_law_196 : decode cL_law 196 = .ok (.goto 17, 3) := by decide +kernel
theorem dL_law_199 : decode cL_law 199 = .ok (.iload 6, 2) := by decide +kernel
theorem dL_law_201 : decode cL_law 201 = .ok (.bipush 7, 2) := by decide +kernel
theorem dL_law_203 : decode cL_law 203 = .ok (.if_icmp .ge 8, 3) := by decide +kernel
theorem dL_law_206 : decode cL_law 206 = .ok (.iload 6, 2) := by decide +kernel
theorem dL_law_208 : decode cL_law 208 = .ok (.goto 5, 3) := by decide +kernel
theorem dL_law_211 : decode cL_law 211 = .ok (.bipush (-103), 2) := by decide +kernel
theorem dL_law_213 : decode cL_law 213 = .ok (.if_icmp .ne 7, 3) := by decide +kernel
theorem dL_law_216 : decode cL_law 216 = .ok (.iconst 1, 1) := by decide +kernel
theorem dL_law_217 : decode cL_law 217 = .ok (.goto 4, 3) := by decide +kernel
theorem dL_law_220 : decode cL_law 220 = .ok (.iconst 0, 1) := by decide +kernel
theorem dL_law_221 : decode cL_law 221 = .ok (.istore_n 2, 1) := by decide +kernel
theorem dL_law_222 : decode cL_law 222 = .ok (.goto 344, 3) := by decide +kernel
theorem dL_law_225 : decode cL_law 225 = .ok (.iload 4, 2) := by decide +kernel
theorem dL_law_227 : decode cL_law 227 = .ok (.bipush 8, 2) := by decide +kernel
theorem dL_law_229 : decode cL_law 229 = .ok (.irem, 1) := by decide +kernel
theorem dL_law_230 : decode cL_law 230 = .ok (.iconst 4, 1) := by decide +kernel
theorem dL_law_231 : decode cL_law 231 = .ok (.if_icmp .ne 82, 3) := by decide +kernel
theorem dL_law_234 : decode cL_law 234 = .ok (.iload 6, 2) := by decide +kernel
theorem dL_law_236 : decode cL_law 236 = .ok (.ifCond .le 77, 3) := by decide +kernel
theorem dL_law_239 : decode cL_law 239 = .ok (.iload 5, 2) := by decide +kernel
theorem dL_law_241 : decode cL_law 241 = .ok (.bipush 7, 2) := by decide +kernel
theorem dL_law_243 : decode cL_law 243 = .ok (.idiv, 1) := by decide +kernel
theorem dL_law_244 : decode cL_law 244 = .ok (.iconst 3, 1) := by decide +kernel
theorem dL_law_245 : decode cL_law 245 = .ok (.irem, 1) := by decide +kernel
theorem dL_law_246 : decode cL_law 246 = .ok (.istore 8, 2) := by decide +kernel
theorem dL_law_248 : decode cL_law 248 = .ok (.aload_n 1, 1) := by decide +kernel
theorem dL_law_249 : decode cL_law 249 = .ok (.iload 7, 2) := by decide +kernel
theorem dL_law_251 : decode cL_law 251 = .ok (.iload 8, 2) := by decide +kernel
theorem dL_law_253 : decode cL_law 253 = .ok (.invokestatic 65, 3) := by decide +kernel
theorem dL_law_256 : decode cL_law 256 = .ok (.istore 9, 2) := by decide +kernel
theorem dL_law_258 : decode cL_law 258 = .ok (.iload 5, 2) := by decide +kernel
theorem dL_law_260 : decode cL_law 260 = .ok (.bipush 21, 2) := by decide +kernel
theorem dL_law_262 : decode cL_law 262 = .ok (.idiv, 1) := by decide +kernel
theorem dL_law_263 : decode cL_law 263 = .ok (.bipush 12, 2) := by decide +kernel
theorem dL_law_265 : decode cL_law 265 = .ok (.irem, 1) := by decide +kernel
theorem dL_law_266 : decode cL_law 266 = .ok (.istore 10, 2) := by decide +kernel
theorem dL_law_268 : decode cL_law 268 = .ok (.aload_n 1, 1) := by decide +kernel
theorem dL_law_269 : decode cL_law 269 = .ok (.iload 7, 2) := by decide +kernel
theorem dL_law_271 : decode cL_law 271 = .ok (.iload 8, 2) := by decide +kernel
theorem dL_law_273 : decode cL_law 273 = .ok (.iload 10, 2) := by decide +kernel
theorem dL_law_275 : decode cL_law 275 = .ok (.invokestatic 129, 3) := by decide +kernel
theorem dL_law_278 : decode cL_law 278 = .ok (.iload 10, 2) := by decide +kernel
theorem dL_law_280 : decode cL_law 280 = .ok (.ifCond .ne 19, 3) := by decide +kernel
theorem dL_law_283 : decode cL_law 283 = .ok (.aload_n 1, 1) := by decide +kernel
theorem dL_law_284 : decode cL_law 284 = .ok (.iload 7, 2) := by decide +kernel
theorem dL_law_286 : decode cL_law 286 = .ok (.invokestatic 100, 3) := by decide +kernel
theorem dL_law_289 : decode cL_law 289 = .ok (.iload 8, 2) := by decide +kernel
theorem dL_law_291 : decode cL_law 291 = .ok (.if_icmp .ne 8, 3) := by decide +kernel
theorem dL_law_294 : decode cL_law 294 = .ok (.bipush (-103), 2) := by decide +kernel
theorem dL_law_296 : decode cL_law 296 = .ok (.goto 5, 3) := by decide +kernel
theorem dL_law_299 : decode cL_law 299 = .ok (.iload 9, 2) := by decide +kernel
theorem dL_law_301 : decode cL_law 301 = .ok (.if_icmp .ne 7, 3) := by decide +kernel
theorem dL_law_304 : decode cL_law 304 = .ok (.iconst 1, 1) := by decide +kernel
theorem dL_law_305 : decode cL_law 305 = .ok (.goto 4, 3) := by decide +kernel
theorem dL_law_308 : decode cL_law 308 = .ok (.iconst 0, 1) := by decide +kernel
theorem dL_law_309 : decode cL_law 309 = .ok (.istore_n 2, 1) := by decide +kernel
theorem dL_law_310 : decode cL_law 310 = .ok (.goto 256, 3) := by decide +kernel
theorem dL_law_313 : decode cL_law 313 = .ok (.iload 4, 2) := by decide +kernel
theorem dL_law_315 : decode cL_law 315 = .ok (.bipush 8, 2) := by decide +kernel
theorem dL_law_317 : decode cL_law 317 = .ok (.irem, 1) := by decide +kernel
theorem dL_law_318 : decode cL_law 318 = .ok (.iconst 5, 1) := by decide +kernel
theorem dL_law_319 : decode cL_law 319 = .ok (.if_icmp .ne 32, 3) := by decide +kernel
theorem dL_law_322 : decode cL_law 322 = .ok (.aload_n 1, 1) := by decide +kernel
theorem dL_law_323 : decode cL_law 323 = .ok (.invokevirtual 131, 3) := by decide +kernel
theorem dL_law_326 : decode cL_law 326 = .ok (.iload 6, 2) := by decide +kernel
theorem dL_law_328 : decode cL_law 328 = .ok (.ifCond .ne 7, 3) := by decide +kernel
theorem dL_law_331 : decode cL_law 331 = .ok (.iconst (-1), 1) := by decide +kernel
theorem dL_law_332 : decode cL_law 332 = .ok (.goto 7, 3) := by decide +kernel
theorem dL_law_335 : decode cL_law 335 = .ok (.iload 6, 2) := by decide +kernel
theorem dL_law_337 : decode cL_law 337 = .ok (.iconst 1, 1) := by decide +kernel
theorem dL_law_338 : decode cL_law 338 = .ok (.isub, 1) := by decide +kernel
theorem dL_law_339 : decode cL_law 339 = .ok (.if_icmp .ne 7, 3) := by decide +kernel
theorem dL_law_342 : decode cL_law 342 = .ok (.iconst 1, 1) := by decide +kernel
theorem dL_law_343 : decode cL_law 343 = .ok (.goto 4, 3) := by decide +kernel
theorem dL_law_346 : decode cL_law 346 = .ok (.iconst 0, 1) := by decide +kernel
theorem dL_law_347 : decode cL_law 347 = .ok (.istore_n 2, 1) := by decide +kernel
theorem dL_law_348 : decode cL_law 348 = .ok (.goto 218, 3) := by decide +kernel
theorem dL_law_351 : decode cL_law 351 = .ok (.iload 4, 2) := by decide +kernel
theorem dL_law_353 : decode cL_law 353 = .ok (.bipush 8, 2) := by decide +kernel
theorem dL_law_355 : decode cL_law 355 = .ok (.irem, 1) := by decide +kernel
theorem dL_law_356 : decode cL_law 356 = .ok (.bipush 6, 2) := by decide +kernel
theorem dL_law_358 : decode cL_law 358 = .ok (.if_icmp .ne 63, 3) := by decide +kernel
theorem dL_law_361 : decode cL_law 361 = .ok (.iload 6, 2) := by decide +kernel
theorem dL_law_363 : decode cL_law 363 = .ok (.ifCond .le 58, 3) := by decide +kernel
theorem dL_law_366 : decode cL_law 366 = .ok (.iload 5, 2) := by decide +kernel
theorem dL_law_368 : decode cL_law 368 = .ok (.bipush 7, 2) := by decide +kernel
theorem dL_law_370 : decode cL_law 370 = .ok (.idiv, 1) := by decide +kernel
theorem dL_law_371 : decode cL_law 371 = .ok (.iconst 3, 1) := by decide +kernel
theorem dL_law_372 : decode cL_law 372 = .ok (.irem, 1) := by decide +kernel
theorem dL_law_373 : decode cL_law 373 = .ok (.istore 8, 2) := by decide +kernel
theorem dL_law_375 : decode cL_law 375 = .ok (.aload_n 1, 1) := by decide +kernel
theorem dL_law_376 : decode cL_law 376 = .ok (.iload 7, 2) := by decide +kernel
theorem dL_law_378 : decode cL_law 378 = .ok (.invokestatic 100, 3) := by decide +kernel
theorem dL_law_381 : decode cL_law 381 = .ok (.istore 9, 2) := by decide +kernel
theorem dL_law_383 : decode cL_law 383 = .ok (.aload_n 1, 1) := by decide +kernel
theorem dL_law_384 : decode cL_law 384 = .ok (.iload 7, 2) := by decide +kernel
theorem dL_law_386 : decode cL_law 386 = .ok (.iload 8, 2) := by decide +kernel
theorem dL_law_388 : decode cL_law 388 = .ok (.invokestatic 134, 3) := by decide +kernel
theorem dL_law_391 : decode cL_law 391 = .ok (.aload_n 1, 1) := by decide +kernel
theorem dL_law_392 : decode cL_law 392 = .ok (.iload 7, 2) := by decide +kernel
theorem dL_law_394 : decode cL_law 394 = .ok (.iload 8, 2) := by decide +kernel
theorem dL_law_396 : decode cL_law 396 = .ok (.invokestatic 65, 3) := by decide +kernel
theorem dL_law_399 : decode cL_law 399 = .ok (.ifCond .le 8, 3) := by decide +kernel
theorem dL_law_402 : decode cL_law 402 = .ok (.iload 9, 2) := by decide +kernel
theorem dL_law_404 : decode cL_law 404 = .ok (.goto 5, 3) := by decide +kernel
theorem dL_law_407 : decode cL_law 407 = .ok (.bipush (-103), 2) := by decide +kernel
theorem dL_law_409 : decode cL_law 409 = .ok (.if_icmp .ne 7, 3) := by decide +kernel
theorem dL_law_412 : decode cL_law 412 = .ok (.iconst 1, 1) := by decide +kernel
theorem dL_law_413 : decode cL_law 413 = .ok (.goto 4, 3) := by decide +kernel
theorem dL_law_416 : decode cL_law 416 = .ok (.iconst 0, 1) := by decide +kernel
theorem dL_law_417 : decode cL_law 417 = .ok (.istore_n 2, 1) := by decide +kernel
theorem dL_law_418 : decode cL_law 418 = .ok (.goto 148, 3) := by decide +kernel
theorem dL_law_421 : decode cL_law 421 = .ok (.aload_n 1, 1) := by decide +kernel
theorem dL_law_422 : decode cL_law 422 = .ok (.invokevirtual 107, 3) := by decide +kernel
theorem dL_law_425 : decode cL_law 425 = .ok (.istore 8, 2) := by decide +kernel
theorem dL_law_427 : decode cL_law 427 = .ok (.aload_n 1, 1) := by decide +kernel
theorem dL_law_428 : decode cL_law 428 = .ok (.invokevirtual 136, 3) := by decide +kernel
theorem dL_law_431 : decode cL_law 431 = .ok (.istore 9, 2) := by decide +kernel
theorem dL_law_433 : decode cL_law 433 = .ok (.iload 9, 2) := by decide +kernel
theorem dL_law_435 : decode cL_law 435 = .ok (.iconst (-1), 1) := by decide +kernel
theorem dL_law_436 : decode cL_law 436 = .ok (.if_icmp .ne 20, 3) := by decide +kernel
theorem dL_law_439 : decode cL_law 439 = .ok (.aload_n 1, 1) := by decide +kernel
theorem dL_law_440 : decode cL_law 440 = .ok (.invokevirtual 107, 3) := by decide +kernel
theorem dL_law_443 : decode cL_law 443 = .ok (.iload 8, 2) := by decide +kernel
theorem dL_law_445 : decode cL_law 445 = .ok (.if_icmp .ne 7, 3) := by decide +kernel
theorem dL_law_448 : decode cL_law 448 = .ok (.iconst 1, 1) := by decide +kernel
theorem dL_law_449 : decode cL_law 449 = .ok (.goto 28, 3) := by decide +kernel
theorem dL_law_452 : decode cL_law 452 = .ok (.iconst 0, 1) := by decide +kernel
theorem dL_law_453 : decode cL_law 453 = .ok (.goto 24, 3) := by decide +kernel
theorem dL_law_456 : decode cL_law 456 = .ok (.iload 9, 2) := by decide +kernel
theorem dL_law_458 : decode cL_law 458 = .ok (.iload 8, 2) := by decide +kernel
theorem dL_law_460 : decode cL_law 460 = .ok (.if_icmp .gt 16, 3) := by decide +kernel
theorem dL_law_463 : decode cL_law 463 = .ok (.aload_n 1, 1) := by decide +kernel
theorem dL_law_464 : decode cL_law 464 = .ok (.invokevirtual 107, 3) := by decide +kernel
theorem dL_law_467 : decode cL_law 467 = .ok (.iload 9, 2) := by decide +kernel
theorem dL_law_469 : decode cL_law 469 = .ok (.if_icmp .ne 7, 3) := by decide +kernel
theorem dL_law_472 : decode cL_law 472 = .ok (.iconst 1, 1) := by decide +kernel
theorem dL_law_473 : decode cL_law 473 = .ok (.goto 4, 3) := by decide +kernel
theorem dL_law_476 : decode cL_law 476 = .ok (.iconst 0, 1) := by decide +kernel
theorem dL_law_477 : decode cL_law 477 = .ok (.istore_n 2, 1) := by decide +kernel
theorem dL_law_478 : decode cL_law 478 = .ok (.iconst 0, 1) := by decide +kernel
theorem dL_law_479 : decode cL_law 479 = .ok (.istore 10, 2) := by decide +kernel
theorem dL_law_481 : decode cL_law 481 = .ok (.iconst 0, 1) := by decide +kernel
theorem dL_law_482 : decode cL_law 482 = .ok (.istore 11, 2) := by decide +kernel
theorem dL_law_484 : decode cL_law 484 = .ok (.iload 11, 2) := by decide +kernel
theorem dL_law_486 : decode cL_law 486 = .ok (.iload 6, 2) := by decide +kernel
theorem dL_law_488 : decode cL_law 488 = .ok (.if_icmp .ge 41, 3) := by decide +kernel
theorem dL_law_491 : decode cL_law 491 = .ok (.iload 5, 2) := by decide +kernel
theorem dL_law_493 : decode cL_law 493 = .ok (.iconst 4, 1) := by decide +kernel
theorem dL_law_494 : decode cL_law 494 = .ok (.irem, 1) := by decide +kernel
theorem dL_law_495 : decode cL_law 495 = .ok (.ifCond .ne 34, 3) := by decide +kernel
theorem dL_law_498 : decode cL_law 498 = .ok (.iload 10, 2) := by decide +kernel
theorem dL_law_500 : decode cL_law 500 = .ok (.aload_n 1, 1) := by decide +kernel
theorem dL_law_501 : decode cL_law 501 = .ok (.iload 11, 2) := by decide +kernel
theorem dL_law_503 : decode cL_law 503 = .ok (.invokestatic 100, 3) := by decide +kernel
theorem dL_law_506 : decode cL_law 506 = .ok (.aload_n 1, 1) := by decide +kernel
theorem dL_law_507 : decode cL_law 507 = .ok (.iload 11, 2) := by decide +kernel
theorem dL_law_509 : decode cL_law 509 = .ok (.invokestatic 74, 3) := by decide +kernel
theorem dL_law_512 : decode cL_law 512 = .ok (.if_icmp .eq 7, 3) := by decide +kernel
theorem dL_law_515 : decode cL_law 515 = .ok (.iconst 1, 1) := by decide +kernel
theorem dL_law_516 : decode cL_law 516 = .ok (.goto 4, 3) := by decide +kernel
theorem dL_law_519 : decode cL_law 519 = .ok (.iconst 0, 1) := by decide +kernel
theorem dL_law_520 : decode cL_law 520 = .ok (.iadd, 1) := by decide +kernel
theorem dL_law_521 : decode cL_law 521 = .ok (.istore 10, 2) := by decide +kernel
theorem dL_law_523 : decode cL_law 523 = .ok (.iinc 11 1, 3) := by decide +kernel
theorem dL_law_526 : decode cL_law 526 = .ok (.goto (-42), 3) := by decide +kernel
theorem dL_law_529 : decode cL_law 529 = .ok (.iload_n 2, 1) := by decide +kernel
theorem dL_law_530 : decode cL_law 530 = .ok (.ifCond .eq 34, 3) := by decide +kernel
theorem dL_law_533 : decode cL_law 533 = .ok (.iload 5, 2) := by decide +kernel
theorem dL_law_535 : decode cL_law 535 = .ok (.iconst 4, 1) := by decide +kernel
theorem dL_law_536 : decode cL_law 536 = .ok (.irem, 1) := by decide +kernel
theorem dL_law_537 : decode cL_law 537 = .ok (.ifCond .gt 23, 3) := by decide +kernel
theorem dL_law_540 : decode cL_law 540 = .ok (.aload_n 1, 1) := by decide +kernel
theorem dL_law_541 : decode cL_law 541 = .ok (.invokevirtual 139, 3) := by decide +kernel
theorem dL_law_544 : decode cL_law 544 = .ok (.iload 10, 2) := by decide +kernel
theorem dL_law_546 : decode cL_law 546 = .ok (.if_icmp .ne 18, 3) := by decide +kernel
theorem dL_law_549 : decode cL_law 549 = .ok (.aload_n 1, 1) := by decide +kernel
theorem dL_law_550 : decode cL_law 550 = .ok (.invokevirtual 107, 3) := by decide +kernel
theorem dL_law_553 : decode cL_law 553 = .ok (.aload_n 1, 1) := by decide +kernel
theorem dL_law_554 : decode cL_law 554 = .ok (.invokevirtual 104, 3) := by decide +kernel
theorem dL_law_557 : decode cL_law 557 = .ok (.if_icmp .ne 7, 3) := by decide +kernel
theorem dL_law_560 : decode cL_law 560 = .ok (.iconst 1, 1) := by decide +kernel
theorem dL_law_561 : decode cL_law 561 = .ok (.goto 4, 3) := by decide +kernel
theorem dL_law_564 : decode cL_law 564 = .ok (.iconst 0, 1) := by decide +kernel
theorem dL_law_565 : decode cL_law 565 = .ok (.istore_n 2, 1) := by decide +kernel
theorem dL_law_566 : decode cL_law 566 = .ok (.iload_n 2, 1) := by decide +kernel
theorem dL_law_567 : decode cL_law 567 = .ok (.ifCond .eq 21, 3) := by decide +kernel
theorem dL_law_570 : decode cL_law 570 = .ok (.aload_n 1, 1) := by decide +kernel
theorem dL_law_571 : decode cL_law 571 = .ok (.invokestatic 115, 3) := by decide +kernel
theorem dL_law_574 : decode cL_law 574 = .ok (.ifCond .eq 14, 3) := by decide +kernel
theorem dL_law_577 : decode cL_law 577 = .ok (.aload_n 1, 1) := by decide +kernel
theorem dL_law_578 : decode cL_law 578 = .ok (.invokestatic 119, 3) := by decide +kernel
theorem dL_law_581 : decode cL_law 581 = .ok (.ifCond .eq 7, 3) := by decide +kernel
theorem dL_law_584 : decode cL_law 584 = .ok (.iconst 1, 1) := by decide +kernel
theorem dL_law_585 : decode cL_law 585 = .ok (.goto 4, 3) := by decide +kernel
theorem dL_law_588 : decode cL_law 588 = .ok (.iconst 0, 1) := by decide +kernel
theorem dL_law_589 : decode cL_law 589 = .ok (.istore_n 2, 1) := by decide +kernel
theorem dL_law_590 : decode cL_law 590 = .ok (.iinc 3 1, 3) := by decide +kernel
theorem dL_law_593 : decode cL_law 593 = .ok (.goto (-563), 3) := by decide +kernel
theorem dL_law_596 : decode cL_law 596 = .ok (.iload_n 2, 1) := by decide +kernel
theorem dL_law_597 : decode cL_law 597 = .ok (.ireturn, 1) := by decide +kernel
