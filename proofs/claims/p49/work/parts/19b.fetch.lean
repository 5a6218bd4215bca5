theorem f0_0 : gFetch 0 0 = some (.new 16, 3, 11, 0) := by decide +kernel
theorem f0_3 : gFetch 0 3 = some (.dup, 1, 0, 0) := by decide +kernel
theorem f0_4 : gFetch 0 4 = some (.invokespecial 198, 3, 18, 1) := by decide +kernel
theorem f0_7 : gFetch 0 7 = some (.astore_n 1, 1, 0, 0) := by decide +kernel
theorem f0_8 : gFetch 0 8 = some (.iconst 1, 1, 0, 0) := by decide +kernel
theorem f0_9 : gFetch 0 9 = some (.aload_n 0, 1, 0, 0) := by decide +kernel
theorem f0_10 : gFetch 0 10 = some (.iconst 0, 1, 0, 0) := by decide +kernel
theorem f0_11 : gFetch 0 11 = some (.iconst 2, 1, 0, 0) := by decide +kernel
theorem f0_12 : gFetch 0 12 = some (.invokestatic 155, 3, 1, 3) := by decide +kernel
theorem f0_15 : gFetch 0 15 = some (.iadd, 1, 0, 0) := by decide +kernel
theorem f0_16 : gFetch 0 16 = some (.istore_n 2, 1, 0, 0) := by decide +kernel
theorem f0_17 : gFetch 0 17 = some (.iconst 3, 1, 0, 0) := by decide +kernel
theorem f0_18 : gFetch 0 18 = some (.newarray .char, 2, 0, 0) := by decide +kernel
theorem f0_20 : gFetch 0 20 = some (.astore_n 3, 1, 0, 0) := by decide +kernel
theorem f0_21 : gFetch 0 21 = some (.iconst 1, 1, 0, 0) := by decide +kernel
theorem f0_22 : gFetch 0 22 = some (.istore 4, 2, 0, 0) := by decide +kernel
theorem f0_24 : gFetch 0 24 = some (.iconst 0, 1, 0, 0) := by decide +kernel
theorem f0_25 : gFetch 0 25 = some (.istore 5, 2, 0, 0) := by decide +kernel
theorem f0_27 : gFetch 0 27 = some (.iload 5, 2, 0, 0) := by decide +kernel
theorem f0_29 : gFetch 0 29 = some (.iload_n 2, 1, 0, 0) := by decide +kernel
theorem f0_30 : gFetch 0 30 = some (.if_icmp .ge 57, 3, 87, 0) := by decide +kernel
theorem f0_33 : gFetch 0 33 = some (.aload_n 3, 1, 0, 0) := by decide +kernel
theorem f0_34 : gFetch 0 34 = some (.iload 5, 2, 0, 0) := by decide +kernel
theorem f0_36 : gFetch 0 36 = some (.ldc 199, 2, 2, 1) := by decide +kernel
theorem f0_38 : gFetch 0 38 = some (.aload_n 0, 1, 0, 0) := by decide +kernel
theorem f0_39 : gFetch 0 39 = some (.iconst 1, 1, 0, 0) := by decide +kernel
theorem f0_40 : gFetch 0 40 = some (.iload 5, 2, 0, 0) := by decide +kernel
theorem f0_42 : gFetch 0 42 = some (.iadd, 1, 0, 0) := by decide +kernel
theorem f0_43 : gFetch 0 43 = some (.iconst 3, 1, 0, 0) := by decide +kernel
theorem f0_44 : gFetch 0 44 = some (.invokestatic 155, 3, 1, 3) := by decide +kernel
theorem f0_47 : gFetch 0 47 = some (.invokevirtual 201, 3, 903, 2) := by decide +kernel
theorem f0_50 : gFetch 0 50 = some (.castore, 1, 0, 0) := by decide +kernel
theorem f0_51 : gFetch 0 51 = some (.iload 4, 2, 0, 0) := by decide +kernel
theorem f0_53 : gFetch 0 53 = some (.ifCond .eq 25, 3, 78, 0) := by decide +kernel
theorem f0_56 : gFetch 0 56 = some (.aload_n 1, 1, 0, 0) := by decide +kernel
theorem f0_57 : gFetch 0 57 = some (.iconst 0, 1, 0, 0) := by decide +kernel
theorem f0_58 : gFetch 0 58 = some (.aload_n 3, 1, 0, 0) := by decide +kernel
theorem f0_59 : gFetch 0 59 = some (.iload 5, 2, 0, 0) := by decide +kernel
theorem f0_61 : gFetch 0 61 = some (.caload, 1, 0, 0) := by decide +kernel
theorem f0_62 : gFetch 0 62 = some (.iconst 0, 1, 0, 0) := by decide +kernel
theorem f0_63 : gFetch 0 63 = some (.iconst 0, 1, 0, 0) := by decide +kernel
theorem f0_64 : gFetch 0 64 = some (.iconst 0, 1, 0, 0) := by decide +kernel
theorem f0_65 : gFetch 0 65 = some (.iconst 0, 1, 0, 0) := by decide +kernel
theorem f0_66 : gFetch 0 66 = some (.invokestatic 162, 3, 2, 7) := by decide +kernel
theorem f0_69 : gFetch 0 69 = some (.iload 5, 2, 0, 0) := by decide +kernel
theorem f0_71 : gFetch 0 71 = some (.if_icmp .ne 7, 3, 78, 0) := by decide +kernel
theorem f0_74 : gFetch 0 74 = some (.iconst 1, 1, 0, 0) := by decide +kernel
theorem f0_75 : gFetch 0 75 = some (.goto 4, 3, 79, 0) := by decide +kernel
theorem f0_78 : gFetch 0 78 = some (.iconst 0, 1, 0, 0) := by decide +kernel
theorem f0_79 : gFetch 0 79 = some (.istore 4, 2, 0, 0) := by decide +kernel
theorem f0_81 : gFetch 0 81 = some (.iinc 5 1, 3, 0, 0) := by decide +kernel
theorem f0_84 : gFetch 0 84 = some (.goto (-57), 3, 27, 0) := by decide +kernel
theorem f0_87 : gFetch 0 87 = some (.sipush 200, 3, 0, 0) := by decide +kernel
theorem f0_90 : gFetch 0 90 = some (.anewarray 207, 3, 2, 0) := by decide +kernel
theorem f0_93 : gFetch 0 93 = some (.astore 5, 2, 0, 0) := by decide +kernel
theorem f0_95 : gFetch 0 95 = some (.iconst 1, 1, 0, 0) := by decide +kernel
theorem f0_96 : gFetch 0 96 = some (.newarray .int, 2, 0, 0) := by decide +kernel
theorem f0_98 : gFetch 0 98 = some (.astore 6, 2, 0, 0) := by decide +kernel
theorem f0_100 : gFetch 0 100 = some (.bipush 40, 2, 0, 0) := by decide +kernel
theorem f0_102 : gFetch 0 102 = some (.newarray .int, 2, 0, 0) := by decide +kernel
theorem f0_104 : gFetch 0 104 = some (.astore 7, 2, 0, 0) := by decide +kernel
theorem f0_106 : gFetch 0 106 = some (.bipush 40, 2, 0, 0) := by decide +kernel
theorem f0_108 : gFetch 0 108 = some (.newarray .int, 2, 0, 0) := by decide +kernel
theorem f0_110 : gFetch 0 110 = some (.astore 8, 2, 0, 0) := by decide +kernel
theorem f0_112 : gFetch 0 112 = some (.iconst 0, 1, 0, 0) := by decide +kernel
theorem f0_113 : gFetch 0 113 = some (.istore 9, 2, 0, 0) := by decide +kernel
theorem f0_115 : gFetch 0 115 = some (.iconst 0, 1, 0, 0) := by decide +kernel
theorem f0_116 : gFetch 0 116 = some (.istore 10, 2, 0, 0) := by decide +kernel
theorem f0_118 : gFetch 0 118 = some (.iconst 0, 1, 0, 0) := by decide +kernel
theorem f0_119 : gFetch 0 119 = some (.istore 11, 2, 0, 0) := by decide +kernel
theorem f0_121 : gFetch 0 121 = some (.iconst 3, 1, 0, 0) := by decide +kernel
theorem f0_122 : gFetch 0 122 = some (.newarray .int, 2, 0, 0) := by decide +kernel
theorem f0_124 : gFetch 0 124 = some (.astore 12, 2, 0, 0) := by decide +kernel
theorem f0_126 : gFetch 0 126 = some (.iconst 0, 1, 0, 0) := by decide +kernel
theorem f0_127 : gFetch 0 127 = some (.istore 13, 2, 0, 0) := by decide +kernel
theorem f0_129 : gFetch 0 129 = some (.iload 13, 2, 0, 0) := by decide +kernel
theorem f0_131 : gFetch 0 131 = some (.bipush 120, 2, 0, 0) := by decide +kernel
theorem f0_133 : gFetch 0 133 = some (.if_icmp .ge 1365, 3, 1498, 0) := by decide +kernel
theorem f0_136 : gFetch 0 136 = some (.iload 4, 2, 0, 0) := by decide +kernel
theorem f0_138 : gFetch 0 138 = some (.ifCond .eq 1360, 3, 1498, 0) := by decide +kernel
theorem f0_141 : gFetch 0 141 = some (.bipush 10, 2, 0, 0) := by decide +kernel
theorem f0_143 : gFetch 0 143 = some (.bipush 7, 2, 0, 0) := by decide +kernel
theorem f0_145 : gFetch 0 145 = some (.iload 13, 2, 0, 0) := by decide +kernel
theorem f0_147 : gFetch 0 147 = some (.imul, 1, 0, 0) := by decide +kernel
theorem f0_148 : gFetch 0 148 = some (.iadd, 1, 0, 0) := by decide +kernel
theorem f0_149 : gFetch 0 149 = some (.istore 14, 2, 0, 0) := by decide +kernel
theorem f0_151 : gFetch 0 151 = some (.aload_n 0, 1, 0, 0) := by decide +kernel
theorem f0_152 : gFetch 0 152 = some (.iload 14, 2, 0, 0) := by decide +kernel
theorem f0_154 : gFetch 0 154 = some (.iconst 5, 1, 0, 0) := by decide +kernel
theorem f0_155 : gFetch 0 155 = some (.iadd, 1, 0, 0) := by decide +kernel
theorem f0_156 : gFetch 0 156 = some (.iload_n 2, 1, 0, 0) := by decide +kernel
theorem f0_157 : gFetch 0 157 = some (.invokestatic 155, 3, 1, 3) := by decide +kernel
theorem f0_160 : gFetch 0 160 = some (.istore 15, 2, 0, 0) := by decide +kernel
theorem f0_162 : gFetch 0 162 = some (.aload_n 0, 1, 0, 0) := by decide +kernel
theorem f0_163 : gFetch 0 163 = some (.iload 14, 2, 0, 0) := by decide +kernel
theorem f0_165 : gFetch 0 165 = some (.bipush 6, 2, 0, 0) := by decide +kernel
theorem f0_167 : gFetch 0 167 = some (.iadd, 1, 0, 0) := by decide +kernel
theorem f0_168 : gFetch 0 168 = some (.bipush 24, 2, 0, 0) := by decide +kernel
theorem f0_170 : gFetch 0 170 = some (.invokestatic 155, 3, 1, 3) := by decide +kernel
theorem f0_173 : gFetch 0 173 = some (.istore 16, 2, 0, 0) := by decide +kernel
theorem f0_175 : gFetch 0 175 = some (.iload 16, 2, 0, 0) := by decide +kernel
theorem f0_177 : gFetch 0 177 = some (.bipush 13, 2, 0, 0) := by decide +kernel
theorem f0_179 : gFetch 0 179 = some (.if_icmp .ge 21, 3, 200, 0) := by decide +kernel
theorem f0_182 : gFetch 0 182 = some (.aload_n 1, 1, 0, 0) := by decide +kernel
theorem f0_183 : gFetch 0 183 = some (.aload_n 0, 1, 0, 0) := by decide +kernel
theorem f0_184 : gFetch 0 184 = some (.iload 14, 2, 0, 0) := by decide +kernel
theorem f0_186 : gFetch 0 186 = some (.aload 5, 2, 0, 0) := by decide +kernel
theorem f0_188 : gFetch 0 188 = some (.aload 6, 2, 0, 0) := by decide +kernel
theorem f0_190 : gFetch 0 190 = some (.iload 15, 2, 0, 0) := by decide +kernel
theorem f0_192 : gFetch 0 192 = some (.invokestatic 209, 3, 3, 6) := by decide +kernel
theorem f0_195 : gFetch 0 195 = some (.istore 4, 2, 0, 0) := by decide +kernel
theorem f0_197 : gFetch 0 197 = some (.goto 1024, 3, 1221, 0) := by decide +kernel
theorem f0_200 : gFetch 0 200 = some (.iload 16, 2, 0, 0) := by decide +kernel
theorem f0_202 : gFetch 0 202 = some (.bipush 13, 2, 0, 0) := by decide +kernel
theorem f0_204 : gFetch 0 204 = some (.if_icmp .ne 76, 3, 280, 0) := by decide +kernel
theorem f0_207 : gFetch 0 207 = some (.aload 5, 2, 0, 0) := by decide +kernel
theorem f0_209 : gFetch 0 209 = some (.aload 6, 2, 0, 0) := by decide +kernel
theorem f0_211 : gFetch 0 211 = some (.iconst 0, 1, 0, 0) := by decide +kernel
theorem f0_212 : gFetch 0 212 = some (.iaload, 1, 0, 0) := by decide +kernel
theorem f0_213 : gFetch 0 213 = some (.iload 15, 2, 0, 0) := by decide +kernel
theorem f0_215 : gFetch 0 215 = some (.invokestatic 169, 3, 4, 3) := by decide +kernel
theorem f0_218 : gFetch 0 218 = some (.istore 17, 2, 0, 0) := by decide +kernel
theorem f0_220 : gFetch 0 220 = some (.aload_n 1, 1, 0, 0) := by decide +kernel
theorem f0_221 : gFetch 0 221 = some (.bipush 12, 2, 0, 0) := by decide +kernel
theorem f0_223 : gFetch 0 223 = some (.iload 15, 2, 0, 0) := by decide +kernel
theorem f0_225 : gFetch 0 225 = some (.iconst 0, 1, 0, 0) := by decide +kernel
theorem f0_226 : gFetch 0 226 = some (.iconst 0, 1, 0, 0) := by decide +kernel
theorem f0_227 : gFetch 0 227 = some (.iconst 0, 1, 0, 0) := by decide +kernel
theorem f0_228 : gFetch 0 228 = some (.iconst 0, 1, 0, 0) := by decide +kernel
theorem f0_229 : gFetch 0 229 = some (.invokestatic 162, 3, 2, 7) := by decide +kernel
theorem f0_232 : gFetch 0 232 = some (.istore 18, 2, 0, 0) := by decide +kernel
theorem f0_234 : gFetch 0 234 = some (.iload 17, 2, 0, 0) := by decide +kernel
theorem f0_236 : gFetch 0 236 = some (.ifCond .ne 18, 3, 254, 0) := by decide +kernel
theorem f0_239 : gFetch 0 239 = some (.iload 18, 2, 0, 0) := by decide +kernel
theorem f0_241 : gFetch 0 241 = some (.ldc 89, 2, 0, 4292967293) := by decide +kernel
theorem f0_243 : gFetch 0 243 = some (.if_icmp .ne 7, 3, 250, 0) := by decide +kernel
theorem f0_246 : gFetch 0 246 = some (.iconst 1, 1, 0, 0) := by decide +kernel
theorem f0_247 : gFetch 0 247 = some (.goto 17, 3, 264, 0) := by decide +kernel
theorem f0_250 : gFetch 0 250 = some (.iconst 0, 1, 0, 0) := by decide +kernel
theorem f0_251 : gFetch 0 251 = some (.goto 13, 3, 264, 0) := by decide +kernel
theorem f0_254 : gFetch 0 254 = some (.iload 18, 2, 0, 0) := by decide +kernel
theorem f0_256 : gFetch 0 256 = some (.ifCond .le 7, 3, 263, 0) := by decide +kernel
theorem f0_259 : gFetch 0 259 = some (.iconst 1, 1, 0, 0) := by decide +kernel
theorem f0_260 : gFetch 0 260 = some (.goto 4, 3, 264, 0) := by decide +kernel
theorem f0_263 : gFetch 0 263 = some (.iconst 0, 1, 0, 0) := by decide +kernel
theorem f0_264 : gFetch 0 264 = some (.istore 4, 2, 0, 0) := by decide +kernel
theorem f0_266 : gFetch 0 266 = some (.aload 5, 2, 0, 0) := by decide +kernel
theorem f0_268 : gFetch 0 268 = some (.aload 6, 2, 0, 0) := by decide +kernel
theorem f0_270 : gFetch 0 270 = some (.iconst 0, 1, 0, 0) := by decide +kernel
theorem f0_271 : gFetch 0 271 = some (.iaload, 1, 0, 0) := by decide +kernel
theorem f0_272 : gFetch 0 272 = some (.iload 15, 2, 0, 0) := by decide +kernel
theorem f0_274 : gFetch 0 274 = some (.invokestatic 172, 3, 5, 3) := by decide +kernel
theorem f0_277 : gFetch 0 277 = some (.goto 944, 3, 1221, 0) := by decide +kernel
theorem f0_280 : gFetch 0 280 = some (.iload 16, 2, 0, 0) := by decide +kernel
theorem f0_282 : gFetch 0 282 = some (.bipush 17, 2, 0, 0) := by decide +kernel
theorem f0_284 : gFetch 0 284 = some (.if_icmp .ge 122, 3, 406, 0) := by decide +kernel
theorem f0_287 : gFetch 0 287 = some (.aload_n 1, 1, 0, 0) := by decide +kernel
theorem f0_288 : gFetch 0 288 = some (.invokevirtual 213, 3, 61, 1) := by decide +kernel
theorem f0_291 : gFetch 0 291 = some (.istore 17, 2, 0, 0) := by decide +kernel
theorem f0_293 : gFetch 0 293 = some (.iload 17, 2, 0, 0) := by decide +kernel
theorem f0_295 : gFetch 0 295 = some (.ifCond .eq 26, 3, 321, 0) := by decide +kernel
theorem f0_298 : gFetch 0 298 = some (.aload_n 1, 1, 0, 0) := by decide +kernel
theorem f0_299 : gFetch 0 299 = some (.bipush 14, 2, 0, 0) := by decide +kernel
theorem f0_301 : gFetch 0 301 = some (.iconst 1, 1, 0, 0) := by decide +kernel
theorem f0_302 : gFetch 0 302 = some (.aload_n 0, 1, 0, 0) := by decide +kernel
theorem f0_303 : gFetch 0 303 = some (.iload 14, 2, 0, 0) := by decide +kernel
theorem f0_305 : gFetch 0 305 = some (.bipush 50, 2, 0, 0) := by decide +kernel
theorem f0_307 : gFetch 0 307 = some (.invokestatic 155, 3, 1, 3) := by decide +kernel
theorem f0_310 : gFetch 0 310 = some (.iadd, 1, 0, 0) := by decide +kernel
theorem f0_311 : gFetch 0 311 = some (.iconst 0, 1, 0, 0) := by decide +kernel
theorem f0_312 : gFetch 0 312 = some (.iconst 0, 1, 0, 0) := by decide +kernel
theorem f0_313 : gFetch 0 313 = some (.iconst 0, 1, 0, 0) := by decide +kernel
theorem f0_314 : gFetch 0 314 = some (.iconst 0, 1, 0, 0) := by decide +kernel
theorem f0_315 : gFetch 0 315 = some (.invokestatic 162, 3, 2, 7) := by decide +kernel
theorem f0_318 : gFetch 0 318 = some (.goto 15, 3, 333, 0) := by decide +kernel
theorem f0_321 : gFetch 0 321 = some (.aload_n 1, 1, 0, 0) := by decide +kernel
theorem f0_322 : gFetch 0 322 = some (.bipush 13, 2, 0, 0) := by decide +kernel
theorem f0_324 : gFetch 0 324 = some (.iload 15, 2, 0, 0) := by decide +kernel
theorem f0_326 : gFetch 0 326 = some (.iconst 0, 1, 0, 0) := by decide +kernel
theorem f0_327 : gFetch 0 327 = some (.iconst 0, 1, 0, 0) := by decide +kernel
theorem f0_328 : gFetch 0 328 = some (.iconst 0, 1, 0, 0) := by decide +kernel
theorem f0_329 : gFetch 0 329 = some (.iconst 0, 1, 0, 0) := by decide +kernel
theorem f0_330 : gFetch 0 330 = some (.invokestatic 162, 3, 2, 7) := by decide +kernel
theorem f0_333 : gFetch 0 333 = some (.istore 18, 2, 0, 0) := by decide +kernel
theorem f0_335 : gFetch 0 335 = some (.iload 17, 2, 0, 0) := by decide +kernel
theorem f0_337 : gFetch 0 337 = some (.ifCond .eq 17, 3, 354, 0) := by decide +kernel
theorem f0_340 : gFetch 0 340 = some (.iload 18, 2, 0, 0) := by decide +kernel
theorem f0_342 : gFetch 0 342 = some (.iconst 1, 1, 0, 0) := by decide +kernel
theorem f0_343 : gFetch 0 343 = some (.if_icmp .lt 7, 3, 350, 0) := by decide +kernel
theorem f0_346 : gFetch 0 346 = some (.iconst 1, 1, 0, 0) := by decide +kernel
theorem f0_347 : gFetch 0 347 = some (.goto 54, 3, 401, 0) := by decide +kernel
theorem f0_350 : gFetch 0 350 = some (.iconst 0, 1, 0, 0) := by decide +kernel
theorem f0_351 : gFetch 0 351 = some (.goto 50, 3, 401, 0) := by decide +kernel
theorem f0_354 : gFetch 0 354 = some (.iload 18, 2, 0, 0) := by decide +kernel
theorem f0_356 : gFetch 0 356 = some (.ldc 92, 2, 0, 4292967291) := by decide +kernel
theorem f0_358 : gFetch 0 358 = some (.if_icmp .eq 38, 3, 396, 0) := by decide +kernel
theorem f0_361 : gFetch 0 361 = some (.iload 18, 2, 0, 0) := by decide +kernel
theorem f0_363 : gFetch 0 363 = some (.ifCond .lt 37, 3, 400, 0) := by decide +kernel
theorem f0_366 : gFetch 0 366 = some (.iload 18, 2, 0, 0) := by decide +kernel
theorem f0_368 : gFetch 0 368 = some (.iconst 3, 1, 0, 0) := by decide +kernel
theorem f0_369 : gFetch 0 369 = some (.if_icmp .ge 31, 3, 400, 0) := by decide +kernel
theorem f0_372 : gFetch 0 372 = some (.aload_n 1, 1, 0, 0) := by decide +kernel
theorem f0_373 : gFetch 0 373 = some (.invokevirtual 213, 3, 61, 1) := by decide +kernel
theorem f0_376 : gFetch 0 376 = some (.ifCond .eq 24, 3, 400, 0) := by decide +kernel
theorem f0_379 : gFetch 0 379 = some (.aload_n 1, 1, 0, 0) := by decide +kernel
theorem f0_380 : gFetch 0 380 = some (.bipush 13, 2, 0, 0) := by decide +kernel
theorem f0_382 : gFetch 0 382 = some (.iload 15, 2, 0, 0) := by decide +kernel
theorem f0_384 : gFetch 0 384 = some (.iconst 0, 1, 0, 0) := by decide +kernel
theorem f0_385 : gFetch 0 385 = some (.iconst 0, 1, 0, 0) := by decide +kernel
theorem f0_386 : gFetch 0 386 = some (.iconst 0, 1, 0, 0) := by decide +kernel
theorem f0_387 : gFetch 0 387 = some (.iconst 0, 1, 0, 0) := by decide +kernel
theorem f0_388 : gFetch 0 388 = some (.invokestatic 162, 3, 2, 7) := by decide +kernel
theorem f0_391 : gFetch 0 391 = some (.ldc 89, 2, 0, 4292967293) := by decide +kernel
theorem f0_393 : gFetch 0 393 = some (.if_icmp .ne 7, 3, 400, 0) := by decide +kernel
theorem f0_396 : gFetch 0 396 = some (.iconst 1, 1, 0, 0) := by decide +kernel
theorem f0_397 : gFetch 0 397 = some (.goto 4, 3, 401, 0) := by decide +kernel
theorem f0_400 : gFetch 0 400 = some (.iconst 0, 1, 0, 0) := by decide +kernel
theorem f0_401 : gFetch 0 401 = some (.istore 4, 2, 0, 0) := by decide +kernel
theorem f0_403 : gFetch 0 403 = some (.goto 818, 3, 1221, 0) := by decide +kernel
theorem f0_406 : gFetch 0 406 = some (.iload 16, 2, 0, 0) := by decide +kernel
theorem f0_408 : gFetch 0 408 = some (.bipush 17, 2, 0, 0) := by decide +kernel
theorem f0_410 : gFetch 0 410 = some (.if_icmp .ne 36, 3, 446, 0) := by decide +kernel
theorem f0_413 : gFetch 0 413 = some (.aload_n 1, 1, 0, 0) := by decide +kernel
theorem f0_414 : gFetch 0 414 = some (.bipush 15, 2, 0, 0) := by decide +kernel
theorem f0_416 : gFetch 0 416 = some (.iconst 0, 1, 0, 0) := by decide +kernel
theorem f0_417 : gFetch 0 417 = some (.iconst 0, 1, 0, 0) := by decide +kernel
theorem f0_418 : gFetch 0 418 = some (.iconst 0, 1, 0, 0) := by decide +kernel
theorem f0_419 : gFetch 0 419 = some (.iconst 0, 1, 0, 0) := by decide +kernel
theorem f0_420 : gFetch 0 420 = some (.iconst 0, 1, 0, 0) := by decide +kernel
theorem f0_421 : gFetch 0 421 = some (.invokestatic 162, 3, 2, 7) := by decide +kernel
theorem f0_424 : gFetch 0 424 = some (.ldc 83, 2, 0, 4292967295) := by decide +kernel
theorem f0_426 : gFetch 0 426 = some (.if_icmp .eq 14, 3, 440, 0) := by decide +kernel
theorem f0_429 : gFetch 0 429 = some (.aload_n 1, 1, 0, 0) := by decide +kernel
theorem f0_430 : gFetch 0 430 = some (.invokevirtual 213, 3, 61, 1) := by decide +kernel
theorem f0_433 : gFetch 0 433 = some (.ifCond .ne 7, 3, 440, 0) := by decide +kernel
theorem f0_436 : gFetch 0 436 = some (.iconst 1, 1, 0, 0) := by decide +kernel
theorem f0_437 : gFetch 0 437 = some (.goto 4, 3, 441, 0) := by decide +kernel
theorem f0_440 : gFetch 0 440 = some (.iconst 0, 1, 0, 0) := by decide +kernel
theorem f0_441 : gFetch 0 441 = some (.istore 4, 2, 0, 0) := by decide +kernel
theorem f0_443 : gFetch 0 443 = some (.goto 778, 3, 1221, 0) := by decide +kernel
theorem f0_446 : gFetch 0 446 = some (.iload 16, 2, 0, 0) := by decide +kernel
theorem f0_448 : gFetch 0 448 = some (.bipush 18, 2, 0, 0) := by decide +kernel
theorem f0_450 : gFetch 0 450 = some (.if_icmp .ne 72, 3, 522, 0) := by decide +kernel
theorem f0_453 : gFetch 0 453 = some (.aload_n 1, 1, 0, 0) := by decide +kernel
theorem f0_454 : gFetch 0 454 = some (.bipush 6, 2, 0, 0) := by decide +kernel
theorem f0_456 : gFetch 0 456 = some (.iconst 0, 1, 0, 0) := by decide +kernel
theorem f0_457 : gFetch 0 457 = some (.iconst 0, 1, 0, 0) := by decide +kernel
theorem f0_458 : gFetch 0 458 = some (.iconst 0, 1, 0, 0) := by decide +kernel
theorem f0_459 : gFetch 0 459 = some (.iconst 0, 1, 0, 0) := by decide +kernel
theorem f0_460 : gFetch 0 460 = some (.iconst 0, 1, 0, 0) := by decide +kernel
theorem f0_461 : gFetch 0 461 = some (.invokestatic 162, 3, 2, 7) := by decide +kernel
theorem f0_464 : gFetch 0 464 = some (.istore 17, 2, 0, 0) := by decide +kernel
theorem f0_466 : gFetch 0 466 = some (.iload 17, 2, 0, 0) := by decide +kernel
theorem f0_468 : gFetch 0 468 = some (.iload 9, 2, 0, 0) := by decide +kernel
theorem f0_470 : gFetch 0 470 = some (.bipush 6, 2, 0, 0) := by decide +kernel
theorem f0_472 : gFetch 0 472 = some (.if_icmp .ne 8, 3, 480, 0) := by decide +kernel
theorem f0_475 : gFetch 0 475 = some (.ldc 89, 2, 0, 4292967293) := by decide +kernel
theorem f0_477 : gFetch 0 477 = some (.goto 5, 3, 482, 0) := by decide +kernel
theorem f0_480 : gFetch 0 480 = some (.iload 10, 2, 0, 0) := by decide +kernel
theorem f0_482 : gFetch 0 482 = some (.if_icmp .ne 7, 3, 489, 0) := by decide +kernel
theorem f0_485 : gFetch 0 485 = some (.iconst 1, 1, 0, 0) := by decide +kernel
theorem f0_486 : gFetch 0 486 = some (.goto 4, 3, 490, 0) := by decide +kernel
theorem f0_489 : gFetch 0 489 = some (.iconst 0, 1, 0, 0) := by decide +kernel
theorem f0_490 : gFetch 0 490 = some (.istore 4, 2, 0, 0) := by decide +kernel
theorem f0_492 : gFetch 0 492 = some (.iload 17, 2, 0, 0) := by decide +kernel
theorem f0_494 : gFetch 0 494 = some (.ifCond .lt 25, 3, 519, 0) := by decide +kernel
theorem f0_497 : gFetch 0 497 = some (.aload 7, 2, 0, 0) := by decide +kernel
theorem f0_499 : gFetch 0 499 = some (.iload 9, 2, 0, 0) := by decide +kernel
theorem f0_501 : gFetch 0 501 = some (.iload 17, 2, 0, 0) := by decide +kernel
theorem f0_503 : gFetch 0 503 = some (.iastore, 1, 0, 0) := by decide +kernel
theorem f0_504 : gFetch 0 504 = some (.aload 8, 2, 0, 0) := by decide +kernel
theorem f0_506 : gFetch 0 506 = some (.iload 9, 2, 0, 0) := by decide +kernel
theorem f0_508 : gFetch 0 508 = some (.aload 6, 2, 0, 0) := by decide +kernel
theorem f0_510 : gFetch 0 510 = some (.iconst 0, 1, 0, 0) := by decide +kernel
theorem f0_511 : gFetch 0 511 = some (.iaload, 1, 0, 0) := by decide +kernel
theorem f0_512 : gFetch 0 512 = some (.iastore, 1, 0, 0) := by decide +kernel
theorem f0_513 : gFetch 0 513 = some (.iinc 9 1, 3, 0, 0) := by decide +kernel
theorem f0_516 : gFetch 0 516 = some (.iinc 10 1, 3, 0, 0) := by decide +kernel
theorem f0_519 : gFetch 0 519 = some (.goto 702, 3, 1221, 0) := by decide +kernel
theorem f0_522 : gFetch 0 522 = some (.iload 16, 2, 0, 0) := by decide +kernel
theorem f0_524 : gFetch 0 524 = some (.bipush 19, 2, 0, 0) := by decide +kernel
theorem f0_526 : gFetch 0 526 = some (.if_icmp .ne 91, 3, 617, 0) := by decide +kernel
theorem f0_529 : gFetch 0 529 = some (.iload 9, 2, 0, 0) := by decide +kernel
theorem f0_531 : gFetch 0 531 = some (.ifCond .le 86, 3, 617, 0) := by decide +kernel
theorem f0_534 : gFetch 0 534 = some (.aload_n 0, 1, 0, 0) := by decide +kernel
theorem f0_535 : gFetch 0 535 = some (.iload 14, 2, 0, 0) := by decide +kernel
theorem f0_537 : gFetch 0 537 = some (.iload 9, 2, 0, 0) := by decide +kernel
theorem f0_539 : gFetch 0 539 = some (.invokestatic 155, 3, 1, 3) := by decide +kernel
theorem f0_542 : gFetch 0 542 = some (.istore 17, 2, 0, 0) := by decide +kernel
theorem f0_544 : gFetch 0 544 = some (.iinc 9 (-1), 3, 0, 0) := by decide +kernel
theorem f0_547 : gFetch 0 547 = some (.aload_n 1, 1, 0, 0) := by decide +kernel
theorem f0_548 : gFetch 0 548 = some (.bipush 7, 2, 0, 0) := by decide +kernel
theorem f0_550 : gFetch 0 550 = some (.aload 7, 2, 0, 0) := by decide +kernel
theorem f0_552 : gFetch 0 552 = some (.iload 17, 2, 0, 0) := by decide +kernel
theorem f0_554 : gFetch 0 554 = some (.iaload, 1, 0, 0) := by decide +kernel
theorem f0_555 : gFetch 0 555 = some (.iconst 0, 1, 0, 0) := by decide +kernel
theorem f0_556 : gFetch 0 556 = some (.iconst 0, 1, 0, 0) := by decide +kernel
theorem f0_557 : gFetch 0 557 = some (.iconst 0, 1, 0, 0) := by decide +kernel
theorem f0_558 : gFetch 0 558 = some (.iconst 0, 1, 0, 0) := by decide +kernel
theorem f0_559 : gFetch 0 559 = some (.invokestatic 162, 3, 2, 7) := by decide +kernel
theorem f0_562 : gFetch 0 562 = some (.iload 9, 2, 0, 0) := by decide +kernel
theorem f0_564 : gFetch 0 564 = some (.if_icmp .ne 27, 3, 591, 0) := by decide +kernel
theorem f0_567 : gFetch 0 567 = some (.aload_n 1, 1, 0, 0) := by decide +kernel
theorem f0_568 : gFetch 0 568 = some (.bipush 7, 2, 0, 0) := by decide +kernel
theorem f0_570 : gFetch 0 570 = some (.aload 7, 2, 0, 0) := by decide +kernel
theorem f0_572 : gFetch 0 572 = some (.iload 17, 2, 0, 0) := by decide +kernel
theorem f0_574 : gFetch 0 574 = some (.iaload, 1, 0, 0) := by decide +kernel
theorem f0_575 : gFetch 0 575 = some (.iconst 0, 1, 0, 0) := by decide +kernel
theorem f0_576 : gFetch 0 576 = some (.iconst 0, 1, 0, 0) := by decide +kernel
theorem f0_577 : gFetch 0 577 = some (.iconst 0, 1, 0, 0) := by decide +kernel
theorem f0_578 : gFetch 0 578 = some (.iconst 0, 1, 0, 0) := by decide +kernel
theorem f0_579 : gFetch 0 579 = some (.invokestatic 162, 3, 2, 7) := by decide +kernel
theorem f0_582 : gFetch 0 582 = some (.ldc 83, 2, 0, 4292967295) := by decide +kernel
theorem f0_584 : gFetch 0 584 = some (.if_icmp .ne 7, 3, 591, 0) := by decide +kernel
theorem f0_587 : gFetch 0 587 = some (.iconst 1, 1, 0, 0) := by decide +kernel
theorem f0_588 : gFetch 0 588 = some (.goto 4, 3, 592, 0) := by decide +kernel
theorem f0_591 : gFetch 0 591 = some (.iconst 0, 1, 0, 0) := by decide +kernel
theorem f0_592 : gFetch 0 592 = some (.istore 4, 2, 0, 0) := by decide +kernel
theorem f0_594 : gFetch 0 594 = some (.aload 7, 2, 0, 0) := by decide +kernel
theorem f0_596 : gFetch 0 596 = some (.iload 17, 2, 0, 0) := by decide +kernel
theorem f0_598 : gFetch 0 598 = some (.aload 7, 2, 0, 0) := by decide +kernel
theorem f0_600 : gFetch 0 600 = some (.iload 9, 2, 0, 0) := by decide +kernel
theorem f0_602 : gFetch 0 602 = some (.iaload, 1, 0, 0) := by decide +kernel
theorem f0_603 : gFetch 0 603 = some (.iastore, 1, 0, 0) := by decide +kernel
theorem f0_604 : gFetch 0 604 = some (.aload 8, 2, 0, 0) := by decide +kernel
theorem f0_606 : gFetch 0 606 = some (.iload 17, 2, 0, 0) := by decide +kernel
theorem f0_608 : gFetch 0 608 = some (.aload 8, 2, 0, 0) := by decide +kernel
theorem f0_610 : gFetch 0 610 = some (.iload 9, 2, 0, 0) := by decide +kernel
theorem f0_612 : gFetch 0 612 = some (.iaload, 1, 0, 0) := by decide +kernel
theorem f0_613 : gFetch 0 613 = some (.iastore, 1, 0, 0) := by decide +kernel
theorem f0_614 : gFetch 0 614 = some (.goto 607, 3, 1221, 0) := by decide +kernel
theorem f0_617 : gFetch 0 617 = some (.iload 16, 2, 0, 0) := by decide +kernel
theorem f0_619 : gFetch 0 619 = some (.bipush 20, 2, 0, 0) := by decide +kernel
theorem f0_621 : gFetch 0 621 = some (.if_icmp .ne 100, 3, 721, 0) := by decide +kernel
theorem f0_624 : gFetch 0 624 = some (.aload 5, 2, 0, 0) := by decide +kernel
theorem f0_626 : gFetch 0 626 = some (.aload 6, 2, 0, 0) := by decide +kernel
theorem f0_628 : gFetch 0 628 = some (.iconst 0, 1, 0, 0) := by decide +kernel
theorem f0_629 : gFetch 0 629 = some (.iaload, 1, 0, 0) := by decide +kernel
theorem f0_630 : gFetch 0 630 = some (.iconst 1, 1, 0, 0) := by decide +kernel
theorem f0_631 : gFetch 0 631 = some (.invokestatic 217, 3, 6, 3) := by decide +kernel
theorem f0_634 : gFetch 0 634 = some (.istore 17, 2, 0, 0) := by decide +kernel
theorem f0_636 : gFetch 0 636 = some (.aload_n 1, 1, 0, 0) := by decide +kernel
theorem f0_637 : gFetch 0 637 = some (.invokevirtual 221, 3, 95, 1) := by decide +kernel
theorem f0_640 : gFetch 0 640 = some (.iload 17, 2, 0, 0) := by decide +kernel
theorem f0_642 : gFetch 0 642 = some (.if_icmp .ne 14, 3, 656, 0) := by decide +kernel
theorem f0_645 : gFetch 0 645 = some (.aload_n 1, 1, 0, 0) := by decide +kernel
theorem f0_646 : gFetch 0 646 = some (.invokevirtual 221, 3, 95, 1) := by decide +kernel
theorem f0_649 : gFetch 0 649 = some (.ifCond .ne 7, 3, 656, 0) := by decide +kernel
theorem f0_652 : gFetch 0 652 = some (.iconst 1, 1, 0, 0) := by decide +kernel
theorem f0_653 : gFetch 0 653 = some (.goto 4, 3, 657, 0) := by decide +kernel
theorem f0_656 : gFetch 0 656 = some (.iconst 0, 1, 0, 0) := by decide +kernel
theorem f0_657 : gFetch 0 657 = some (.istore 4, 2, 0, 0) := by decide +kernel
theorem f0_659 : gFetch 0 659 = some (.iconst 1, 1, 0, 0) := by decide +kernel
theorem f0_660 : gFetch 0 660 = some (.istore 18, 2, 0, 0) := by decide +kernel
theorem f0_662 : gFetch 0 662 = some (.iload 18, 2, 0, 0) := by decide +kernel
theorem f0_664 : gFetch 0 664 = some (.aload 6, 2, 0, 0) := by decide +kernel
theorem f0_666 : gFetch 0 666 = some (.iconst 0, 1, 0, 0) := by decide +kernel
theorem f0_667 : gFetch 0 667 = some (.iaload, 1, 0, 0) := by decide +kernel
theorem f0_668 : gFetch 0 668 = some (.if_icmp .gt 50, 3, 718, 0) := by decide +kernel
theorem f0_671 : gFetch 0 671 = some (.aload 5, 2, 0, 0) := by decide +kernel
theorem f0_673 : gFetch 0 673 = some (.iload 18, 2, 0, 0) := by decide +kernel
theorem f0_675 : gFetch 0 675 = some (.aaload, 1, 0, 0) := by decide +kernel
theorem f0_676 : gFetch 0 676 = some (.bipush 7, 2, 0, 0) := by decide +kernel
theorem f0_678 : gFetch 0 678 = some (.aload 5, 2, 0, 0) := by decide +kernel
theorem f0_680 : gFetch 0 680 = some (.iload 18, 2, 0, 0) := by decide +kernel
theorem f0_682 : gFetch 0 682 = some (.aaload, 1, 0, 0) := by decide +kernel
theorem f0_683 : gFetch 0 683 = some (.iconst 5, 1, 0, 0) := by decide +kernel
theorem f0_684 : gFetch 0 684 = some (.iaload, 1, 0, 0) := by decide +kernel
theorem f0_685 : gFetch 0 685 = some (.ifCond .ne 18, 3, 703, 0) := by decide +kernel
theorem f0_688 : gFetch 0 688 = some (.aload 5, 2, 0, 0) := by decide +kernel
theorem f0_690 : gFetch 0 690 = some (.iload 18, 2, 0, 0) := by decide +kernel
theorem f0_692 : gFetch 0 692 = some (.aaload, 1, 0, 0) := by decide +kernel
theorem f0_693 : gFetch 0 693 = some (.bipush 8, 2, 0, 0) := by decide +kernel
theorem f0_695 : gFetch 0 695 = some (.iaload, 1, 0, 0) := by decide +kernel
theorem f0_696 : gFetch 0 696 = some (.ifCond .ne 7, 3, 703, 0) := by decide +kernel
theorem f0_699 : gFetch 0 699 = some (.iconst 1, 1, 0, 0) := by decide +kernel
theorem f0_700 : gFetch 0 700 = some (.goto 11, 3, 711, 0) := by decide +kernel
theorem f0_703 : gFetch 0 703 = some (.aload 5, 2, 0, 0) := by decide +kernel
theorem f0_705 : gFetch 0 705 = some (.iload 18, 2, 0, 0) := by decide +kernel
theorem f0_707 : gFetch 0 707 = some (.aaload, 1, 0, 0) := by decide +kernel
theorem f0_708 : gFetch 0 708 = some (.bipush 7, 2, 0, 0) := by decide +kernel
theorem f0_710 : gFetch 0 710 = some (.iaload, 1, 0, 0) := by decide +kernel
theorem f0_711 : gFetch 0 711 = some (.iastore, 1, 0, 0) := by decide +kernel
theorem f0_712 : gFetch 0 712 = some (.iinc 18 1, 3, 0, 0) := by decide +kernel
theorem f0_715 : gFetch 0 715 = some (.goto (-53), 3, 662, 0) := by decide +kernel
theorem f0_718 : gFetch 0 718 = some (.goto 503, 3, 1221, 0) := by decide +kernel
theorem f0_721 : gFetch 0 721 = some (.iload 16, 2, 0, 0) := by decide +kernel
theorem f0_723 : gFetch 0 723 = some (.bipush 21, 2, 0, 0) := by decide +kernel
theorem f0_725 : gFetch 0 725 = some (.if_icmp .ne 151, 3, 876, 0) := by decide +kernel
theorem f0_728 : gFetch 0 728 = some (.iconst 0, 1, 0, 0) := by decide +kernel
theorem f0_729 : gFetch 0 729 = some (.istore 17, 2, 0, 0) := by decide +kernel
theorem f0_731 : gFetch 0 731 = some (.iconst 1, 1, 0, 0) := by decide +kernel
theorem f0_732 : gFetch 0 732 = some (.istore 18, 2, 0, 0) := by decide +kernel
theorem f0_734 : gFetch 0 734 = some (.iload 18, 2, 0, 0) := by decide +kernel
theorem f0_736 : gFetch 0 736 = some (.aload 6, 2, 0, 0) := by decide +kernel
theorem f0_738 : gFetch 0 738 = some (.iconst 0, 1, 0, 0) := by decide +kernel
theorem f0_739 : gFetch 0 739 = some (.iaload, 1, 0, 0) := by decide +kernel
theorem f0_740 : gFetch 0 740 = some (.if_icmp .gt 84, 3, 824, 0) := by decide +kernel
theorem f0_743 : gFetch 0 743 = some (.aload 5, 2, 0, 0) := by decide +kernel
theorem f0_745 : gFetch 0 745 = some (.iload 18, 2, 0, 0) := by decide +kernel
theorem f0_747 : gFetch 0 747 = some (.aaload, 1, 0, 0) := by decide +kernel
theorem f0_748 : gFetch 0 748 = some (.bipush 8, 2, 0, 0) := by decide +kernel
theorem f0_750 : gFetch 0 750 = some (.iaload, 1, 0, 0) := by decide +kernel
theorem f0_751 : gFetch 0 751 = some (.ifCond .ne 29, 3, 780, 0) := by decide +kernel
theorem f0_754 : gFetch 0 754 = some (.aload 5, 2, 0, 0) := by decide +kernel
theorem f0_756 : gFetch 0 756 = some (.iload 18, 2, 0, 0) := by decide +kernel
theorem f0_758 : gFetch 0 758 = some (.aaload, 1, 0, 0) := by decide +kernel
theorem f0_759 : gFetch 0 759 = some (.bipush 6, 2, 0, 0) := by decide +kernel
theorem f0_761 : gFetch 0 761 = some (.iaload, 1, 0, 0) := by decide +kernel
theorem f0_762 : gFetch 0 762 = some (.ifCond .ne 18, 3, 780, 0) := by decide +kernel
theorem f0_765 : gFetch 0 765 = some (.aload 5, 2, 0, 0) := by decide +kernel
theorem f0_767 : gFetch 0 767 = some (.iload 18, 2, 0, 0) := by decide +kernel
theorem f0_769 : gFetch 0 769 = some (.aaload, 1, 0, 0) := by decide +kernel
theorem f0_770 : gFetch 0 770 = some (.bipush 7, 2, 0, 0) := by decide +kernel
theorem f0_772 : gFetch 0 772 = some (.iaload, 1, 0, 0) := by decide +kernel
theorem f0_773 : gFetch 0 773 = some (.ifCond .ne 7, 3, 780, 0) := by decide +kernel
theorem f0_776 : gFetch 0 776 = some (.iconst 1, 1, 0, 0) := by decide +kernel
theorem f0_777 : gFetch 0 777 = some (.goto 4, 3, 781, 0) := by decide +kernel
theorem f0_780 : gFetch 0 780 = some (.iconst 0, 1, 0, 0) := by decide +kernel
theorem f0_781 : gFetch 0 781 = some (.istore 19, 2, 0, 0) := by decide +kernel
theorem f0_783 : gFetch 0 783 = some (.iload 17, 2, 0, 0) := by decide +kernel
theorem f0_785 : gFetch 0 785 = some (.iload 19, 2, 0, 0) := by decide +kernel
theorem f0_787 : gFetch 0 787 = some (.invokestatic 125, 3, 7, 1) := by decide +kernel
theorem f0_790 : gFetch 0 790 = some (.iadd, 1, 0, 0) := by decide +kernel
theorem f0_791 : gFetch 0 791 = some (.istore 17, 2, 0, 0) := by decide +kernel
theorem f0_793 : gFetch 0 793 = some (.aload 5, 2, 0, 0) := by decide +kernel
theorem f0_795 : gFetch 0 795 = some (.iload 18, 2, 0, 0) := by decide +kernel
theorem f0_797 : gFetch 0 797 = some (.aaload, 1, 0, 0) := by decide +kernel
theorem f0_798 : gFetch 0 798 = some (.bipush 8, 2, 0, 0) := by decide +kernel
theorem f0_800 : gFetch 0 800 = some (.iload 19, 2, 0, 0) := by decide +kernel
theorem f0_802 : gFetch 0 802 = some (.ifCond .eq 7, 3, 809, 0) := by decide +kernel
theorem f0_805 : gFetch 0 805 = some (.iconst 1, 1, 0, 0) := by decide +kernel
theorem f0_806 : gFetch 0 806 = some (.goto 11, 3, 817, 0) := by decide +kernel
theorem f0_809 : gFetch 0 809 = some (.aload 5, 2, 0, 0) := by decide +kernel
theorem f0_811 : gFetch 0 811 = some (.iload 18, 2, 0, 0) := by decide +kernel
theorem f0_813 : gFetch 0 813 = some (.aaload, 1, 0, 0) := by decide +kernel
theorem f0_814 : gFetch 0 814 = some (.bipush 8, 2, 0, 0) := by decide +kernel
theorem f0_816 : gFetch 0 816 = some (.iaload, 1, 0, 0) := by decide +kernel
theorem f0_817 : gFetch 0 817 = some (.iastore, 1, 0, 0) := by decide +kernel
theorem f0_818 : gFetch 0 818 = some (.iinc 18 1, 3, 0, 0) := by decide +kernel
theorem f0_821 : gFetch 0 821 = some (.goto (-87), 3, 734, 0) := by decide +kernel
theorem f0_824 : gFetch 0 824 = some (.aload_n 1, 1, 0, 0) := by decide +kernel
theorem f0_825 : gFetch 0 825 = some (.invokevirtual 224, 3, 34, 1) := by decide +kernel
theorem f0_828 : gFetch 0 828 = some (.iload 17, 2, 0, 0) := by decide +kernel
theorem f0_830 : gFetch 0 830 = some (.if_icmp .ne 37, 3, 867, 0) := by decide +kernel
theorem f0_833 : gFetch 0 833 = some (.aload_n 1, 1, 0, 0) := by decide +kernel
theorem f0_834 : gFetch 0 834 = some (.invokevirtual 213, 3, 61, 1) := by decide +kernel
theorem f0_837 : gFetch 0 837 = some (.ifCond .ne 30, 3, 867, 0) := by decide +kernel
theorem f0_840 : gFetch 0 840 = some (.iload 9, 2, 0, 0) := by decide +kernel
theorem f0_842 : gFetch 0 842 = some (.ifCond .eq 21, 3, 863, 0) := by decide +kernel
theorem f0_845 : gFetch 0 845 = some (.aload_n 1, 1, 0, 0) := by decide +kernel
theorem f0_846 : gFetch 0 846 = some (.iconst 0, 1, 0, 0) := by decide +kernel
theorem f0_847 : gFetch 0 847 = some (.iload 15, 2, 0, 0) := by decide +kernel
theorem f0_849 : gFetch 0 849 = some (.iconst 0, 1, 0, 0) := by decide +kernel
theorem f0_850 : gFetch 0 850 = some (.aload 7, 2, 0, 0) := by decide +kernel
theorem f0_852 : gFetch 0 852 = some (.iconst 0, 1, 0, 0) := by decide +kernel
theorem f0_853 : gFetch 0 853 = some (.iaload, 1, 0, 0) := by decide +kernel
theorem f0_854 : gFetch 0 854 = some (.iconst 0, 1, 0, 0) := by decide +kernel
theorem f0_855 : gFetch 0 855 = some (.invokestatic 159, 3, 8, 6) := by decide +kernel
theorem f0_858 : gFetch 0 858 = some (.ldc 83, 2, 0, 4292967295) := by decide +kernel
theorem f0_860 : gFetch 0 860 = some (.if_icmp .ne 7, 3, 867, 0) := by decide +kernel
theorem f0_863 : gFetch 0 863 = some (.iconst 1, 1, 0, 0) := by decide +kernel
theorem f0_864 : gFetch 0 864 = some (.goto 4, 3, 868, 0) := by decide +kernel
theorem f0_867 : gFetch 0 867 = some (.iconst 0, 1, 0, 0) := by decide +kernel
theorem f0_868 : gFetch 0 868 = some (.istore 4, 2, 0, 0) := by decide +kernel
theorem f0_870 : gFetch 0 870 = some (.iconst 0, 1, 0, 0) := by decide +kernel
theorem f0_871 : gFetch 0 871 = some (.istore 9, 2, 0, 0) := by decide +kernel
theorem f0_873 : gFetch 0 873 = some (.goto 348, 3, 1221, 0) := by decide +kernel
theorem f0_876 : gFetch 0 876 = some (.iload 16, 2, 0, 0) := by decide +kernel
theorem f0_878 : gFetch 0 878 = some (.bipush 22, 2, 0, 0) := by decide +kernel
theorem f0_880 : gFetch 0 880 = some (.if_icmp .ne 165, 3, 1045, 0) := by decide +kernel
theorem f0_883 : gFetch 0 883 = some (.aload_n 1, 1, 0, 0) := by decide +kernel
theorem f0_884 : gFetch 0 884 = some (.bipush 16, 2, 0, 0) := by decide +kernel
theorem f0_886 : gFetch 0 886 = some (.iconst 0, 1, 0, 0) := by decide +kernel
theorem f0_887 : gFetch 0 887 = some (.iconst 0, 1, 0, 0) := by decide +kernel
theorem f0_888 : gFetch 0 888 = some (.iconst 0, 1, 0, 0) := by decide +kernel
theorem f0_889 : gFetch 0 889 = some (.iconst 0, 1, 0, 0) := by decide +kernel
theorem f0_890 : gFetch 0 890 = some (.iconst 0, 1, 0, 0) := by decide +kernel
theorem f0_891 : gFetch 0 891 = some (.invokestatic 162, 3, 2, 7) := by decide +kernel
theorem f0_894 : gFetch 0 894 = some (.istore 17, 2, 0, 0) := by decide +kernel
theorem f0_896 : gFetch 0 896 = some (.iload 17, 2, 0, 0) := by decide +kernel
theorem f0_898 : gFetch 0 898 = some (.iload 11, 2, 0, 0) := by decide +kernel
theorem f0_900 : gFetch 0 900 = some (.iconst 3, 1, 0, 0) := by decide +kernel
theorem f0_901 : gFetch 0 901 = some (.if_icmp .ne 8, 3, 909, 0) := by decide +kernel
theorem f0_904 : gFetch 0 904 = some (.ldc 89, 2, 0, 4292967293) := by decide +kernel
theorem f0_906 : gFetch 0 906 = some (.goto 5, 3, 911, 0) := by decide +kernel
theorem f0_909 : gFetch 0 909 = some (.iload 11, 2, 0, 0) := by decide +kernel
theorem f0_911 : gFetch 0 911 = some (.if_icmp .ne 7, 3, 918, 0) := by decide +kernel
theorem f0_914 : gFetch 0 914 = some (.iconst 1, 1, 0, 0) := by decide +kernel
theorem f0_915 : gFetch 0 915 = some (.goto 4, 3, 919, 0) := by decide +kernel
theorem f0_918 : gFetch 0 918 = some (.iconst 0, 1, 0, 0) := by decide +kernel
theorem f0_919 : gFetch 0 919 = some (.istore 4, 2, 0, 0) := by decide +kernel
theorem f0_921 : gFetch 0 921 = some (.iload 17, 2, 0, 0) := by decide +kernel
theorem f0_923 : gFetch 0 923 = some (.ifCond .lt 119, 3, 1042, 0) := by decide +kernel
theorem f0_926 : gFetch 0 926 = some (.aload 12, 2, 0, 0) := by decide +kernel
theorem f0_928 : gFetch 0 928 = some (.iload 17, 2, 0, 0) := by decide +kernel
theorem f0_930 : gFetch 0 930 = some (.aload 6, 2, 0, 0) := by decide +kernel
theorem f0_932 : gFetch 0 932 = some (.iconst 0, 1, 0, 0) := by decide +kernel
theorem f0_933 : gFetch 0 933 = some (.iaload, 1, 0, 0) := by decide +kernel
theorem f0_934 : gFetch 0 934 = some (.iastore, 1, 0, 0) := by decide +kernel
theorem f0_935 : gFetch 0 935 = some (.iconst 1, 1, 0, 0) := by decide +kernel
theorem f0_936 : gFetch 0 936 = some (.istore 18, 2, 0, 0) := by decide +kernel
theorem f0_938 : gFetch 0 938 = some (.iload 18, 2, 0, 0) := by decide +kernel
theorem f0_940 : gFetch 0 940 = some (.aload 6, 2, 0, 0) := by decide +kernel
theorem f0_942 : gFetch 0 942 = some (.iconst 0, 1, 0, 0) := by decide +kernel
theorem f0_943 : gFetch 0 943 = some (.iaload, 1, 0, 0) := by decide +kernel
theorem f0_944 : gFetch 0 944 = some (.if_icmp .gt 95, 3, 1039, 0) := by decide +kernel
theorem f0_947 : gFetch 0 947 = some (.aload 5, 2, 0, 0) := by decide +kernel
theorem f0_949 : gFetch 0 949 = some (.iload 18, 2, 0, 0) := by decide +kernel
theorem f0_951 : gFetch 0 951 = some (.aaload, 1, 0, 0) := by decide +kernel
theorem f0_952 : gFetch 0 952 = some (.bipush 8, 2, 0, 0) := by decide +kernel
theorem f0_954 : gFetch 0 954 = some (.iaload, 1, 0, 0) := by decide +kernel
theorem f0_955 : gFetch 0 955 = some (.ifCond .ne 31, 3, 986, 0) := by decide +kernel
theorem f0_958 : gFetch 0 958 = some (.aload 5, 2, 0, 0) := by decide +kernel
theorem f0_960 : gFetch 0 960 = some (.iload 18, 2, 0, 0) := by decide +kernel
theorem f0_962 : gFetch 0 962 = some (.aaload, 1, 0, 0) := by decide +kernel
theorem f0_963 : gFetch 0 963 = some (.bipush 6, 2, 0, 0) := by decide +kernel
theorem f0_965 : gFetch 0 965 = some (.iaload, 1, 0, 0) := by decide +kernel
theorem f0_966 : gFetch 0 966 = some (.iconst 1, 1, 0, 0) := by decide +kernel
theorem f0_967 : gFetch 0 967 = some (.if_icmp .eq 15, 3, 982, 0) := by decide +kernel
theorem f0_970 : gFetch 0 970 = some (.aload 5, 2, 0, 0) := by decide +kernel
theorem f0_972 : gFetch 0 972 = some (.iload 18, 2, 0, 0) := by decide +kernel
theorem f0_974 : gFetch 0 974 = some (.aaload, 1, 0, 0) := by decide +kernel
theorem f0_975 : gFetch 0 975 = some (.bipush 7, 2, 0, 0) := by decide +kernel
theorem f0_977 : gFetch 0 977 = some (.iaload, 1, 0, 0) := by decide +kernel
theorem f0_978 : gFetch 0 978 = some (.iconst 1, 1, 0, 0) := by decide +kernel
theorem f0_979 : gFetch 0 979 = some (.if_icmp .ne 7, 3, 986, 0) := by decide +kernel
theorem f0_982 : gFetch 0 982 = some (.iconst 1, 1, 0, 0) := by decide +kernel
theorem f0_983 : gFetch 0 983 = some (.goto 4, 3, 987, 0) := by decide +kernel
theorem f0_986 : gFetch 0 986 = some (.iconst 0, 1, 0, 0) := by decide +kernel
theorem f0_987 : gFetch 0 987 = some (.istore 19, 2, 0, 0) := by decide +kernel
theorem f0_989 : gFetch 0 989 = some (.aload 5, 2, 0, 0) := by decide +kernel
theorem f0_991 : gFetch 0 991 = some (.iload 18, 2, 0, 0) := by decide +kernel
theorem f0_993 : gFetch 0 993 = some (.aaload, 1, 0, 0) := by decide +kernel
theorem f0_994 : gFetch 0 994 = some (.bipush 10, 2, 0, 0) := by decide +kernel
theorem f0_996 : gFetch 0 996 = some (.iconst 3, 1, 0, 0) := by decide +kernel
theorem f0_997 : gFetch 0 997 = some (.iload 17, 2, 0, 0) := by decide +kernel
theorem f0_999 : gFetch 0 999 = some (.imul, 1, 0, 0) := by decide +kernel
theorem f0_1000 : gFetch 0 1000 = some (.iadd, 1, 0, 0) := by decide +kernel
theorem f0_1001 : gFetch 0 1001 = some (.aload 5, 2, 0, 0) := by decide +kernel
theorem f0_1003 : gFetch 0 1003 = some (.iload 18, 2, 0, 0) := by decide +kernel
theorem f0_1005 : gFetch 0 1005 = some (.aaload, 1, 0, 0) := by decide +kernel
theorem f0_1006 : gFetch 0 1006 = some (.bipush 6, 2, 0, 0) := by decide +kernel
theorem f0_1008 : gFetch 0 1008 = some (.iaload, 1, 0, 0) := by decide +kernel
theorem f0_1009 : gFetch 0 1009 = some (.iastore, 1, 0, 0) := by decide +kernel
theorem f0_1010 : gFetch 0 1010 = some (.aload 5, 2, 0, 0) := by decide +kernel
theorem f0_1012 : gFetch 0 1012 = some (.iload 18, 2, 0, 0) := by decide +kernel
theorem f0_1014 : gFetch 0 1014 = some (.aaload, 1, 0, 0) := by decide +kernel
theorem f0_1015 : gFetch 0 1015 = some (.bipush 12, 2, 0, 0) := by decide +kernel
theorem f0_1017 : gFetch 0 1017 = some (.iconst 3, 1, 0, 0) := by decide +kernel
theorem f0_1018 : gFetch 0 1018 = some (.iload 17, 2, 0, 0) := by decide +kernel
theorem f0_1020 : gFetch 0 1020 = some (.imul, 1, 0, 0) := by decide +kernel
theorem f0_1021 : gFetch 0 1021 = some (.iadd, 1, 0, 0) := by decide +kernel
theorem f0_1022 : gFetch 0 1022 = some (.iload 19, 2, 0, 0) := by decide +kernel
theorem f0_1024 : gFetch 0 1024 = some (.ifCond .eq 7, 3, 1031, 0) := by decide +kernel
theorem f0_1027 : gFetch 0 1027 = some (.iconst 0, 1, 0, 0) := by decide +kernel
theorem f0_1028 : gFetch 0 1028 = some (.goto 4, 3, 1032, 0) := by decide +kernel
theorem f0_1031 : gFetch 0 1031 = some (.iconst 1, 1, 0, 0) := by decide +kernel
theorem f0_1032 : gFetch 0 1032 = some (.iastore, 1, 0, 0) := by decide +kernel
theorem f0_1033 : gFetch 0 1033 = some (.iinc 18 1, 3, 0, 0) := by decide +kernel
theorem f0_1036 : gFetch 0 1036 = some (.goto (-98), 3, 938, 0) := by decide +kernel
theorem f0_1039 : gFetch 0 1039 = some (.iinc 11 1, 3, 0, 0) := by decide +kernel
theorem f0_1042 : gFetch 0 1042 = some (.goto 179, 3, 1221, 0) := by decide +kernel
theorem f0_1045 : gFetch 0 1045 = some (.iload 16, 2, 0, 0) := by decide +kernel
theorem f0_1047 : gFetch 0 1047 = some (.bipush 23, 2, 0, 0) := by decide +kernel
theorem f0_1049 : gFetch 0 1049 = some (.if_icmp .ne 172, 3, 1221, 0) := by decide +kernel
theorem f0_1052 : gFetch 0 1052 = some (.iload 11, 2, 0, 0) := by decide +kernel
theorem f0_1054 : gFetch 0 1054 = some (.ifCond .le 167, 3, 1221, 0) := by decide +kernel
theorem f0_1057 : gFetch 0 1057 = some (.aload_n 0, 1, 0, 0) := by decide +kernel
theorem f0_1058 : gFetch 0 1058 = some (.iload 14, 2, 0, 0) := by decide +kernel
theorem f0_1060 : gFetch 0 1060 = some (.iload 11, 2, 0, 0) := by decide +kernel
theorem f0_1062 : gFetch 0 1062 = some (.invokestatic 155, 3, 1, 3) := by decide +kernel
theorem f0_1065 : gFetch 0 1065 = some (.istore 17, 2, 0, 0) := by decide +kernel
theorem f0_1067 : gFetch 0 1067 = some (.aload_n 1, 1, 0, 0) := by decide +kernel
theorem f0_1068 : gFetch 0 1068 = some (.bipush 17, 2, 0, 0) := by decide +kernel
theorem f0_1070 : gFetch 0 1070 = some (.iload 17, 2, 0, 0) := by decide +kernel
theorem f0_1072 : gFetch 0 1072 = some (.iconst 0, 1, 0, 0) := by decide +kernel
theorem f0_1073 : gFetch 0 1073 = some (.iconst 0, 1, 0, 0) := by decide +kernel
theorem f0_1074 : gFetch 0 1074 = some (.iconst 0, 1, 0, 0) := by decide +kernel
theorem f0_1075 : gFetch 0 1075 = some (.iconst 0, 1, 0, 0) := by decide +kernel
theorem f0_1076 : gFetch 0 1076 = some (.invokestatic 162, 3, 2, 7) := by decide +kernel
theorem f0_1079 : gFetch 0 1079 = some (.ifCond .lt 39, 3, 1118, 0) := by decide +kernel
theorem f0_1082 : gFetch 0 1082 = some (.aload_n 1, 1, 0, 0) := by decide +kernel
theorem f0_1083 : gFetch 0 1083 = some (.bipush 17, 2, 0, 0) := by decide +kernel
theorem f0_1085 : gFetch 0 1085 = some (.iload 11, 2, 0, 0) := by decide +kernel
theorem f0_1087 : gFetch 0 1087 = some (.iconst 0, 1, 0, 0) := by decide +kernel
theorem f0_1088 : gFetch 0 1088 = some (.iconst 0, 1, 0, 0) := by decide +kernel
theorem f0_1089 : gFetch 0 1089 = some (.iconst 0, 1, 0, 0) := by decide +kernel
theorem f0_1090 : gFetch 0 1090 = some (.iconst 0, 1, 0, 0) := by decide +kernel
theorem f0_1091 : gFetch 0 1091 = some (.invokestatic 162, 3, 2, 7) := by decide +kernel
theorem f0_1094 : gFetch 0 1094 = some (.ldc 83, 2, 0, 4292967295) := by decide +kernel
theorem f0_1096 : gFetch 0 1096 = some (.if_icmp .ne 22, 3, 1118, 0) := by decide +kernel
theorem f0_1099 : gFetch 0 1099 = some (.aload_n 1, 1, 0, 0) := by decide +kernel
theorem f0_1100 : gFetch 0 1100 = some (.bipush 11, 2, 0, 0) := by decide +kernel
theorem f0_1102 : gFetch 0 1102 = some (.iload 17, 2, 0, 0) := by decide +kernel
theorem f0_1104 : gFetch 0 1104 = some (.iload 17, 2, 0, 0) := by decide +kernel
theorem f0_1106 : gFetch 0 1106 = some (.iconst 0, 1, 0, 0) := by decide +kernel
theorem f0_1107 : gFetch 0 1107 = some (.iconst 0, 1, 0, 0) := by decide +kernel
theorem f0_1108 : gFetch 0 1108 = some (.invokestatic 159, 3, 8, 6) := by decide +kernel
theorem f0_1111 : gFetch 0 1111 = some (.ifCond .lt 7, 3, 1118, 0) := by decide +kernel
theorem f0_1114 : gFetch 0 1114 = some (.iconst 1, 1, 0, 0) := by decide +kernel
theorem f0_1115 : gFetch 0 1115 = some (.goto 4, 3, 1119, 0) := by decide +kernel
theorem f0_1118 : gFetch 0 1118 = some (.iconst 0, 1, 0, 0) := by decide +kernel
theorem f0_1119 : gFetch 0 1119 = some (.istore 4, 2, 0, 0) := by decide +kernel
theorem f0_1121 : gFetch 0 1121 = some (.iconst 1, 1, 0, 0) := by decide +kernel
theorem f0_1122 : gFetch 0 1122 = some (.istore 18, 2, 0, 0) := by decide +kernel
theorem f0_1124 : gFetch 0 1124 = some (.iload 18, 2, 0, 0) := by decide +kernel
theorem f0_1126 : gFetch 0 1126 = some (.aload 6, 2, 0, 0) := by decide +kernel
theorem f0_1128 : gFetch 0 1128 = some (.iconst 0, 1, 0, 0) := by decide +kernel
theorem f0_1129 : gFetch 0 1129 = some (.iaload, 1, 0, 0) := by decide +kernel
theorem f0_1130 : gFetch 0 1130 = some (.if_icmp .gt 88, 3, 1218, 0) := by decide +kernel
theorem f0_1133 : gFetch 0 1133 = some (.aload 5, 2, 0, 0) := by decide +kernel
theorem f0_1135 : gFetch 0 1135 = some (.iload 18, 2, 0, 0) := by decide +kernel
theorem f0_1137 : gFetch 0 1137 = some (.aaload, 1, 0, 0) := by decide +kernel
theorem f0_1138 : gFetch 0 1138 = some (.bipush 8, 2, 0, 0) := by decide +kernel
theorem f0_1140 : gFetch 0 1140 = some (.iload 18, 2, 0, 0) := by decide +kernel
theorem f0_1142 : gFetch 0 1142 = some (.aload 12, 2, 0, 0) := by decide +kernel
theorem f0_1144 : gFetch 0 1144 = some (.iload 17, 2, 0, 0) := by decide +kernel
theorem f0_1146 : gFetch 0 1146 = some (.iaload, 1, 0, 0) := by decide +kernel
theorem f0_1147 : gFetch 0 1147 = some (.if_icmp .le 7, 3, 1154, 0) := by decide +kernel
theorem f0_1150 : gFetch 0 1150 = some (.iconst 1, 1, 0, 0) := by decide +kernel
theorem f0_1151 : gFetch 0 1151 = some (.goto 16, 3, 1167, 0) := by decide +kernel
theorem f0_1154 : gFetch 0 1154 = some (.aload 5, 2, 0, 0) := by decide +kernel
theorem f0_1156 : gFetch 0 1156 = some (.iload 18, 2, 0, 0) := by decide +kernel
theorem f0_1158 : gFetch 0 1158 = some (.aaload, 1, 0, 0) := by decide +kernel
theorem f0_1159 : gFetch 0 1159 = some (.bipush 12, 2, 0, 0) := by decide +kernel
theorem f0_1161 : gFetch 0 1161 = some (.iconst 3, 1, 0, 0) := by decide +kernel
theorem f0_1162 : gFetch 0 1162 = some (.iload 17, 2, 0, 0) := by decide +kernel
theorem f0_1164 : gFetch 0 1164 = some (.imul, 1, 0, 0) := by decide +kernel
theorem f0_1165 : gFetch 0 1165 = some (.iadd, 1, 0, 0) := by decide +kernel
theorem f0_1166 : gFetch 0 1166 = some (.iaload, 1, 0, 0) := by decide +kernel
theorem f0_1167 : gFetch 0 1167 = some (.iastore, 1, 0, 0) := by decide +kernel
theorem f0_1168 : gFetch 0 1168 = some (.aload 5, 2, 0, 0) := by decide +kernel
theorem f0_1170 : gFetch 0 1170 = some (.iload 18, 2, 0, 0) := by decide +kernel
theorem f0_1172 : gFetch 0 1172 = some (.aaload, 1, 0, 0) := by decide +kernel
theorem f0_1173 : gFetch 0 1173 = some (.bipush 6, 2, 0, 0) := by decide +kernel
theorem f0_1175 : gFetch 0 1175 = some (.iload 18, 2, 0, 0) := by decide +kernel
theorem f0_1177 : gFetch 0 1177 = some (.aload 12, 2, 0, 0) := by decide +kernel
theorem f0_1179 : gFetch 0 1179 = some (.iload 17, 2, 0, 0) := by decide +kernel
theorem f0_1181 : gFetch 0 1181 = some (.iaload, 1, 0, 0) := by decide +kernel
theorem f0_1182 : gFetch 0 1182 = some (.if_icmp .le 7, 3, 1189, 0) := by decide +kernel
theorem f0_1185 : gFetch 0 1185 = some (.iconst 1, 1, 0, 0) := by decide +kernel
theorem f0_1186 : gFetch 0 1186 = some (.goto 16, 3, 1202, 0) := by decide +kernel
theorem f0_1189 : gFetch 0 1189 = some (.aload 5, 2, 0, 0) := by decide +kernel
theorem f0_1191 : gFetch 0 1191 = some (.iload 18, 2, 0, 0) := by decide +kernel
theorem f0_1193 : gFetch 0 1193 = some (.aaload, 1, 0, 0) := by decide +kernel
theorem f0_1194 : gFetch 0 1194 = some (.bipush 10, 2, 0, 0) := by decide +kernel
theorem f0_1196 : gFetch 0 1196 = some (.iconst 3, 1, 0, 0) := by decide +kernel
theorem f0_1197 : gFetch 0 1197 = some (.iload 17, 2, 0, 0) := by decide +kernel
theorem f0_1199 : gFetch 0 1199 = some (.imul, 1, 0, 0) := by decide +kernel
theorem f0_1200 : gFetch 0 1200 = some (.iadd, 1, 0, 0) := by decide +kernel
theorem f0_1201 : gFetch 0 1201 = some (.iaload, 1, 0, 0) := by decide +kernel
theorem f0_1202 : gFetch 0 1202 = some (.iastore, 1, 0, 0) := by decide +kernel
theorem f0_1203 : gFetch 0 1203 = some (.aload 5, 2, 0, 0) := by decide +kernel
theorem f0_1205 : gFetch 0 1205 = some (.iload 18, 2, 0, 0) := by decide +kernel
theorem f0_1207 : gFetch 0 1207 = some (.aaload, 1, 0, 0) := by decide +kernel
theorem f0_1208 : gFetch 0 1208 = some (.bipush 7, 2, 0, 0) := by decide +kernel
theorem f0_1210 : gFetch 0 1210 = some (.iconst 1, 1, 0, 0) := by decide +kernel
theorem f0_1211 : gFetch 0 1211 = some (.iastore, 1, 0, 0) := by decide +kernel
theorem f0_1212 : gFetch 0 1212 = some (.iinc 18 1, 3, 0, 0) := by decide +kernel
theorem f0_1215 : gFetch 0 1215 = some (.goto (-91), 3, 1124, 0) := by decide +kernel
theorem f0_1218 : gFetch 0 1218 = some (.iconst 0, 1, 0, 0) := by decide +kernel
theorem f0_1219 : gFetch 0 1219 = some (.istore 9, 2, 0, 0) := by decide +kernel
theorem f0_1221 : gFetch 0 1221 = some (.aload_n 0, 1, 0, 0) := by decide +kernel
theorem f0_1222 : gFetch 0 1222 = some (.iload 14, 2, 0, 0) := by decide +kernel
theorem f0_1224 : gFetch 0 1224 = some (.iconst 2, 1, 0, 0) := by decide +kernel
theorem f0_1225 : gFetch 0 1225 = some (.iadd, 1, 0, 0) := by decide +kernel
theorem f0_1226 : gFetch 0 1226 = some (.bipush 22, 2, 0, 0) := by decide +kernel
theorem f0_1228 : gFetch 0 1228 = some (.invokestatic 155, 3, 1, 3) := by decide +kernel
theorem f0_1231 : gFetch 0 1231 = some (.istore 17, 2, 0, 0) := by decide +kernel
theorem f0_1233 : gFetch 0 1233 = some (.aload 5, 2, 0, 0) := by decide +kernel
theorem f0_1235 : gFetch 0 1235 = some (.aload_n 3, 1, 0, 0) := by decide +kernel
theorem f0_1236 : gFetch 0 1236 = some (.iload 15, 2, 0, 0) := by decide +kernel
theorem f0_1238 : gFetch 0 1238 = some (.iload 17, 2, 0, 0) := by decide +kernel
theorem f0_1240 : gFetch 0 1240 = some (.aload 6, 2, 0, 0) := by decide +kernel
theorem f0_1242 : gFetch 0 1242 = some (.iconst 0, 1, 0, 0) := by decide +kernel
theorem f0_1243 : gFetch 0 1243 = some (.iaload, 1, 0, 0) := by decide +kernel
theorem f0_1244 : gFetch 0 1244 = some (.invokestatic 195, 3, 9, 5) := by decide +kernel
theorem f0_1247 : gFetch 0 1247 = some (.istore 18, 2, 0, 0) := by decide +kernel
theorem f0_1249 : gFetch 0 1249 = some (.iload 4, 2, 0, 0) := by decide +kernel
theorem f0_1251 : gFetch 0 1251 = some (.ifCond .eq 80, 3, 1331, 0) := by decide +kernel
theorem f0_1254 : gFetch 0 1254 = some (.aload_n 1, 1, 0, 0) := by decide +kernel
theorem f0_1255 : gFetch 0 1255 = some (.iconst 0, 1, 0, 0) := by decide +kernel
theorem f0_1256 : gFetch 0 1256 = some (.iload 15, 2, 0, 0) := by decide +kernel
theorem f0_1258 : gFetch 0 1258 = some (.iload 17, 2, 0, 0) := by decide +kernel
theorem f0_1260 : gFetch 0 1260 = some (.iconst (-1), 1, 0, 0) := by decide +kernel
theorem f0_1261 : gFetch 0 1261 = some (.iconst 0, 1, 0, 0) := by decide +kernel
theorem f0_1262 : gFetch 0 1262 = some (.invokestatic 159, 3, 8, 6) := by decide +kernel
theorem f0_1265 : gFetch 0 1265 = some (.iload 18, 2, 0, 0) := by decide +kernel
theorem f0_1267 : gFetch 0 1267 = some (.if_icmp .ne 64, 3, 1331, 0) := by decide +kernel
theorem f0_1270 : gFetch 0 1270 = some (.aload_n 1, 1, 0, 0) := by decide +kernel
theorem f0_1271 : gFetch 0 1271 = some (.iconst 1, 1, 0, 0) := by decide +kernel
theorem f0_1272 : gFetch 0 1272 = some (.iload 15, 2, 0, 0) := by decide +kernel
theorem f0_1274 : gFetch 0 1274 = some (.iload 17, 2, 0, 0) := by decide +kernel
theorem f0_1276 : gFetch 0 1276 = some (.iconst (-1), 1, 0, 0) := by decide +kernel
theorem f0_1277 : gFetch 0 1277 = some (.iconst 0, 1, 0, 0) := by decide +kernel
theorem f0_1278 : gFetch 0 1278 = some (.invokestatic 159, 3, 8, 6) := by decide +kernel
theorem f0_1281 : gFetch 0 1281 = some (.iload 18, 2, 0, 0) := by decide +kernel
theorem f0_1283 : gFetch 0 1283 = some (.if_icmp .ne 48, 3, 1331, 0) := by decide +kernel
theorem f0_1286 : gFetch 0 1286 = some (.aload_n 1, 1, 0, 0) := by decide +kernel
theorem f0_1287 : gFetch 0 1287 = some (.iconst 3, 1, 0, 0) := by decide +kernel
theorem f0_1288 : gFetch 0 1288 = some (.iload 15, 2, 0, 0) := by decide +kernel
theorem f0_1290 : gFetch 0 1290 = some (.iconst 0, 1, 0, 0) := by decide +kernel
theorem f0_1291 : gFetch 0 1291 = some (.iconst 0, 1, 0, 0) := by decide +kernel
theorem f0_1292 : gFetch 0 1292 = some (.iconst 0, 1, 0, 0) := by decide +kernel
theorem f0_1293 : gFetch 0 1293 = some (.invokestatic 159, 3, 8, 6) := by decide +kernel
theorem f0_1296 : gFetch 0 1296 = some (.aload 5, 2, 0, 0) := by decide +kernel
theorem f0_1298 : gFetch 0 1298 = some (.aload 6, 2, 0, 0) := by decide +kernel
theorem f0_1300 : gFetch 0 1300 = some (.iconst 0, 1, 0, 0) := by decide +kernel
theorem f0_1301 : gFetch 0 1301 = some (.iaload, 1, 0, 0) := by decide +kernel
theorem f0_1302 : gFetch 0 1302 = some (.iload 15, 2, 0, 0) := by decide +kernel
theorem f0_1304 : gFetch 0 1304 = some (.invokestatic 169, 3, 4, 3) := by decide +kernel
theorem f0_1307 : gFetch 0 1307 = some (.if_icmp .ne 24, 3, 1331, 0) := by decide +kernel
theorem f0_1310 : gFetch 0 1310 = some (.aload_n 1, 1, 0, 0) := by decide +kernel
theorem f0_1311 : gFetch 0 1311 = some (.invokevirtual 227, 3, 70, 1) := by decide +kernel
theorem f0_1314 : gFetch 0 1314 = some (.aload 5, 2, 0, 0) := by decide +kernel
theorem f0_1316 : gFetch 0 1316 = some (.aload 6, 2, 0, 0) := by decide +kernel
theorem f0_1318 : gFetch 0 1318 = some (.iconst 0, 1, 0, 0) := by decide +kernel
theorem f0_1319 : gFetch 0 1319 = some (.iaload, 1, 0, 0) := by decide +kernel
theorem f0_1320 : gFetch 0 1320 = some (.iconst 0, 1, 0, 0) := by decide +kernel
theorem f0_1321 : gFetch 0 1321 = some (.invokestatic 217, 3, 6, 3) := by decide +kernel
theorem f0_1324 : gFetch 0 1324 = some (.if_icmp .ne 7, 3, 1331, 0) := by decide +kernel
theorem f0_1327 : gFetch 0 1327 = some (.iconst 1, 1, 0, 0) := by decide +kernel
theorem f0_1328 : gFetch 0 1328 = some (.goto 4, 3, 1332, 0) := by decide +kernel
theorem f0_1331 : gFetch 0 1331 = some (.iconst 0, 1, 0, 0) := by decide +kernel
theorem f0_1332 : gFetch 0 1332 = some (.istore 4, 2, 0, 0) := by decide +kernel
theorem f0_1334 : gFetch 0 1334 = some (.iconst 0, 1, 0, 0) := by decide +kernel
theorem f0_1335 : gFetch 0 1335 = some (.istore 19, 2, 0, 0) := by decide +kernel
theorem f0_1337 : gFetch 0 1337 = some (.iload 19, 2, 0, 0) := by decide +kernel
theorem f0_1339 : gFetch 0 1339 = some (.iload 9, 2, 0, 0) := by decide +kernel
theorem f0_1341 : gFetch 0 1341 = some (.if_icmp .ge 78, 3, 1419, 0) := by decide +kernel
theorem f0_1344 : gFetch 0 1344 = some (.iload 4, 2, 0, 0) := by decide +kernel
theorem f0_1346 : gFetch 0 1346 = some (.ifCond .eq 73, 3, 1419, 0) := by decide +kernel
theorem f0_1349 : gFetch 0 1349 = some (.aload 5, 2, 0, 0) := by decide +kernel
theorem f0_1351 : gFetch 0 1351 = some (.aload_n 3, 1, 0, 0) := by decide +kernel
theorem f0_1352 : gFetch 0 1352 = some (.iload 15, 2, 0, 0) := by decide +kernel
theorem f0_1354 : gFetch 0 1354 = some (.iload 17, 2, 0, 0) := by decide +kernel
theorem f0_1356 : gFetch 0 1356 = some (.aload 8, 2, 0, 0) := by decide +kernel
theorem f0_1358 : gFetch 0 1358 = some (.iload 19, 2, 0, 0) := by decide +kernel
theorem f0_1360 : gFetch 0 1360 = some (.iaload, 1, 0, 0) := by decide +kernel
theorem f0_1361 : gFetch 0 1361 = some (.invokestatic 195, 3, 9, 5) := by decide +kernel
theorem f0_1364 : gFetch 0 1364 = some (.istore 20, 2, 0, 0) := by decide +kernel
theorem f0_1366 : gFetch 0 1366 = some (.aload_n 1, 1, 0, 0) := by decide +kernel
theorem f0_1367 : gFetch 0 1367 = some (.iconst 0, 1, 0, 0) := by decide +kernel
theorem f0_1368 : gFetch 0 1368 = some (.iload 15, 2, 0, 0) := by decide +kernel
theorem f0_1370 : gFetch 0 1370 = some (.iload 17, 2, 0, 0) := by decide +kernel
theorem f0_1372 : gFetch 0 1372 = some (.aload 7, 2, 0, 0) := by decide +kernel
theorem f0_1374 : gFetch 0 1374 = some (.iload 19, 2, 0, 0) := by decide +kernel
theorem f0_1376 : gFetch 0 1376 = some (.iaload, 1, 0, 0) := by decide +kernel
theorem f0_1377 : gFetch 0 1377 = some (.iconst 0, 1, 0, 0) := by decide +kernel
theorem f0_1378 : gFetch 0 1378 = some (.invokestatic 159, 3, 8, 6) := by decide +kernel
theorem f0_1381 : gFetch 0 1381 = some (.iload 20, 2, 0, 0) := by decide +kernel
theorem f0_1383 : gFetch 0 1383 = some (.if_icmp .ne 27, 3, 1410, 0) := by decide +kernel
theorem f0_1386 : gFetch 0 1386 = some (.aload_n 1, 1, 0, 0) := by decide +kernel
theorem f0_1387 : gFetch 0 1387 = some (.iconst 1, 1, 0, 0) := by decide +kernel
theorem f0_1388 : gFetch 0 1388 = some (.iload 15, 2, 0, 0) := by decide +kernel
theorem f0_1390 : gFetch 0 1390 = some (.iload 17, 2, 0, 0) := by decide +kernel
theorem f0_1392 : gFetch 0 1392 = some (.aload 7, 2, 0, 0) := by decide +kernel
theorem f0_1394 : gFetch 0 1394 = some (.iload 19, 2, 0, 0) := by decide +kernel
theorem f0_1396 : gFetch 0 1396 = some (.iaload, 1, 0, 0) := by decide +kernel
theorem f0_1397 : gFetch 0 1397 = some (.iconst 0, 1, 0, 0) := by decide +kernel
theorem f0_1398 : gFetch 0 1398 = some (.invokestatic 159, 3, 8, 6) := by decide +kernel
theorem f0_1401 : gFetch 0 1401 = some (.iload 20, 2, 0, 0) := by decide +kernel
theorem f0_1403 : gFetch 0 1403 = some (.if_icmp .ne 7, 3, 1410, 0) := by decide +kernel
theorem f0_1406 : gFetch 0 1406 = some (.iconst 1, 1, 0, 0) := by decide +kernel
theorem f0_1407 : gFetch 0 1407 = some (.goto 4, 3, 1411, 0) := by decide +kernel
theorem f0_1410 : gFetch 0 1410 = some (.iconst 0, 1, 0, 0) := by decide +kernel
theorem f0_1411 : gFetch 0 1411 = some (.istore 4, 2, 0, 0) := by decide +kernel
theorem f0_1413 : gFetch 0 1413 = some (.iinc 19 1, 3, 0, 0) := by decide +kernel
theorem f0_1416 : gFetch 0 1416 = some (.goto (-79), 3, 1337, 0) := by decide +kernel
theorem f0_1419 : gFetch 0 1419 = some (.iload 4, 2, 0, 0) := by decide +kernel
theorem f0_1421 : gFetch 0 1421 = some (.ifCond .eq 68, 3, 1489, 0) := by decide +kernel
theorem f0_1424 : gFetch 0 1424 = some (.iload 13, 2, 0, 0) := by decide +kernel
theorem f0_1426 : gFetch 0 1426 = some (.bipush 20, 2, 0, 0) := by decide +kernel
theorem f0_1428 : gFetch 0 1428 = some (.irem, 1, 0, 0) := by decide +kernel
theorem f0_1429 : gFetch 0 1429 = some (.bipush 19, 2, 0, 0) := by decide +kernel
theorem f0_1431 : gFetch 0 1431 = some (.if_icmp .ne 54, 3, 1485, 0) := by decide +kernel
theorem f0_1434 : gFetch 0 1434 = some (.aload_n 1, 1, 0, 0) := by decide +kernel
theorem f0_1435 : gFetch 0 1435 = some (.iload 15, 2, 0, 0) := by decide +kernel
theorem f0_1437 : gFetch 0 1437 = some (.invokestatic 230, 3, 10, 2) := by decide +kernel
theorem f0_1440 : gFetch 0 1440 = some (.ifCond .eq 49, 3, 1489, 0) := by decide +kernel
theorem f0_1443 : gFetch 0 1443 = some (.aload_n 1, 1, 0, 0) := by decide +kernel
theorem f0_1444 : gFetch 0 1444 = some (.aload 5, 2, 0, 0) := by decide +kernel
theorem f0_1446 : gFetch 0 1446 = some (.aload_n 3, 1, 0, 0) := by decide +kernel
theorem f0_1447 : gFetch 0 1447 = some (.iload 15, 2, 0, 0) := by decide +kernel
theorem f0_1449 : gFetch 0 1449 = some (.iconst (-1), 1, 0, 0) := by decide +kernel
theorem f0_1450 : gFetch 0 1450 = some (.aload 6, 2, 0, 0) := by decide +kernel
theorem f0_1452 : gFetch 0 1452 = some (.iconst 0, 1, 0, 0) := by decide +kernel
theorem f0_1453 : gFetch 0 1453 = some (.iaload, 1, 0, 0) := by decide +kernel
theorem f0_1454 : gFetch 0 1454 = some (.invokestatic 234, 3, 11, 6) := by decide +kernel
theorem f0_1457 : gFetch 0 1457 = some (.ifCond .eq 32, 3, 1489, 0) := by decide +kernel
theorem f0_1460 : gFetch 0 1460 = some (.iload 9, 2, 0, 0) := by decide +kernel
theorem f0_1462 : gFetch 0 1462 = some (.ifCond .eq 23, 3, 1485, 0) := by decide +kernel
theorem f0_1465 : gFetch 0 1465 = some (.aload_n 1, 1, 0, 0) := by decide +kernel
theorem f0_1466 : gFetch 0 1466 = some (.aload 5, 2, 0, 0) := by decide +kernel
theorem f0_1468 : gFetch 0 1468 = some (.aload_n 3, 1, 0, 0) := by decide +kernel
theorem f0_1469 : gFetch 0 1469 = some (.iload 15, 2, 0, 0) := by decide +kernel
theorem f0_1471 : gFetch 0 1471 = some (.aload 7, 2, 0, 0) := by decide +kernel
theorem f0_1473 : gFetch 0 1473 = some (.iconst 0, 1, 0, 0) := by decide +kernel
theorem f0_1474 : gFetch 0 1474 = some (.iaload, 1, 0, 0) := by decide +kernel
theorem f0_1475 : gFetch 0 1475 = some (.aload 8, 2, 0, 0) := by decide +kernel
theorem f0_1477 : gFetch 0 1477 = some (.iconst 0, 1, 0, 0) := by decide +kernel
theorem f0_1478 : gFetch 0 1478 = some (.iaload, 1, 0, 0) := by decide +kernel
theorem f0_1479 : gFetch 0 1479 = some (.invokestatic 234, 3, 11, 6) := by decide +kernel
theorem f0_1482 : gFetch 0 1482 = some (.ifCond .eq 7, 3, 1489, 0) := by decide +kernel
theorem f0_1485 : gFetch 0 1485 = some (.iconst 1, 1, 0, 0) := by decide +kernel
theorem f0_1486 : gFetch 0 1486 = some (.goto 4, 3, 1490, 0) := by decide +kernel
theorem f0_1489 : gFetch 0 1489 = some (.iconst 0, 1, 0, 0) := by decide +kernel
theorem f0_1490 : gFetch 0 1490 = some (.istore 4, 2, 0, 0) := by decide +kernel
theorem f0_1492 : gFetch 0 1492 = some (.iinc 13 1, 3, 0, 0) := by decide +kernel
theorem f0_1495 : gFetch 0 1495 = some (.goto (-1366), 3, 129, 0) := by decide +kernel
theorem f0_1498 : gFetch 0 1498 = some (.iload 4, 2, 0, 0) := by decide +kernel
theorem f0_1500 : gFetch 0 1500 = some (.ifCond .eq 36, 3, 1536, 0) := by decide +kernel
theorem f0_1503 : gFetch 0 1503 = some (.aload_n 1, 1, 0, 0) := by decide +kernel
theorem f0_1504 : gFetch 0 1504 = some (.invokevirtual 238, 3, 62, 1) := by decide +kernel
theorem f0_1507 : gFetch 0 1507 = some (.ifCond .eq 29, 3, 1536, 0) := by decide +kernel
theorem f0_1510 : gFetch 0 1510 = some (.aload_n 1, 1, 0, 0) := by decide +kernel
theorem f0_1511 : gFetch 0 1511 = some (.invokevirtual 241, 3, 46, 1) := by decide +kernel
theorem f0_1514 : gFetch 0 1514 = some (.aload_n 1, 1, 0, 0) := by decide +kernel
theorem f0_1515 : gFetch 0 1515 = some (.invokevirtual 244, 3, 22, 1) := by decide +kernel
theorem f0_1518 : gFetch 0 1518 = some (.if_icmp .gt 18, 3, 1536, 0) := by decide +kernel
theorem f0_1521 : gFetch 0 1521 = some (.aload_n 1, 1, 0, 0) := by decide +kernel
theorem f0_1522 : gFetch 0 1522 = some (.invokevirtual 241, 3, 46, 1) := by decide +kernel
theorem f0_1525 : gFetch 0 1525 = some (.aload_n 1, 1, 0, 0) := by decide +kernel
theorem f0_1526 : gFetch 0 1526 = some (.invokevirtual 246, 3, 26, 1) := by decide +kernel
theorem f0_1529 : gFetch 0 1529 = some (.if_icmp .gt 7, 3, 1536, 0) := by decide +kernel
theorem f0_1532 : gFetch 0 1532 = some (.iconst 1, 1, 0, 0) := by decide +kernel
theorem f0_1533 : gFetch 0 1533 = some (.goto 4, 3, 1537, 0) := by decide +kernel
theorem f0_1536 : gFetch 0 1536 = some (.iconst 0, 1, 0, 0) := by decide +kernel
theorem f0_1537 : gFetch 0 1537 = some (.ireturn, 1, 0, 0) := by decide +kernel
theorem f1_0 : gFetch 1 0 = some (.aload_n 0, 1, 0, 0) := rfl
theorem f1_1 : gFetch 1 1 = some (.iload_n 1, 1, 0, 0) := rfl
theorem f1_2 : gFetch 1 2 = some (.invokestatic 9, 3, 12, 2) := rfl
theorem f1_5 : gFetch 1 5 = some (.bipush 8, 2, 0, 0) := rfl
theorem f1_7 : gFetch 1 7 = some (.iushr, 1, 0, 0) := rfl
theorem f1_8 : gFetch 1 8 = some (.iload_n 2, 1, 0, 0) := rfl
theorem f1_9 : gFetch 1 9 = some (.irem, 1, 0, 0) := rfl
theorem f1_10 : gFetch 1 10 = some (.ireturn, 1, 0, 0) := rfl
theorem f2_0 : gFetch 2 0 = some (.aload_n 0, 1, 0, 0) := rfl
theorem f2_1 : gFetch 2 1 = some (.iload_n 1, 1, 0, 0) := rfl
theorem f2_2 : gFetch 2 2 = some (.iload_n 2, 1, 0, 0) := rfl
theorem f2_3 : gFetch 2 3 = some (.iload_n 3, 1, 0, 0) := rfl
theorem f2_4 : gFetch 2 4 = some (.iload 4, 2, 0, 0) := rfl
theorem f2_6 : gFetch 2 6 = some (.iload 5, 2, 0, 0) := rfl
theorem f2_8 : gFetch 2 8 = some (.iload 6, 2, 0, 0) := rfl
theorem f2_10 : gFetch 2 10 = some (.invokestatic 77, 3, 13, 7) := rfl
theorem f2_13 : gFetch 2 13 = some (.ireturn, 1, 0, 0) := rfl
theorem f2_14 : gFetch 2 14 = some (.astore 7, 2, 0, 0) := rfl
theorem f2_16 : gFetch 2 16 = some (.ldc 83, 2, 0, 4292967295) := rfl
theorem f2_18 : gFetch 2 18 = some (.ireturn, 1, 0, 0) := rfl
theorem f2_19 : gFetch 2 19 = some (.astore 7, 2, 0, 0) := rfl
theorem f2_21 : gFetch 2 21 = some (.ldc 86, 2, 0, 4292967294) := rfl
theorem f2_23 : gFetch 2 23 = some (.ireturn, 1, 0, 0) := rfl
theorem f2_24 : gFetch 2 24 = some (.astore 7, 2, 0, 0) := rfl
theorem f2_26 : gFetch 2 26 = some (.ldc 89, 2, 0, 4292967293) := rfl
theorem f2_28 : gFetch 2 28 = some (.ireturn, 1, 0, 0) := rfl
theorem f2_29 : gFetch 2 29 = some (.astore 7, 2, 0, 0) := rfl
theorem f2_31 : gFetch 2 31 = some (.ldc 92, 2, 0, 4292967291) := rfl
theorem f2_33 : gFetch 2 33 = some (.ireturn, 1, 0, 0) := rfl
theorem f3_0 : gFetch 3 0 = some (.aload_n 1, 1, 0, 0) := by decide +kernel
theorem f3_1 : gFetch 3 1 = some (.iload_n 2, 1, 0, 0) := by decide +kernel
theorem f3_2 : gFetch 3 2 = some (.bipush 12, 2, 0, 0) := by decide +kernel
theorem f3_4 : gFetch 3 4 = some (.invokestatic 155, 3, 1, 3) := by decide +kernel
theorem f3_7 : gFetch 3 7 = some (.istore 6, 2, 0, 0) := by decide +kernel
theorem f3_9 : gFetch 3 9 = some (.aload_n 1, 1, 0, 0) := by decide +kernel
theorem f3_10 : gFetch 3 10 = some (.iload_n 2, 1, 0, 0) := by decide +kernel
theorem f3_11 : gFetch 3 11 = some (.iconst 1, 1, 0, 0) := by decide +kernel
theorem f3_12 : gFetch 3 12 = some (.iadd, 1, 0, 0) := by decide +kernel
theorem f3_13 : gFetch 3 13 = some (.bipush 12, 2, 0, 0) := by decide +kernel
theorem f3_15 : gFetch 3 15 = some (.invokestatic 155, 3, 1, 3) := by decide +kernel
theorem f3_18 : gFetch 3 18 = some (.istore 7, 2, 0, 0) := by decide +kernel
theorem f3_20 : gFetch 3 20 = some (.aload_n 1, 1, 0, 0) := by decide +kernel
theorem f3_21 : gFetch 3 21 = some (.iload_n 2, 1, 0, 0) := by decide +kernel
theorem f3_22 : gFetch 3 22 = some (.iconst 2, 1, 0, 0) := by decide +kernel
theorem f3_23 : gFetch 3 23 = some (.iadd, 1, 0, 0) := by decide +kernel
theorem f3_24 : gFetch 3 24 = some (.bipush 9, 2, 0, 0) := by decide +kernel
theorem f3_26 : gFetch 3 26 = some (.invokestatic 155, 3, 1, 3) := by decide +kernel
theorem f3_29 : gFetch 3 29 = some (.iconst 4, 1, 0, 0) := by decide +kernel
theorem f3_30 : gFetch 3 30 = some (.isub, 1, 0, 0) := by decide +kernel
theorem f3_31 : gFetch 3 31 = some (.istore 8, 2, 0, 0) := by decide +kernel
theorem f3_33 : gFetch 3 33 = some (.aload_n 0, 1, 0, 0) := by decide +kernel
theorem f3_34 : gFetch 3 34 = some (.iconst 4, 1, 0, 0) := by decide +kernel
theorem f3_35 : gFetch 3 35 = some (.iload 5, 2, 0, 0) := by decide +kernel
theorem f3_37 : gFetch 3 37 = some (.iconst 0, 1, 0, 0) := by decide +kernel
theorem f3_38 : gFetch 3 38 = some (.iconst 0, 1, 0, 0) := by decide +kernel
theorem f3_39 : gFetch 3 39 = some (.iconst 0, 1, 0, 0) := by decide +kernel
theorem f3_40 : gFetch 3 40 = some (.invokestatic 159, 3, 8, 6) := by decide +kernel
theorem f3_43 : gFetch 3 43 = some (.bipush 6, 2, 0, 0) := by decide +kernel
theorem f3_45 : gFetch 3 45 = some (.if_icmp .lt 7, 3, 52, 0) := by decide +kernel
theorem f3_48 : gFetch 3 48 = some (.iconst 1, 1, 0, 0) := by decide +kernel
theorem f3_49 : gFetch 3 49 = some (.goto 4, 3, 53, 0) := by decide +kernel
theorem f3_52 : gFetch 3 52 = some (.iconst 0, 1, 0, 0) := by decide +kernel
theorem f3_53 : gFetch 3 53 = some (.istore 9, 2, 0, 0) := by decide +kernel
theorem f3_55 : gFetch 3 55 = some (.iload 6, 2, 0, 0) := by decide +kernel
theorem f3_57 : gFetch 3 57 = some (.bipush 10, 2, 0, 0) := by decide +kernel
theorem f3_59 : gFetch 3 59 = some (.if_icmp .ge 230, 3, 289, 0) := by decide +kernel
theorem f3_62 : gFetch 3 62 = some (.iload 6, 2, 0, 0) := by decide +kernel
theorem f3_64 : gFetch 3 64 = some (.bipush 7, 2, 0, 0) := by decide +kernel
theorem f3_66 : gFetch 3 66 = some (.if_icmp .le 17, 3, 83, 0) := by decide +kernel
theorem f3_69 : gFetch 3 69 = some (.iload 7, 2, 0, 0) := by decide +kernel
theorem f3_71 : gFetch 3 71 = some (.aload_n 1, 1, 0, 0) := by decide +kernel
theorem f3_72 : gFetch 3 72 = some (.iload_n 2, 1, 0, 0) := by decide +kernel
theorem f3_73 : gFetch 3 73 = some (.iconst 3, 1, 0, 0) := by decide +kernel
theorem f3_74 : gFetch 3 74 = some (.iadd, 1, 0, 0) := by decide +kernel
theorem f3_75 : gFetch 3 75 = some (.iconst 4, 1, 0, 0) := by decide +kernel
theorem f3_76 : gFetch 3 76 = some (.invokestatic 155, 3, 1, 3) := by decide +kernel
theorem f3_79 : gFetch 3 79 = some (.iadd, 1, 0, 0) := by decide +kernel
theorem f3_80 : gFetch 3 80 = some (.goto 5, 3, 85, 0) := by decide +kernel
theorem f3_83 : gFetch 3 83 = some (.iload 7, 2, 0, 0) := by decide +kernel
theorem f3_85 : gFetch 3 85 = some (.istore 12, 2, 0, 0) := by decide +kernel
theorem f3_87 : gFetch 3 87 = some (.iload 6, 2, 0, 0) := by decide +kernel
theorem f3_89 : gFetch 3 89 = some (.iconst 4, 1, 0, 0) := by decide +kernel
theorem f3_90 : gFetch 3 90 = some (.if_icmp .ge 19, 3, 109, 0) := by decide +kernel
theorem f3_93 : gFetch 3 93 = some (.aload_n 0, 1, 0, 0) := by decide +kernel
theorem f3_94 : gFetch 3 94 = some (.iconst 1, 1, 0, 0) := by decide +kernel
theorem f3_95 : gFetch 3 95 = some (.iload 5, 2, 0, 0) := by decide +kernel
theorem f3_97 : gFetch 3 97 = some (.iload 7, 2, 0, 0) := by decide +kernel
theorem f3_99 : gFetch 3 99 = some (.iload 8, 2, 0, 0) := by decide +kernel
theorem f3_101 : gFetch 3 101 = some (.iconst 0, 1, 0, 0) := by decide +kernel
theorem f3_102 : gFetch 3 102 = some (.iconst 0, 1, 0, 0) := by decide +kernel
theorem f3_103 : gFetch 3 103 = some (.invokestatic 162, 3, 2, 7) := by decide +kernel
theorem f3_106 : gFetch 3 106 = some (.goto 61, 3, 167, 0) := by decide +kernel
theorem f3_109 : gFetch 3 109 = some (.iload 6, 2, 0, 0) := by decide +kernel
theorem f3_111 : gFetch 3 111 = some (.bipush 6, 2, 0, 0) := by decide +kernel
theorem f3_113 : gFetch 3 113 = some (.if_icmp .ge 18, 3, 131, 0) := by decide +kernel
theorem f3_116 : gFetch 3 116 = some (.aload_n 0, 1, 0, 0) := by decide +kernel
theorem f3_117 : gFetch 3 117 = some (.iconst 2, 1, 0, 0) := by decide +kernel
theorem f3_118 : gFetch 3 118 = some (.iload 5, 2, 0, 0) := by decide +kernel
theorem f3_120 : gFetch 3 120 = some (.iload 7, 2, 0, 0) := by decide +kernel
theorem f3_122 : gFetch 3 122 = some (.iconst 0, 1, 0, 0) := by decide +kernel
theorem f3_123 : gFetch 3 123 = some (.iconst 0, 1, 0, 0) := by decide +kernel
theorem f3_124 : gFetch 3 124 = some (.iconst 0, 1, 0, 0) := by decide +kernel
theorem f3_125 : gFetch 3 125 = some (.invokestatic 162, 3, 2, 7) := by decide +kernel
theorem f3_128 : gFetch 3 128 = some (.goto 39, 3, 167, 0) := by decide +kernel
theorem f3_131 : gFetch 3 131 = some (.iload 6, 2, 0, 0) := by decide +kernel
theorem f3_133 : gFetch 3 133 = some (.bipush 8, 2, 0, 0) := by decide +kernel
theorem f3_135 : gFetch 3 135 = some (.if_icmp .ge 19, 3, 154, 0) := by decide +kernel
theorem f3_138 : gFetch 3 138 = some (.aload_n 0, 1, 0, 0) := by decide +kernel
theorem f3_139 : gFetch 3 139 = some (.iconst 4, 1, 0, 0) := by decide +kernel
theorem f3_140 : gFetch 3 140 = some (.iload 5, 2, 0, 0) := by decide +kernel
theorem f3_142 : gFetch 3 142 = some (.iload 7, 2, 0, 0) := by decide +kernel
theorem f3_144 : gFetch 3 144 = some (.iload 8, 2, 0, 0) := by decide +kernel
theorem f3_146 : gFetch 3 146 = some (.iconst 0, 1, 0, 0) := by decide +kernel
theorem f3_147 : gFetch 3 147 = some (.iconst 0, 1, 0, 0) := by decide +kernel
theorem f3_148 : gFetch 3 148 = some (.invokestatic 162, 3, 2, 7) := by decide +kernel
theorem f3_151 : gFetch 3 151 = some (.goto 16, 3, 167, 0) := by decide +kernel
theorem f3_154 : gFetch 3 154 = some (.aload_n 0, 1, 0, 0) := by decide +kernel
theorem f3_155 : gFetch 3 155 = some (.iconst 3, 1, 0, 0) := by decide +kernel
theorem f3_156 : gFetch 3 156 = some (.iload 5, 2, 0, 0) := by decide +kernel
theorem f3_158 : gFetch 3 158 = some (.iload 7, 2, 0, 0) := by decide +kernel
theorem f3_160 : gFetch 3 160 = some (.iload 12, 2, 0, 0) := by decide +kernel
theorem f3_162 : gFetch 3 162 = some (.iconst 0, 1, 0, 0) := by decide +kernel
theorem f3_163 : gFetch 3 163 = some (.iconst 0, 1, 0, 0) := by decide +kernel
theorem f3_164 : gFetch 3 164 = some (.invokestatic 162, 3, 2, 7) := by decide +kernel
theorem f3_167 : gFetch 3 167 = some (.istore 10, 2, 0, 0) := by decide +kernel
theorem f3_169 : gFetch 3 169 = some (.iload 9, 2, 0, 0) := by decide +kernel
theorem f3_171 : gFetch 3 171 = some (.ifCond .eq 16, 3, 187, 0) := by decide +kernel
theorem f3_174 : gFetch 3 174 = some (.iload 10, 2, 0, 0) := by decide +kernel
theorem f3_176 : gFetch 3 176 = some (.ldc 89, 2, 0, 4292967293) := by decide +kernel
theorem f3_178 : gFetch 3 178 = some (.if_icmp .ne 7, 3, 185, 0) := by decide +kernel
theorem f3_181 : gFetch 3 181 = some (.iconst 1, 1, 0, 0) := by decide +kernel
theorem f3_182 : gFetch 3 182 = some (.goto 4, 3, 186, 0) := by decide +kernel
theorem f3_185 : gFetch 3 185 = some (.iconst 0, 1, 0, 0) := by decide +kernel
theorem f3_186 : gFetch 3 186 = some (.ireturn, 1, 0, 0) := by decide +kernel
theorem f3_187 : gFetch 3 187 = some (.aload_n 3, 1, 0, 0) := by decide +kernel
theorem f3_188 : gFetch 3 188 = some (.aload 4, 2, 0, 0) := by decide +kernel
theorem f3_190 : gFetch 3 190 = some (.iload 5, 2, 0, 0) := by decide +kernel
theorem f3_192 : gFetch 3 192 = some (.iload 6, 2, 0, 0) := by decide +kernel
theorem f3_194 : gFetch 3 194 = some (.iconst 4, 1, 0, 0) := by decide +kernel
theorem f3_195 : gFetch 3 195 = some (.if_icmp .ge 8, 3, 203, 0) := by decide +kernel
theorem f3_198 : gFetch 3 198 = some (.bipush 112, 2, 0, 0) := by decide +kernel
theorem f3_200 : gFetch 3 200 = some (.goto 29, 3, 229, 0) := by decide +kernel
theorem f3_203 : gFetch 3 203 = some (.iload 6, 2, 0, 0) := by decide +kernel
theorem f3_205 : gFetch 3 205 = some (.bipush 6, 2, 0, 0) := by decide +kernel
theorem f3_207 : gFetch 3 207 = some (.if_icmp .ge 8, 3, 215, 0) := by decide +kernel
theorem f3_210 : gFetch 3 210 = some (.bipush 100, 2, 0, 0) := by decide +kernel
theorem f3_212 : gFetch 3 212 = some (.goto 17, 3, 229, 0) := by decide +kernel
theorem f3_215 : gFetch 3 215 = some (.iload 6, 2, 0, 0) := by decide +kernel
theorem f3_217 : gFetch 3 217 = some (.bipush 8, 2, 0, 0) := by decide +kernel
theorem f3_219 : gFetch 3 219 = some (.if_icmp .ge 8, 3, 227, 0) := by decide +kernel
theorem f3_222 : gFetch 3 222 = some (.bipush 109, 2, 0, 0) := by decide +kernel
theorem f3_224 : gFetch 3 224 = some (.goto 5, 3, 229, 0) := by decide +kernel
theorem f3_227 : gFetch 3 227 = some (.bipush 114, 2, 0, 0) := by decide +kernel
theorem f3_229 : gFetch 3 229 = some (.iload 7, 2, 0, 0) := by decide +kernel
theorem f3_231 : gFetch 3 231 = some (.iload 12, 2, 0, 0) := by decide +kernel
theorem f3_233 : gFetch 3 233 = some (.iload 8, 2, 0, 0) := by decide +kernel
theorem f3_235 : gFetch 3 235 = some (.invokestatic 165, 3, 14, 7) := by decide +kernel
theorem f3_238 : gFetch 3 238 = some (.astore 11, 2, 0, 0) := by decide +kernel
theorem f3_240 : gFetch 3 240 = some (.aload_n 3, 1, 0, 0) := by decide +kernel
theorem f3_241 : gFetch 3 241 = some (.aload 4, 2, 0, 0) := by decide +kernel
theorem f3_243 : gFetch 3 243 = some (.iconst 0, 1, 0, 0) := by decide +kernel
theorem f3_244 : gFetch 3 244 = some (.iaload, 1, 0, 0) := by decide +kernel
theorem f3_245 : gFetch 3 245 = some (.iload 5, 2, 0, 0) := by decide +kernel
theorem f3_247 : gFetch 3 247 = some (.invokestatic 169, 3, 4, 3) := by decide +kernel
theorem f3_250 : gFetch 3 250 = some (.bipush 8, 2, 0, 0) := by decide +kernel
theorem f3_252 : gFetch 3 252 = some (.if_icmp .ne 13, 3, 265, 0) := by decide +kernel
theorem f3_255 : gFetch 3 255 = some (.aload_n 3, 1, 0, 0) := by decide +kernel
theorem f3_256 : gFetch 3 256 = some (.aload 4, 2, 0, 0) := by decide +kernel
theorem f3_258 : gFetch 3 258 = some (.iconst 0, 1, 0, 0) := by decide +kernel
theorem f3_259 : gFetch 3 259 = some (.iaload, 1, 0, 0) := by decide +kernel
theorem f3_260 : gFetch 3 260 = some (.iload 5, 2, 0, 0) := by decide +kernel
theorem f3_262 : gFetch 3 262 = some (.invokestatic 172, 3, 5, 3) := by decide +kernel
theorem f3_265 : gFetch 3 265 = some (.iload 10, 2, 0, 0) := by decide +kernel
theorem f3_267 : gFetch 3 267 = some (.aload 4, 2, 0, 0) := by decide +kernel
theorem f3_269 : gFetch 3 269 = some (.iconst 0, 1, 0, 0) := by decide +kernel
theorem f3_270 : gFetch 3 270 = some (.iaload, 1, 0, 0) := by decide +kernel
theorem f3_271 : gFetch 3 271 = some (.if_icmp .ne 16, 3, 287, 0) := by decide +kernel
theorem f3_274 : gFetch 3 274 = some (.aload_n 0, 1, 0, 0) := by decide +kernel
theorem f3_275 : gFetch 3 275 = some (.invokevirtual 176, 3, 67, 1) := by decide +kernel
theorem f3_278 : gFetch 3 278 = some (.iload 10, 2, 0, 0) := by decide +kernel
theorem f3_280 : gFetch 3 280 = some (.if_icmp .ne 7, 3, 287, 0) := by decide +kernel
theorem f3_283 : gFetch 3 283 = some (.iconst 1, 1, 0, 0) := by decide +kernel
theorem f3_284 : gFetch 3 284 = some (.goto 4, 3, 288, 0) := by decide +kernel
theorem f3_287 : gFetch 3 287 = some (.iconst 0, 1, 0, 0) := by decide +kernel
theorem f3_288 : gFetch 3 288 = some (.ireturn, 1, 0, 0) := by decide +kernel
theorem f3_289 : gFetch 3 289 = some (.iconst 1, 1, 0, 0) := by decide +kernel
theorem f3_290 : gFetch 3 290 = some (.aload_n 1, 1, 0, 0) := by decide +kernel
theorem f3_291 : gFetch 3 291 = some (.iload_n 2, 1, 0, 0) := by decide +kernel
theorem f3_292 : gFetch 3 292 = some (.iconst 3, 1, 0, 0) := by decide +kernel
theorem f3_293 : gFetch 3 293 = some (.iadd, 1, 0, 0) := by decide +kernel
theorem f3_294 : gFetch 3 294 = some (.iconst 3, 1, 0, 0) := by decide +kernel
theorem f3_295 : gFetch 3 295 = some (.invokestatic 155, 3, 1, 3) := by decide +kernel
theorem f3_298 : gFetch 3 298 = some (.iadd, 1, 0, 0) := by decide +kernel
theorem f3_299 : gFetch 3 299 = some (.istore 12, 2, 0, 0) := by decide +kernel
theorem f3_301 : gFetch 3 301 = some (.iconst 1, 1, 0, 0) := by decide +kernel
theorem f3_302 : gFetch 3 302 = some (.aload_n 1, 1, 0, 0) := by decide +kernel
theorem f3_303 : gFetch 3 303 = some (.iload_n 2, 1, 0, 0) := by decide +kernel
theorem f3_304 : gFetch 3 304 = some (.iconst 4, 1, 0, 0) := by decide +kernel
theorem f3_305 : gFetch 3 305 = some (.iadd, 1, 0, 0) := by decide +kernel
theorem f3_306 : gFetch 3 306 = some (.iconst 3, 1, 0, 0) := by decide +kernel
theorem f3_307 : gFetch 3 307 = some (.invokestatic 155, 3, 1, 3) := by decide +kernel
theorem f3_310 : gFetch 3 310 = some (.iadd, 1, 0, 0) := by decide +kernel
theorem f3_311 : gFetch 3 311 = some (.istore 13, 2, 0, 0) := by decide +kernel
theorem f3_313 : gFetch 3 313 = some (.aload_n 0, 1, 0, 0) := by decide +kernel
theorem f3_314 : gFetch 3 314 = some (.invokevirtual 179, 3, 97, 1) := by decide +kernel
theorem f3_317 : gFetch 3 317 = some (.istore 14, 2, 0, 0) := by decide +kernel
theorem f3_319 : gFetch 3 319 = some (.aload_n 0, 1, 0, 0) := by decide +kernel
theorem f3_320 : gFetch 3 320 = some (.iconst 5, 1, 0, 0) := by decide +kernel
theorem f3_321 : gFetch 3 321 = some (.iload 5, 2, 0, 0) := by decide +kernel
theorem f3_323 : gFetch 3 323 = some (.iload 7, 2, 0, 0) := by decide +kernel
theorem f3_325 : gFetch 3 325 = some (.iload 7, 2, 0, 0) := by decide +kernel
theorem f3_327 : gFetch 3 327 = some (.iload 12, 2, 0, 0) := by decide +kernel
theorem f3_329 : gFetch 3 329 = some (.iload 13, 2, 0, 0) := by decide +kernel
theorem f3_331 : gFetch 3 331 = some (.imul, 1, 0, 0) := by decide +kernel
theorem f3_332 : gFetch 3 332 = some (.iadd, 1, 0, 0) := by decide +kernel
theorem f3_333 : gFetch 3 333 = some (.iconst 1, 1, 0, 0) := by decide +kernel
theorem f3_334 : gFetch 3 334 = some (.isub, 1, 0, 0) := by decide +kernel
theorem f3_335 : gFetch 3 335 = some (.iload 12, 2, 0, 0) := by decide +kernel
theorem f3_337 : gFetch 3 337 = some (.iload 8, 2, 0, 0) := by decide +kernel
theorem f3_339 : gFetch 3 339 = some (.invokestatic 162, 3, 2, 7) := by decide +kernel
theorem f3_342 : gFetch 3 342 = some (.istore 10, 2, 0, 0) := by decide +kernel
theorem f3_344 : gFetch 3 344 = some (.iload 9, 2, 0, 0) := by decide +kernel
theorem f3_346 : gFetch 3 346 = some (.ifCond .eq 16, 3, 362, 0) := by decide +kernel
theorem f3_349 : gFetch 3 349 = some (.iload 10, 2, 0, 0) := by decide +kernel
theorem f3_351 : gFetch 3 351 = some (.ldc 89, 2, 0, 4292967293) := by decide +kernel
theorem f3_353 : gFetch 3 353 = some (.if_icmp .ne 7, 3, 360, 0) := by decide +kernel
theorem f3_356 : gFetch 3 356 = some (.iconst 1, 1, 0, 0) := by decide +kernel
theorem f3_357 : gFetch 3 357 = some (.goto 4, 3, 361, 0) := by decide +kernel
theorem f3_360 : gFetch 3 360 = some (.iconst 0, 1, 0, 0) := by decide +kernel
theorem f3_361 : gFetch 3 361 = some (.ireturn, 1, 0, 0) := by decide +kernel
theorem f3_362 : gFetch 3 362 = some (.iconst 0, 1, 0, 0) := by decide +kernel
theorem f3_363 : gFetch 3 363 = some (.istore 15, 2, 0, 0) := by decide +kernel
theorem f3_365 : gFetch 3 365 = some (.iconst 1, 1, 0, 0) := by decide +kernel
theorem f3_366 : gFetch 3 366 = some (.istore 16, 2, 0, 0) := by decide +kernel
theorem f3_368 : gFetch 3 368 = some (.iload 16, 2, 0, 0) := by decide +kernel
theorem f3_370 : gFetch 3 370 = some (.aload 4, 2, 0, 0) := by decide +kernel
theorem f3_372 : gFetch 3 372 = some (.iconst 0, 1, 0, 0) := by decide +kernel
theorem f3_373 : gFetch 3 373 = some (.iaload, 1, 0, 0) := by decide +kernel
theorem f3_374 : gFetch 3 374 = some (.if_icmp .gt 82, 3, 456, 0) := by decide +kernel
theorem f3_377 : gFetch 3 377 = some (.iload 15, 2, 0, 0) := by decide +kernel
theorem f3_379 : gFetch 3 379 = some (.ifCond .ne 64, 3, 443, 0) := by decide +kernel
theorem f3_382 : gFetch 3 382 = some (.aload_n 3, 1, 0, 0) := by decide +kernel
theorem f3_383 : gFetch 3 383 = some (.iload 16, 2, 0, 0) := by decide +kernel
theorem f3_385 : gFetch 3 385 = some (.aaload, 1, 0, 0) := by decide +kernel
theorem f3_386 : gFetch 3 386 = some (.iconst 0, 1, 0, 0) := by decide +kernel
theorem f3_387 : gFetch 3 387 = some (.iaload, 1, 0, 0) := by decide +kernel
theorem f3_388 : gFetch 3 388 = some (.iload 5, 2, 0, 0) := by decide +kernel
theorem f3_390 : gFetch 3 390 = some (.if_icmp .ne 57, 3, 447, 0) := by decide +kernel
theorem f3_393 : gFetch 3 393 = some (.aload_n 3, 1, 0, 0) := by decide +kernel
theorem f3_394 : gFetch 3 394 = some (.iload 16, 2, 0, 0) := by decide +kernel
theorem f3_396 : gFetch 3 396 = some (.aaload, 1, 0, 0) := by decide +kernel
theorem f3_397 : gFetch 3 397 = some (.bipush 6, 2, 0, 0) := by decide +kernel
theorem f3_399 : gFetch 3 399 = some (.iaload, 1, 0, 0) := by decide +kernel
theorem f3_400 : gFetch 3 400 = some (.ifCond .ne 47, 3, 447, 0) := by decide +kernel
theorem f3_403 : gFetch 3 403 = some (.aload_n 3, 1, 0, 0) := by decide +kernel
theorem f3_404 : gFetch 3 404 = some (.iload 16, 2, 0, 0) := by decide +kernel
theorem f3_406 : gFetch 3 406 = some (.aaload, 1, 0, 0) := by decide +kernel
theorem f3_407 : gFetch 3 407 = some (.bipush 8, 2, 0, 0) := by decide +kernel
theorem f3_409 : gFetch 3 409 = some (.iaload, 1, 0, 0) := by decide +kernel
theorem f3_410 : gFetch 3 410 = some (.ifCond .ne 37, 3, 447, 0) := by decide +kernel
theorem f3_413 : gFetch 3 413 = some (.aload_n 3, 1, 0, 0) := by decide +kernel
theorem f3_414 : gFetch 3 414 = some (.iload 16, 2, 0, 0) := by decide +kernel
theorem f3_416 : gFetch 3 416 = some (.aaload, 1, 0, 0) := by decide +kernel
theorem f3_417 : gFetch 3 417 = some (.iconst 2, 1, 0, 0) := by decide +kernel
theorem f3_418 : gFetch 3 418 = some (.iaload, 1, 0, 0) := by decide +kernel
theorem f3_419 : gFetch 3 419 = some (.iload 7, 2, 0, 0) := by decide +kernel
theorem f3_421 : gFetch 3 421 = some (.iload 12, 2, 0, 0) := by decide +kernel
theorem f3_423 : gFetch 3 423 = some (.iload 13, 2, 0, 0) := by decide +kernel
theorem f3_425 : gFetch 3 425 = some (.iconst 1, 1, 0, 0) := by decide +kernel
theorem f3_426 : gFetch 3 426 = some (.isub, 1, 0, 0) := by decide +kernel
theorem f3_427 : gFetch 3 427 = some (.imul, 1, 0, 0) := by decide +kernel
theorem f3_428 : gFetch 3 428 = some (.iadd, 1, 0, 0) := by decide +kernel
theorem f3_429 : gFetch 3 429 = some (.if_icmp .gt 18, 3, 447, 0) := by decide +kernel
theorem f3_432 : gFetch 3 432 = some (.aload_n 3, 1, 0, 0) := by decide +kernel
theorem f3_433 : gFetch 3 433 = some (.iload 16, 2, 0, 0) := by decide +kernel
theorem f3_435 : gFetch 3 435 = some (.aaload, 1, 0, 0) := by decide +kernel
theorem f3_436 : gFetch 3 436 = some (.iconst 3, 1, 0, 0) := by decide +kernel
theorem f3_437 : gFetch 3 437 = some (.iaload, 1, 0, 0) := by decide +kernel
theorem f3_438 : gFetch 3 438 = some (.iload 7, 2, 0, 0) := by decide +kernel
theorem f3_440 : gFetch 3 440 = some (.if_icmp .lt 7, 3, 447, 0) := by decide +kernel
theorem f3_443 : gFetch 3 443 = some (.iconst 1, 1, 0, 0) := by decide +kernel
theorem f3_444 : gFetch 3 444 = some (.goto 4, 3, 448, 0) := by decide +kernel
theorem f3_447 : gFetch 3 447 = some (.iconst 0, 1, 0, 0) := by decide +kernel
theorem f3_448 : gFetch 3 448 = some (.istore 15, 2, 0, 0) := by decide +kernel
theorem f3_450 : gFetch 3 450 = some (.iinc 16 1, 3, 0, 0) := by decide +kernel
theorem f3_453 : gFetch 3 453 = some (.goto (-85), 3, 368, 0) := by decide +kernel
theorem f3_456 : gFetch 3 456 = some (.iload 15, 2, 0, 0) := by decide +kernel
theorem f3_458 : gFetch 3 458 = some (.ifCond .eq 13, 3, 471, 0) := by decide +kernel
theorem f3_461 : gFetch 3 461 = some (.aload_n 3, 1, 0, 0) := by decide +kernel
theorem f3_462 : gFetch 3 462 = some (.aload 4, 2, 0, 0) := by decide +kernel
theorem f3_464 : gFetch 3 464 = some (.iconst 0, 1, 0, 0) := by decide +kernel
theorem f3_465 : gFetch 3 465 = some (.iaload, 1, 0, 0) := by decide +kernel
theorem f3_466 : gFetch 3 466 = some (.iload 5, 2, 0, 0) := by decide +kernel
theorem f3_468 : gFetch 3 468 = some (.invokestatic 172, 3, 5, 3) := by decide +kernel
theorem f3_471 : gFetch 3 471 = some (.aload_n 3, 1, 0, 0) := by decide +kernel
theorem f3_472 : gFetch 3 472 = some (.aload 4, 2, 0, 0) := by decide +kernel
theorem f3_474 : gFetch 3 474 = some (.iload 5, 2, 0, 0) := by decide +kernel
theorem f3_476 : gFetch 3 476 = some (.bipush 112, 2, 0, 0) := by decide +kernel
theorem f3_478 : gFetch 3 478 = some (.iload 7, 2, 0, 0) := by decide +kernel
theorem f3_480 : gFetch 3 480 = some (.iload 7, 2, 0, 0) := by decide +kernel
theorem f3_482 : gFetch 3 482 = some (.iload 12, 2, 0, 0) := by decide +kernel
theorem f3_484 : gFetch 3 484 = some (.iload 13, 2, 0, 0) := by decide +kernel
theorem f3_486 : gFetch 3 486 = some (.iconst 1, 1, 0, 0) := by decide +kernel
theorem f3_487 : gFetch 3 487 = some (.isub, 1, 0, 0) := by decide +kernel
theorem f3_488 : gFetch 3 488 = some (.imul, 1, 0, 0) := by decide +kernel
theorem f3_489 : gFetch 3 489 = some (.iadd, 1, 0, 0) := by decide +kernel
theorem f3_490 : gFetch 3 490 = some (.iload 8, 2, 0, 0) := by decide +kernel
theorem f3_492 : gFetch 3 492 = some (.invokestatic 165, 3, 14, 7) := by decide +kernel
theorem f3_495 : gFetch 3 495 = some (.astore 11, 2, 0, 0) := by decide +kernel
theorem f3_497 : gFetch 3 497 = some (.aload 11, 2, 0, 0) := by decide +kernel
theorem f3_499 : gFetch 3 499 = some (.iconst 5, 1, 0, 0) := by decide +kernel
theorem f3_500 : gFetch 3 500 = some (.iload 12, 2, 0, 0) := by decide +kernel
theorem f3_502 : gFetch 3 502 = some (.iastore, 1, 0, 0) := by decide +kernel
theorem f3_503 : gFetch 3 503 = some (.aload 11, 2, 0, 0) := by decide +kernel
theorem f3_505 : gFetch 3 505 = some (.bipush 6, 2, 0, 0) := by decide +kernel
theorem f3_507 : gFetch 3 507 = some (.iconst 1, 1, 0, 0) := by decide +kernel
theorem f3_508 : gFetch 3 508 = some (.iastore, 1, 0, 0) := by decide +kernel
theorem f3_509 : gFetch 3 509 = some (.iload 10, 2, 0, 0) := by decide +kernel
theorem f3_511 : gFetch 3 511 = some (.ifCond .lt 41, 3, 552, 0) := by decide +kernel
theorem f3_514 : gFetch 3 514 = some (.iload 10, 2, 0, 0) := by decide +kernel
theorem f3_516 : gFetch 3 516 = some (.iconst 3, 1, 0, 0) := by decide +kernel
theorem f3_517 : gFetch 3 517 = some (.if_icmp .gt 35, 3, 552, 0) := by decide +kernel
theorem f3_520 : gFetch 3 520 = some (.aload_n 0, 1, 0, 0) := by decide +kernel
theorem f3_521 : gFetch 3 521 = some (.invokevirtual 176, 3, 67, 1) := by decide +kernel
theorem f3_524 : gFetch 3 524 = some (.aload 4, 2, 0, 0) := by decide +kernel
theorem f3_526 : gFetch 3 526 = some (.iconst 0, 1, 0, 0) := by decide +kernel
theorem f3_527 : gFetch 3 527 = some (.iaload, 1, 0, 0) := by decide +kernel
theorem f3_528 : gFetch 3 528 = some (.if_icmp .ne 24, 3, 552, 0) := by decide +kernel
theorem f3_531 : gFetch 3 531 = some (.aload_n 0, 1, 0, 0) := by decide +kernel
theorem f3_532 : gFetch 3 532 = some (.invokevirtual 179, 3, 97, 1) := by decide +kernel
theorem f3_535 : gFetch 3 535 = some (.iload 14, 2, 0, 0) := by decide +kernel
theorem f3_537 : gFetch 3 537 = some (.iconst 1, 1, 0, 0) := by decide +kernel
theorem f3_538 : gFetch 3 538 = some (.iadd, 1, 0, 0) := by decide +kernel
theorem f3_539 : gFetch 3 539 = some (.iload 15, 2, 0, 0) := by decide +kernel
theorem f3_541 : gFetch 3 541 = some (.invokestatic 125, 3, 7, 1) := by decide +kernel
theorem f3_544 : gFetch 3 544 = some (.iadd, 1, 0, 0) := by decide +kernel
theorem f3_545 : gFetch 3 545 = some (.if_icmp .ne 7, 3, 552, 0) := by decide +kernel
theorem f3_548 : gFetch 3 548 = some (.iconst 1, 1, 0, 0) := by decide +kernel
theorem f3_549 : gFetch 3 549 = some (.goto 4, 3, 553, 0) := by decide +kernel
theorem f3_552 : gFetch 3 552 = some (.iconst 0, 1, 0, 0) := by decide +kernel
theorem f3_553 : gFetch 3 553 = some (.ireturn, 1, 0, 0) := by decide +kernel
theorem f4_0 : gFetch 4 0 = some (.iconst 0, 1, 0, 0) := rfl
theorem f4_1 : gFetch 4 1 = some (.istore_n 3, 1, 0, 0) := rfl
theorem f4_2 : gFetch 4 2 = some (.iconst 1, 1, 0, 0) := rfl
theorem f4_3 : gFetch 4 3 = some (.istore 4, 2, 0, 0) := rfl
theorem f4_5 : gFetch 4 5 = some (.iload 4, 2, 0, 0) := rfl
theorem f4_7 : gFetch 4 7 = some (.iload_n 1, 1, 0, 0) := rfl
theorem f4_8 : gFetch 4 8 = some (.if_icmp .gt 47, 3, 55, 0) := rfl
theorem f4_11 : gFetch 4 11 = some (.iload_n 3, 1, 0, 0) := rfl
theorem f4_12 : gFetch 4 12 = some (.aload_n 0, 1, 0, 0) := rfl
theorem f4_13 : gFetch 4 13 = some (.iload 4, 2, 0, 0) := rfl
theorem f4_15 : gFetch 4 15 = some (.aaload, 1, 0, 0) := rfl
theorem f4_16 : gFetch 4 16 = some (.iconst 0, 1, 0, 0) := rfl
theorem f4_17 : gFetch 4 17 = some (.iaload, 1, 0, 0) := rfl
theorem f4_18 : gFetch 4 18 = some (.iload_n 2, 1, 0, 0) := rfl
theorem f4_19 : gFetch 4 19 = some (.if_icmp .ne 27, 3, 46, 0) := rfl
theorem f4_22 : gFetch 4 22 = some (.aload_n 0, 1, 0, 0) := rfl
theorem f4_23 : gFetch 4 23 = some (.iload 4, 2, 0, 0) := rfl
theorem f4_25 : gFetch 4 25 = some (.aaload, 1, 0, 0) := rfl
theorem f4_26 : gFetch 4 26 = some (.bipush 6, 2, 0, 0) := rfl
theorem f4_28 : gFetch 4 28 = some (.iaload, 1, 0, 0) := rfl
theorem f4_29 : gFetch 4 29 = some (.ifCond .ne 17, 3, 46, 0) := rfl
theorem f4_32 : gFetch 4 32 = some (.aload_n 0, 1, 0, 0) := rfl
theorem f4_33 : gFetch 4 33 = some (.iload 4, 2, 0, 0) := rfl
theorem f4_35 : gFetch 4 35 = some (.aaload, 1, 0, 0) := rfl
theorem f4_36 : gFetch 4 36 = some (.bipush 8, 2, 0, 0) := rfl
theorem f4_38 : gFetch 4 38 = some (.iaload, 1, 0, 0) := rfl
theorem f4_39 : gFetch 4 39 = some (.ifCond .ne 7, 3, 46, 0) := rfl
theorem f4_42 : gFetch 4 42 = some (.iconst 1, 1, 0, 0) := rfl
theorem f4_43 : gFetch 4 43 = some (.goto 4, 3, 47, 0) := rfl
theorem f4_46 : gFetch 4 46 = some (.iconst 0, 1, 0, 0) := rfl
theorem f4_47 : gFetch 4 47 = some (.iadd, 1, 0, 0) := rfl
theorem f4_48 : gFetch 4 48 = some (.istore_n 3, 1, 0, 0) := rfl
theorem f4_49 : gFetch 4 49 = some (.iinc 4 1, 3, 0, 0) := rfl
theorem f4_52 : gFetch 4 52 = some (.goto (-47), 3, 5, 0) := rfl
theorem f4_55 : gFetch 4 55 = some (.iload_n 3, 1, 0, 0) := rfl
theorem f4_56 : gFetch 4 56 = some (.ireturn, 1, 0, 0) := rfl
theorem f5_0 : gFetch 5 0 = some (.iconst 1, 1, 0, 0) := rfl
theorem f5_1 : gFetch 5 1 = some (.istore_n 3, 1, 0, 0) := rfl
theorem f5_2 : gFetch 5 2 = some (.iload_n 3, 1, 0, 0) := rfl
theorem f5_3 : gFetch 5 3 = some (.iload_n 1, 1, 0, 0) := rfl
theorem f5_4 : gFetch 5 4 = some (.if_icmp .gt 43, 3, 47, 0) := rfl
theorem f5_7 : gFetch 5 7 = some (.aload_n 0, 1, 0, 0) := rfl
theorem f5_8 : gFetch 5 8 = some (.iload_n 3, 1, 0, 0) := rfl
theorem f5_9 : gFetch 5 9 = some (.aaload, 1, 0, 0) := rfl
theorem f5_10 : gFetch 5 10 = some (.bipush 6, 2, 0, 0) := rfl
theorem f5_12 : gFetch 5 12 = some (.aload_n 0, 1, 0, 0) := rfl
theorem f5_13 : gFetch 5 13 = some (.iload_n 3, 1, 0, 0) := rfl
theorem f5_14 : gFetch 5 14 = some (.aaload, 1, 0, 0) := rfl
theorem f5_15 : gFetch 5 15 = some (.iconst 0, 1, 0, 0) := rfl
theorem f5_16 : gFetch 5 16 = some (.iaload, 1, 0, 0) := rfl
theorem f5_17 : gFetch 5 17 = some (.iload_n 2, 1, 0, 0) := rfl
theorem f5_18 : gFetch 5 18 = some (.if_icmp .ne 16, 3, 34, 0) := rfl
theorem f5_21 : gFetch 5 21 = some (.aload_n 0, 1, 0, 0) := rfl
theorem f5_22 : gFetch 5 22 = some (.iload_n 3, 1, 0, 0) := rfl
theorem f5_23 : gFetch 5 23 = some (.aaload, 1, 0, 0) := rfl
theorem f5_24 : gFetch 5 24 = some (.bipush 8, 2, 0, 0) := rfl
theorem f5_26 : gFetch 5 26 = some (.iaload, 1, 0, 0) := rfl
theorem f5_27 : gFetch 5 27 = some (.ifCond .ne 7, 3, 34, 0) := rfl
theorem f5_30 : gFetch 5 30 = some (.iconst 1, 1, 0, 0) := rfl
theorem f5_31 : gFetch 5 31 = some (.goto 9, 3, 40, 0) := rfl
theorem f5_34 : gFetch 5 34 = some (.aload_n 0, 1, 0, 0) := rfl
theorem f5_35 : gFetch 5 35 = some (.iload_n 3, 1, 0, 0) := rfl
theorem f5_36 : gFetch 5 36 = some (.aaload, 1, 0, 0) := rfl
theorem f5_37 : gFetch 5 37 = some (.bipush 6, 2, 0, 0) := rfl
theorem f5_39 : gFetch 5 39 = some (.iaload, 1, 0, 0) := rfl
theorem f5_40 : gFetch 5 40 = some (.iastore, 1, 0, 0) := rfl
theorem f5_41 : gFetch 5 41 = some (.iinc 3 1, 3, 0, 0) := rfl
theorem f5_44 : gFetch 5 44 = some (.goto (-42), 3, 2, 0) := rfl
theorem f5_47 : gFetch 5 47 = some (.return_, 1, 0, 0) := rfl
theorem f6_0 : gFetch 6 0 = some (.iconst 1, 1, 0, 0) := rfl
theorem f6_1 : gFetch 6 1 = some (.istore_n 3, 1, 0, 0) := rfl
theorem f6_2 : gFetch 6 2 = some (.iload_n 3, 1, 0, 0) := rfl
theorem f6_3 : gFetch 6 3 = some (.iload_n 1, 1, 0, 0) := rfl
theorem f6_4 : gFetch 6 4 = some (.if_icmp .gt 29, 3, 33, 0) := rfl
theorem f6_7 : gFetch 6 7 = some (.aload_n 0, 1, 0, 0) := rfl
theorem f6_8 : gFetch 6 8 = some (.iload_n 3, 1, 0, 0) := rfl
theorem f6_9 : gFetch 6 9 = some (.aaload, 1, 0, 0) := rfl
theorem f6_10 : gFetch 6 10 = some (.bipush 6, 2, 0, 0) := rfl
theorem f6_12 : gFetch 6 12 = some (.iaload, 1, 0, 0) := rfl
theorem f6_13 : gFetch 6 13 = some (.iconst 1, 1, 0, 0) := rfl
theorem f6_14 : gFetch 6 14 = some (.if_icmp .eq 13, 3, 27, 0) := rfl
theorem f6_17 : gFetch 6 17 = some (.aload_n 0, 1, 0, 0) := rfl
theorem f6_18 : gFetch 6 18 = some (.iload_n 3, 1, 0, 0) := rfl
theorem f6_19 : gFetch 6 19 = some (.aaload, 1, 0, 0) := rfl
theorem f6_20 : gFetch 6 20 = some (.bipush 8, 2, 0, 0) := rfl
theorem f6_22 : gFetch 6 22 = some (.iaload, 1, 0, 0) := rfl
theorem f6_23 : gFetch 6 23 = some (.iconst 1, 1, 0, 0) := rfl
theorem f6_24 : gFetch 6 24 = some (.if_icmp .ne 9, 3, 33, 0) := rfl
theorem f6_27 : gFetch 6 27 = some (.iinc 3 1, 3, 0, 0) := rfl
theorem f6_30 : gFetch 6 30 = some (.goto (-28), 3, 2, 0) := rfl
theorem f6_33 : gFetch 6 33 = some (.iconst 0, 1, 0, 0) := rfl
theorem f6_34 : gFetch 6 34 = some (.istore 4, 2, 0, 0) := rfl
theorem f6_36 : gFetch 6 36 = some (.iload_n 3, 1, 0, 0) := rfl
theorem f6_37 : gFetch 6 37 = some (.istore 5, 2, 0, 0) := rfl
theorem f6_39 : gFetch 6 39 = some (.iload 5, 2, 0, 0) := rfl
theorem f6_41 : gFetch 6 41 = some (.iload_n 1, 1, 0, 0) := rfl
theorem f6_42 : gFetch 6 42 = some (.if_icmp .gt 62, 3, 104, 0) := rfl
theorem f6_45 : gFetch 6 45 = some (.iload 4, 2, 0, 0) := rfl
theorem f6_47 : gFetch 6 47 = some (.aload_n 0, 1, 0, 0) := rfl
theorem f6_48 : gFetch 6 48 = some (.iload 5, 2, 0, 0) := rfl
theorem f6_50 : gFetch 6 50 = some (.aaload, 1, 0, 0) := rfl
theorem f6_51 : gFetch 6 51 = some (.iconst 5, 1, 0, 0) := rfl
theorem f6_52 : gFetch 6 52 = some (.iaload, 1, 0, 0) := rfl
theorem f6_53 : gFetch 6 53 = some (.ifCond .ne 41, 3, 94, 0) := rfl
theorem f6_56 : gFetch 6 56 = some (.aload_n 0, 1, 0, 0) := rfl
theorem f6_57 : gFetch 6 57 = some (.iload 5, 2, 0, 0) := rfl
theorem f6_59 : gFetch 6 59 = some (.aaload, 1, 0, 0) := rfl
theorem f6_60 : gFetch 6 60 = some (.bipush 8, 2, 0, 0) := rfl
theorem f6_62 : gFetch 6 62 = some (.iaload, 1, 0, 0) := rfl
theorem f6_63 : gFetch 6 63 = some (.ifCond .ne 31, 3, 94, 0) := rfl
theorem f6_66 : gFetch 6 66 = some (.iload_n 2, 1, 0, 0) := rfl
theorem f6_67 : gFetch 6 67 = some (.ifCond .eq 23, 3, 90, 0) := rfl
theorem f6_70 : gFetch 6 70 = some (.aload_n 0, 1, 0, 0) := rfl
theorem f6_71 : gFetch 6 71 = some (.iload 5, 2, 0, 0) := rfl
theorem f6_73 : gFetch 6 73 = some (.aaload, 1, 0, 0) := rfl
theorem f6_74 : gFetch 6 74 = some (.bipush 6, 2, 0, 0) := rfl
theorem f6_76 : gFetch 6 76 = some (.iaload, 1, 0, 0) := rfl
theorem f6_77 : gFetch 6 77 = some (.ifCond .ne 17, 3, 94, 0) := rfl
theorem f6_80 : gFetch 6 80 = some (.aload_n 0, 1, 0, 0) := rfl
theorem f6_81 : gFetch 6 81 = some (.iload 5, 2, 0, 0) := rfl
theorem f6_83 : gFetch 6 83 = some (.aaload, 1, 0, 0) := rfl
theorem f6_84 : gFetch 6 84 = some (.bipush 7, 2, 0, 0) := rfl
theorem f6_86 : gFetch 6 86 = some (.iaload, 1, 0, 0) := rfl
theorem f6_87 : gFetch 6 87 = some (.ifCond .ne 7, 3, 94, 0) := rfl
theorem f6_90 : gFetch 6 90 = some (.iconst 1, 1, 0, 0) := rfl
theorem f6_91 : gFetch 6 91 = some (.goto 4, 3, 95, 0) := rfl
theorem f6_94 : gFetch 6 94 = some (.iconst 0, 1, 0, 0) := rfl
theorem f6_95 : gFetch 6 95 = some (.iadd, 1, 0, 0) := rfl
theorem f6_96 : gFetch 6 96 = some (.istore 4, 2, 0, 0) := rfl
theorem f6_98 : gFetch 6 98 = some (.iinc 5 1, 3, 0, 0) := rfl
theorem f6_101 : gFetch 6 101 = some (.goto (-62), 3, 39, 0) := rfl
theorem f6_104 : gFetch 6 104 = some (.iload 4, 2, 0, 0) := rfl
theorem f6_106 : gFetch 6 106 = some (.ireturn, 1, 0, 0) := rfl
theorem f7_0 : gFetch 7 0 = some (.iload_n 0, 1, 0, 0) := rfl
theorem f7_1 : gFetch 7 1 = some (.ifCond .eq 7, 3, 8, 0) := rfl
theorem f7_4 : gFetch 7 4 = some (.iconst 1, 1, 0, 0) := rfl
theorem f7_5 : gFetch 7 5 = some (.goto 4, 3, 9, 0) := rfl
theorem f7_8 : gFetch 7 8 = some (.iconst 0, 1, 0, 0) := rfl
theorem f7_9 : gFetch 7 9 = some (.ireturn, 1, 0, 0) := rfl
theorem f8_0 : gFetch 8 0 = some (.aload_n 0, 1, 0, 0) := rfl
theorem f8_1 : gFetch 8 1 = some (.iload_n 1, 1, 0, 0) := rfl
theorem f8_2 : gFetch 8 2 = some (.iload_n 2, 1, 0, 0) := rfl
theorem f8_3 : gFetch 8 3 = some (.iload_n 3, 1, 0, 0) := rfl
theorem f8_4 : gFetch 8 4 = some (.iload 4, 2, 0, 0) := rfl
theorem f8_6 : gFetch 8 6 = some (.iload 5, 2, 0, 0) := rfl
theorem f8_8 : gFetch 8 8 = some (.invokestatic 135, 3, 15, 6) := rfl
theorem f8_11 : gFetch 8 11 = some (.ireturn, 1, 0, 0) := rfl
theorem f8_12 : gFetch 8 12 = some (.astore 6, 2, 0, 0) := rfl
theorem f8_14 : gFetch 8 14 = some (.ldc 83, 2, 0, 4292967295) := rfl
theorem f8_16 : gFetch 8 16 = some (.ireturn, 1, 0, 0) := rfl
theorem f8_17 : gFetch 8 17 = some (.astore 6, 2, 0, 0) := rfl
theorem f8_19 : gFetch 8 19 = some (.ldc 86, 2, 0, 4292967294) := rfl
theorem f8_21 : gFetch 8 21 = some (.ireturn, 1, 0, 0) := rfl
theorem f8_22 : gFetch 8 22 = some (.astore 6, 2, 0, 0) := rfl
theorem f8_24 : gFetch 8 24 = some (.ldc 92, 2, 0, 4292967291) := rfl
theorem f8_26 : gFetch 8 26 = some (.ireturn, 1, 0, 0) := rfl
theorem f9_0 : gFetch 9 0 = some (.iload 4, 2, 0, 0) := rfl
theorem f9_2 : gFetch 9 2 = some (.istore 5, 2, 0, 0) := rfl
theorem f9_4 : gFetch 9 4 = some (.iload 5, 2, 0, 0) := rfl
theorem f9_6 : gFetch 9 6 = some (.ifCond .le 52, 3, 58, 0) := rfl
theorem f9_9 : gFetch 9 9 = some (.aload_n 0, 1, 0, 0) := rfl
theorem f9_10 : gFetch 9 10 = some (.iload 5, 2, 0, 0) := rfl
theorem f9_12 : gFetch 9 12 = some (.aaload, 1, 0, 0) := rfl
theorem f9_13 : gFetch 9 13 = some (.iconst 0, 1, 0, 0) := rfl
theorem f9_14 : gFetch 9 14 = some (.iaload, 1, 0, 0) := rfl
theorem f9_15 : gFetch 9 15 = some (.iload_n 2, 1, 0, 0) := rfl
theorem f9_16 : gFetch 9 16 = some (.if_icmp .ne 36, 3, 52, 0) := rfl
theorem f9_19 : gFetch 9 19 = some (.aload_n 0, 1, 0, 0) := rfl
theorem f9_20 : gFetch 9 20 = some (.iload 5, 2, 0, 0) := rfl
theorem f9_22 : gFetch 9 22 = some (.aaload, 1, 0, 0) := rfl
theorem f9_23 : gFetch 9 23 = some (.bipush 8, 2, 0, 0) := rfl
theorem f9_25 : gFetch 9 25 = some (.iaload, 1, 0, 0) := rfl
theorem f9_26 : gFetch 9 26 = some (.iconst 1, 1, 0, 0) := rfl
theorem f9_27 : gFetch 9 27 = some (.if_icmp .eq 25, 3, 52, 0) := rfl
theorem f9_30 : gFetch 9 30 = some (.aload_n 0, 1, 0, 0) := rfl
theorem f9_31 : gFetch 9 31 = some (.iload 5, 2, 0, 0) := rfl
theorem f9_33 : gFetch 9 33 = some (.aaload, 1, 0, 0) := rfl
theorem f9_34 : gFetch 9 34 = some (.iconst 1, 1, 0, 0) := rfl
theorem f9_35 : gFetch 9 35 = some (.iaload, 1, 0, 0) := rfl
theorem f9_36 : gFetch 9 36 = some (.bipush 109, 2, 0, 0) := rfl
theorem f9_38 : gFetch 9 38 = some (.if_icmp .eq 14, 3, 52, 0) := rfl
theorem f9_41 : gFetch 9 41 = some (.aload_n 0, 1, 0, 0) := rfl
theorem f9_42 : gFetch 9 42 = some (.iload 5, 2, 0, 0) := rfl
theorem f9_44 : gFetch 9 44 = some (.aaload, 1, 0, 0) := rfl
theorem f9_45 : gFetch 9 45 = some (.iload_n 3, 1, 0, 0) := rfl
theorem f9_46 : gFetch 9 46 = some (.invokestatic 147, 3, 16, 2) := rfl
theorem f9_49 : gFetch 9 49 = some (.ifCond .ne 9, 3, 58, 0) := rfl
theorem f9_52 : gFetch 9 52 = some (.iinc 5 (-1), 3, 0, 0) := rfl
theorem f9_55 : gFetch 9 55 = some (.goto (-51), 3, 4, 0) := rfl
theorem f9_58 : gFetch 9 58 = some (.iload 5, 2, 0, 0) := rfl
theorem f9_60 : gFetch 9 60 = some (.ifCond .le 18, 3, 78, 0) := rfl
theorem f9_63 : gFetch 9 63 = some (.aload_n 0, 1, 0, 0) := rfl
theorem f9_64 : gFetch 9 64 = some (.iload 5, 2, 0, 0) := rfl
theorem f9_66 : gFetch 9 66 = some (.aaload, 1, 0, 0) := rfl
theorem f9_67 : gFetch 9 67 = some (.iconst 1, 1, 0, 0) := rfl
theorem f9_68 : gFetch 9 68 = some (.iaload, 1, 0, 0) := rfl
theorem f9_69 : gFetch 9 69 = some (.bipush 112, 2, 0, 0) := rfl
theorem f9_71 : gFetch 9 71 = some (.if_icmp .ne 7, 3, 78, 0) := rfl
theorem f9_74 : gFetch 9 74 = some (.iconst 1, 1, 0, 0) := rfl
theorem f9_75 : gFetch 9 75 = some (.goto 4, 3, 79, 0) := rfl
theorem f9_78 : gFetch 9 78 = some (.iconst 0, 1, 0, 0) := rfl
theorem f9_79 : gFetch 9 79 = some (.istore 6, 2, 0, 0) := rfl
theorem f9_81 : gFetch 9 81 = some (.iload 6, 2, 0, 0) := rfl
theorem f9_83 : gFetch 9 83 = some (.ifCond .eq 12, 3, 95, 0) := rfl
theorem f9_86 : gFetch 9 86 = some (.aload_n 0, 1, 0, 0) := rfl
theorem f9_87 : gFetch 9 87 = some (.iload 5, 2, 0, 0) := rfl
theorem f9_89 : gFetch 9 89 = some (.aaload, 1, 0, 0) := rfl
theorem f9_90 : gFetch 9 90 = some (.iconst 4, 1, 0, 0) := rfl
theorem f9_91 : gFetch 9 91 = some (.iaload, 1, 0, 0) := rfl
theorem f9_92 : gFetch 9 92 = some (.goto 4, 3, 96, 0) := rfl
theorem f9_95 : gFetch 9 95 = some (.iconst 0, 1, 0, 0) := rfl
theorem f9_96 : gFetch 9 96 = some (.istore 7, 2, 0, 0) := rfl
theorem f9_98 : gFetch 9 98 = some (.iload 5, 2, 0, 0) := rfl
theorem f9_100 : gFetch 9 100 = some (.iconst 1, 1, 0, 0) := rfl
theorem f9_101 : gFetch 9 101 = some (.iadd, 1, 0, 0) := rfl
theorem f9_102 : gFetch 9 102 = some (.istore 8, 2, 0, 0) := rfl
theorem f9_104 : gFetch 9 104 = some (.iload 8, 2, 0, 0) := rfl
theorem f9_106 : gFetch 9 106 = some (.iload 4, 2, 0, 0) := rfl
theorem f9_108 : gFetch 9 108 = some (.if_icmp .gt 84, 3, 192, 0) := rfl
theorem f9_111 : gFetch 9 111 = some (.aload_n 0, 1, 0, 0) := rfl
theorem f9_112 : gFetch 9 112 = some (.iload 8, 2, 0, 0) := rfl
theorem f9_114 : gFetch 9 114 = some (.aaload, 1, 0, 0) := rfl
theorem f9_115 : gFetch 9 115 = some (.iconst 0, 1, 0, 0) := rfl
theorem f9_116 : gFetch 9 116 = some (.iaload, 1, 0, 0) := rfl
theorem f9_117 : gFetch 9 117 = some (.iload_n 2, 1, 0, 0) := rfl
theorem f9_118 : gFetch 9 118 = some (.if_icmp .ne 68, 3, 186, 0) := rfl
theorem f9_121 : gFetch 9 121 = some (.aload_n 0, 1, 0, 0) := rfl
theorem f9_122 : gFetch 9 122 = some (.iload 8, 2, 0, 0) := rfl
theorem f9_124 : gFetch 9 124 = some (.aaload, 1, 0, 0) := rfl
theorem f9_125 : gFetch 9 125 = some (.bipush 8, 2, 0, 0) := rfl
theorem f9_127 : gFetch 9 127 = some (.iaload, 1, 0, 0) := rfl
theorem f9_128 : gFetch 9 128 = some (.ifCond .ne 58, 3, 186, 0) := rfl
theorem f9_131 : gFetch 9 131 = some (.aload_n 0, 1, 0, 0) := rfl
theorem f9_132 : gFetch 9 132 = some (.iload 8, 2, 0, 0) := rfl
theorem f9_134 : gFetch 9 134 = some (.aaload, 1, 0, 0) := rfl
theorem f9_135 : gFetch 9 135 = some (.iconst 1, 1, 0, 0) := rfl
theorem f9_136 : gFetch 9 136 = some (.iaload, 1, 0, 0) := rfl
theorem f9_137 : gFetch 9 137 = some (.bipush 109, 2, 0, 0) := rfl
theorem f9_139 : gFetch 9 139 = some (.if_icmp .ne 47, 3, 186, 0) := rfl
theorem f9_142 : gFetch 9 142 = some (.aload_n 0, 1, 0, 0) := rfl
theorem f9_143 : gFetch 9 143 = some (.iload 8, 2, 0, 0) := rfl
theorem f9_145 : gFetch 9 145 = some (.aaload, 1, 0, 0) := rfl
theorem f9_146 : gFetch 9 146 = some (.iload_n 3, 1, 0, 0) := rfl
theorem f9_147 : gFetch 9 147 = some (.invokestatic 147, 3, 16, 2) := rfl
theorem f9_150 : gFetch 9 150 = some (.ifCond .eq 36, 3, 186, 0) := rfl
theorem f9_153 : gFetch 9 153 = some (.iload 6, 2, 0, 0) := rfl
theorem f9_155 : gFetch 9 155 = some (.ifCond .eq 20, 3, 175, 0) := rfl
theorem f9_158 : gFetch 9 158 = some (.aload_n 1, 1, 0, 0) := rfl
theorem f9_159 : gFetch 9 159 = some (.iload_n 2, 1, 0, 0) := rfl
theorem f9_160 : gFetch 9 160 = some (.caload, 1, 0, 0) := rfl
theorem f9_161 : gFetch 9 161 = some (.iload 7, 2, 0, 0) := rfl
theorem f9_163 : gFetch 9 163 = some (.aload_n 0, 1, 0, 0) := rfl
theorem f9_164 : gFetch 9 164 = some (.iload 8, 2, 0, 0) := rfl
theorem f9_166 : gFetch 9 166 = some (.aaload, 1, 0, 0) := rfl
theorem f9_167 : gFetch 9 167 = some (.iconst 4, 1, 0, 0) := rfl
theorem f9_168 : gFetch 9 168 = some (.iaload, 1, 0, 0) := rfl
theorem f9_169 : gFetch 9 169 = some (.invokestatic 151, 3, 17, 3) := rfl
theorem f9_172 : gFetch 9 172 = some (.goto 9, 3, 181, 0) := rfl
theorem f9_175 : gFetch 9 175 = some (.aload_n 0, 1, 0, 0) := rfl
theorem f9_176 : gFetch 9 176 = some (.iload 8, 2, 0, 0) := rfl
theorem f9_178 : gFetch 9 178 = some (.aaload, 1, 0, 0) := rfl
theorem f9_179 : gFetch 9 179 = some (.iconst 4, 1, 0, 0) := rfl
theorem f9_180 : gFetch 9 180 = some (.iaload, 1, 0, 0) := rfl
theorem f9_181 : gFetch 9 181 = some (.istore 7, 2, 0, 0) := rfl
theorem f9_183 : gFetch 9 183 = some (.iconst 1, 1, 0, 0) := rfl
theorem f9_184 : gFetch 9 184 = some (.istore 6, 2, 0, 0) := rfl
theorem f9_186 : gFetch 9 186 = some (.iinc 8 1, 3, 0, 0) := rfl
theorem f9_189 : gFetch 9 189 = some (.goto (-85), 3, 104, 0) := rfl
theorem f9_192 : gFetch 9 192 = some (.iload 6, 2, 0, 0) := rfl
theorem f9_194 : gFetch 9 194 = some (.ifCond .eq 8, 3, 202, 0) := rfl
theorem f9_197 : gFetch 9 197 = some (.iload 7, 2, 0, 0) := rfl
theorem f9_199 : gFetch 9 199 = some (.goto 5, 3, 204, 0) := rfl
theorem f9_202 : gFetch 9 202 = some (.ldc 92, 2, 0, 4292967291) := rfl
theorem f9_204 : gFetch 9 204 = some (.ireturn, 1, 0, 0) := rfl
theorem f10_0 : gFetch 10 0 = some (.aload_n 0, 1, 0, 0) := rfl
theorem f10_1 : gFetch 10 1 = some (.iconst 4, 1, 0, 0) := rfl
theorem f10_2 : gFetch 10 2 = some (.iload_n 1, 1, 0, 0) := rfl
theorem f10_3 : gFetch 10 3 = some (.iconst 4, 1, 0, 0) := rfl
theorem f10_4 : gFetch 10 4 = some (.iconst 0, 1, 0, 0) := rfl
theorem f10_5 : gFetch 10 5 = some (.iconst 0, 1, 0, 0) := rfl
theorem f10_6 : gFetch 10 6 = some (.invokestatic 159, 3, 8, 6) := rfl
theorem f10_9 : gFetch 10 9 = some (.ldc 83, 2, 0, 4292967295) := rfl
theorem f10_11 : gFetch 10 11 = some (.if_icmp .ne 7, 3, 18, 0) := rfl
theorem f10_14 : gFetch 10 14 = some (.iconst 1, 1, 0, 0) := rfl
theorem f10_15 : gFetch 10 15 = some (.goto 4, 3, 19, 0) := rfl
theorem f10_18 : gFetch 10 18 = some (.iconst 0, 1, 0, 0) := rfl
theorem f10_19 : gFetch 10 19 = some (.istore_n 2, 1, 0, 0) := rfl
theorem f10_20 : gFetch 10 20 = some (.iconst 0, 1, 0, 0) := rfl
theorem f10_21 : gFetch 10 21 = some (.istore_n 3, 1, 0, 0) := rfl
theorem f10_22 : gFetch 10 22 = some (.iload_n 3, 1, 0, 0) := rfl
theorem f10_23 : gFetch 10 23 = some (.iconst 4, 1, 0, 0) := rfl
theorem f10_24 : gFetch 10 24 = some (.if_icmp .ge 265, 3, 289, 0) := rfl
theorem f10_27 : gFetch 10 27 = some (.iload_n 2, 1, 0, 0) := rfl
theorem f10_28 : gFetch 10 28 = some (.ifCond .eq 261, 3, 289, 0) := rfl
theorem f10_31 : gFetch 10 31 = some (.aload_n 0, 1, 0, 0) := rfl
theorem f10_32 : gFetch 10 32 = some (.iconst 4, 1, 0, 0) := rfl
theorem f10_33 : gFetch 10 33 = some (.iload_n 1, 1, 0, 0) := rfl
theorem f10_34 : gFetch 10 34 = some (.iload_n 3, 1, 0, 0) := rfl
theorem f10_35 : gFetch 10 35 = some (.iconst 0, 1, 0, 0) := rfl
theorem f10_36 : gFetch 10 36 = some (.iconst 0, 1, 0, 0) := rfl
theorem f10_37 : gFetch 10 37 = some (.invokestatic 159, 3, 8, 6) := rfl
theorem f10_40 : gFetch 10 40 = some (.istore 4, 2, 0, 0) := rfl
theorem f10_42 : gFetch 10 42 = some (.iconst 0, 1, 0, 0) := rfl
theorem f10_43 : gFetch 10 43 = some (.istore 5, 2, 0, 0) := rfl
theorem f10_45 : gFetch 10 45 = some (.iconst (-1), 1, 0, 0) := rfl
theorem f10_46 : gFetch 10 46 = some (.istore 6, 2, 0, 0) := rfl
theorem f10_48 : gFetch 10 48 = some (.iconst 0, 1, 0, 0) := rfl
theorem f10_49 : gFetch 10 49 = some (.istore 7, 2, 0, 0) := rfl
theorem f10_51 : gFetch 10 51 = some (.iload 7, 2, 0, 0) := rfl
theorem f10_53 : gFetch 10 53 = some (.iload 4, 2, 0, 0) := rfl
theorem f10_55 : gFetch 10 55 = some (.if_icmp .ge 129, 3, 184, 0) := rfl
theorem f10_58 : gFetch 10 58 = some (.iload_n 2, 1, 0, 0) := rfl
theorem f10_59 : gFetch 10 59 = some (.ifCond .eq 125, 3, 184, 0) := rfl
theorem f10_62 : gFetch 10 62 = some (.aload_n 0, 1, 0, 0) := rfl
theorem f10_63 : gFetch 10 63 = some (.bipush 8, 2, 0, 0) := rfl
theorem f10_65 : gFetch 10 65 = some (.iload_n 1, 1, 0, 0) := rfl
theorem f10_66 : gFetch 10 66 = some (.iload_n 3, 1, 0, 0) := rfl
theorem f10_67 : gFetch 10 67 = some (.iload 7, 2, 0, 0) := rfl
theorem f10_69 : gFetch 10 69 = some (.iconst 0, 1, 0, 0) := rfl
theorem f10_70 : gFetch 10 70 = some (.invokestatic 159, 3, 8, 6) := rfl
theorem f10_73 : gFetch 10 73 = some (.istore 8, 2, 0, 0) := rfl
theorem f10_75 : gFetch 10 75 = some (.aload_n 0, 1, 0, 0) := rfl
theorem f10_76 : gFetch 10 76 = some (.bipush 9, 2, 0, 0) := rfl
theorem f10_78 : gFetch 10 78 = some (.iload_n 1, 1, 0, 0) := rfl
theorem f10_79 : gFetch 10 79 = some (.iload_n 3, 1, 0, 0) := rfl
theorem f10_80 : gFetch 10 80 = some (.iload 7, 2, 0, 0) := rfl
theorem f10_82 : gFetch 10 82 = some (.iconst 0, 1, 0, 0) := rfl
theorem f10_83 : gFetch 10 83 = some (.invokestatic 159, 3, 8, 6) := rfl
theorem f10_86 : gFetch 10 86 = some (.istore 9, 2, 0, 0) := rfl
theorem f10_88 : gFetch 10 88 = some (.aload_n 0, 1, 0, 0) := rfl
theorem f10_89 : gFetch 10 89 = some (.bipush 6, 2, 0, 0) := rfl
theorem f10_91 : gFetch 10 91 = some (.iload_n 1, 1, 0, 0) := rfl
theorem f10_92 : gFetch 10 92 = some (.iload_n 3, 1, 0, 0) := rfl
theorem f10_93 : gFetch 10 93 = some (.iload 7, 2, 0, 0) := rfl
theorem f10_95 : gFetch 10 95 = some (.iconst 0, 1, 0, 0) := rfl
theorem f10_96 : gFetch 10 96 = some (.invokestatic 159, 3, 8, 6) := rfl
theorem f10_99 : gFetch 10 99 = some (.istore 10, 2, 0, 0) := rfl
theorem f10_101 : gFetch 10 101 = some (.aload_n 0, 1, 0, 0) := rfl
theorem f10_102 : gFetch 10 102 = some (.bipush 7, 2, 0, 0) := rfl
theorem f10_104 : gFetch 10 104 = some (.iload_n 1, 1, 0, 0) := rfl
theorem f10_105 : gFetch 10 105 = some (.iload_n 3, 1, 0, 0) := rfl
theorem f10_106 : gFetch 10 106 = some (.iload 7, 2, 0, 0) := rfl
theorem f10_108 : gFetch 10 108 = some (.iconst 0, 1, 0, 0) := rfl
theorem f10_109 : gFetch 10 109 = some (.invokestatic 159, 3, 8, 6) := rfl
theorem f10_112 : gFetch 10 112 = some (.istore 11, 2, 0, 0) := rfl
theorem f10_114 : gFetch 10 114 = some (.iload 8, 2, 0, 0) := rfl
theorem f10_116 : gFetch 10 116 = some (.ifCond .lt 46, 3, 162, 0) := rfl
theorem f10_119 : gFetch 10 119 = some (.iload 8, 2, 0, 0) := rfl
theorem f10_121 : gFetch 10 121 = some (.iload 9, 2, 0, 0) := rfl
theorem f10_123 : gFetch 10 123 = some (.if_icmp .gt 39, 3, 162, 0) := rfl
theorem f10_126 : gFetch 10 126 = some (.iload 10, 2, 0, 0) := rfl
theorem f10_128 : gFetch 10 128 = some (.iload 11, 2, 0, 0) := rfl
theorem f10_130 : gFetch 10 130 = some (.iadd, 1, 0, 0) := rfl
theorem f10_131 : gFetch 10 131 = some (.ifCond .le 31, 3, 162, 0) := rfl
theorem f10_134 : gFetch 10 134 = some (.iload_n 3, 1, 0, 0) := rfl
theorem f10_135 : gFetch 10 135 = some (.ifCond .eq 10, 3, 145, 0) := rfl
theorem f10_138 : gFetch 10 138 = some (.iload 8, 2, 0, 0) := rfl
theorem f10_140 : gFetch 10 140 = some (.iload 6, 2, 0, 0) := rfl
theorem f10_142 : gFetch 10 142 = some (.if_icmp .le 20, 3, 162, 0) := rfl
theorem f10_145 : gFetch 10 145 = some (.aload_n 0, 1, 0, 0) := rfl
theorem f10_146 : gFetch 10 146 = some (.iconst 5, 1, 0, 0) := rfl
theorem f10_147 : gFetch 10 147 = some (.iload_n 1, 1, 0, 0) := rfl
theorem f10_148 : gFetch 10 148 = some (.iload_n 3, 1, 0, 0) := rfl
theorem f10_149 : gFetch 10 149 = some (.iload 7, 2, 0, 0) := rfl
theorem f10_151 : gFetch 10 151 = some (.iconst 0, 1, 0, 0) := rfl
theorem f10_152 : gFetch 10 152 = some (.invokestatic 159, 3, 8, 6) := rfl
theorem f10_155 : gFetch 10 155 = some (.ifCond .le 7, 3, 162, 0) := rfl
theorem f10_158 : gFetch 10 158 = some (.iconst 1, 1, 0, 0) := rfl
theorem f10_159 : gFetch 10 159 = some (.goto 4, 3, 163, 0) := rfl
theorem f10_162 : gFetch 10 162 = some (.iconst 0, 1, 0, 0) := rfl
theorem f10_163 : gFetch 10 163 = some (.istore_n 2, 1, 0, 0) := rfl
theorem f10_164 : gFetch 10 164 = some (.iload 9, 2, 0, 0) := rfl
theorem f10_166 : gFetch 10 166 = some (.istore 6, 2, 0, 0) := rfl
theorem f10_168 : gFetch 10 168 = some (.iload 5, 2, 0, 0) := rfl
theorem f10_170 : gFetch 10 170 = some (.iload 10, 2, 0, 0) := rfl
theorem f10_172 : gFetch 10 172 = some (.iload 11, 2, 0, 0) := rfl
theorem f10_174 : gFetch 10 174 = some (.iadd, 1, 0, 0) := rfl
theorem f10_175 : gFetch 10 175 = some (.iadd, 1, 0, 0) := rfl
theorem f10_176 : gFetch 10 176 = some (.istore 5, 2, 0, 0) := rfl
theorem f10_178 : gFetch 10 178 = some (.iinc 7 1, 3, 0, 0) := rfl
theorem f10_181 : gFetch 10 181 = some (.goto (-130), 3, 51, 0) := rfl
theorem f10_184 : gFetch 10 184 = some (.iload_n 3, 1, 0, 0) := rfl
theorem f10_185 : gFetch 10 185 = some (.ifCond .ne 12, 3, 197, 0) := rfl
theorem f10_188 : gFetch 10 188 = some (.iload 4, 2, 0, 0) := rfl
theorem f10_190 : gFetch 10 190 = some (.i2f, 1, 0, 0) := rfl
theorem f10_191 : gFetch 10 191 = some (.ldc 182, 2, 1, 1077936128) := rfl
theorem f10_193 : gFetch 10 193 = some (.fdiv, 1, 0, 0) := rfl
theorem f10_194 : gFetch 10 194 = some (.goto 32, 3, 226, 0) := rfl
theorem f10_197 : gFetch 10 197 = some (.iload_n 3, 1, 0, 0) := rfl
theorem f10_198 : gFetch 10 198 = some (.iconst 1, 1, 0, 0) := rfl
theorem f10_199 : gFetch 10 199 = some (.if_icmp .ne 12, 3, 211, 0) := rfl
theorem f10_202 : gFetch 10 202 = some (.iload 5, 2, 0, 0) := rfl
theorem f10_204 : gFetch 10 204 = some (.i2f, 1, 0, 0) := rfl
theorem f10_205 : gFetch 10 205 = some (.ldc 183, 2, 1, 1090519040) := rfl
theorem f10_207 : gFetch 10 207 = some (.fdiv, 1, 0, 0) := rfl
theorem f10_208 : gFetch 10 208 = some (.goto 18, 3, 226, 0) := rfl
theorem f10_211 : gFetch 10 211 = some (.iload_n 3, 1, 0, 0) := rfl
theorem f10_212 : gFetch 10 212 = some (.iconst 2, 1, 0, 0) := rfl
theorem f10_213 : gFetch 10 213 = some (.if_icmp .ne 12, 3, 225, 0) := rfl
theorem f10_216 : gFetch 10 216 = some (.iload 5, 2, 0, 0) := rfl
theorem f10_218 : gFetch 10 218 = some (.i2f, 1, 0, 0) := rfl
theorem f10_219 : gFetch 10 219 = some (.ldc 184, 2, 1, 1103101952) := rfl
theorem f10_221 : gFetch 10 221 = some (.fdiv, 1, 0, 0) := rfl
theorem f10_222 : gFetch 10 222 = some (.goto 4, 3, 226, 0) := rfl
theorem f10_225 : gFetch 10 225 = some (.fconst 0, 1, 0, 0) := rfl
theorem f10_226 : gFetch 10 226 = some (.fstore 7, 2, 0, 0) := rfl
theorem f10_228 : gFetch 10 228 = some (.iload_n 2, 1, 0, 0) := rfl
theorem f10_229 : gFetch 10 229 = some (.ifCond .eq 52, 3, 281, 0) := rfl
theorem f10_232 : gFetch 10 232 = some (.aload_n 0, 1, 0, 0) := rfl
theorem f10_233 : gFetch 10 233 = some (.bipush 12, 2, 0, 0) := rfl
theorem f10_235 : gFetch 10 235 = some (.iload_n 1, 1, 0, 0) := rfl
theorem f10_236 : gFetch 10 236 = some (.iload_n 3, 1, 0, 0) := rfl
theorem f10_237 : gFetch 10 237 = some (.iconst 0, 1, 0, 0) := rfl
theorem f10_238 : gFetch 10 238 = some (.iconst 0, 1, 0, 0) := rfl
theorem f10_239 : gFetch 10 239 = some (.invokestatic 159, 3, 8, 6) := rfl
theorem f10_242 : gFetch 10 242 = some (.fload 7, 2, 0, 0) := rfl
theorem f10_244 : gFetch 10 244 = some (.invokestatic 185, 3, 179, 1) := rfl
theorem f10_247 : gFetch 10 247 = some (.if_icmp .ne 34, 3, 281, 0) := rfl
theorem f10_250 : gFetch 10 250 = some (.aload_n 0, 1, 0, 0) := rfl
theorem f10_251 : gFetch 10 251 = some (.iload_n 1, 1, 0, 0) := rfl
theorem f10_252 : gFetch 10 252 = some (.iload_n 3, 1, 0, 0) := rfl
theorem f10_253 : gFetch 10 253 = some (.invokevirtual 191, 3, 36, 3) := rfl
theorem f10_256 : gFetch 10 256 = some (.fload 7, 2, 0, 0) := rfl
theorem f10_258 : gFetch 10 258 = some (.fcmp .l, 1, 0, 0) := rfl
theorem f10_259 : gFetch 10 259 = some (.ifCond .ne 22, 3, 281, 0) := rfl
theorem f10_262 : gFetch 10 262 = some (.aload_n 0, 1, 0, 0) := rfl
theorem f10_263 : gFetch 10 263 = some (.iconst 5, 1, 0, 0) := rfl
theorem f10_264 : gFetch 10 264 = some (.iload_n 1, 1, 0, 0) := rfl
theorem f10_265 : gFetch 10 265 = some (.iload_n 3, 1, 0, 0) := rfl
theorem f10_266 : gFetch 10 266 = some (.iload 4, 2, 0, 0) := rfl
theorem f10_268 : gFetch 10 268 = some (.iconst 0, 1, 0, 0) := rfl
theorem f10_269 : gFetch 10 269 = some (.invokestatic 159, 3, 8, 6) := rfl
theorem f10_272 : gFetch 10 272 = some (.ldc 83, 2, 0, 4292967295) := rfl
theorem f10_274 : gFetch 10 274 = some (.if_icmp .ne 7, 3, 281, 0) := rfl
theorem f10_277 : gFetch 10 277 = some (.iconst 1, 1, 0, 0) := rfl
theorem f10_278 : gFetch 10 278 = some (.goto 4, 3, 282, 0) := rfl
theorem f10_281 : gFetch 10 281 = some (.iconst 0, 1, 0, 0) := rfl
theorem f10_282 : gFetch 10 282 = some (.istore_n 2, 1, 0, 0) := rfl
theorem f10_283 : gFetch 10 283 = some (.iinc 3 1, 3, 0, 0) := rfl
theorem f10_286 : gFetch 10 286 = some (.goto (-264), 3, 22, 0) := rfl
theorem f10_289 : gFetch 10 289 = some (.iload_n 2, 1, 0, 0) := rfl
theorem f10_290 : gFetch 10 290 = some (.ireturn, 1, 0, 0) := rfl
theorem f11_0 : gFetch 11 0 = some (.aload_n 0, 1, 0, 0) := rfl
theorem f11_1 : gFetch 11 1 = some (.bipush 8, 2, 0, 0) := rfl
theorem f11_3 : gFetch 11 3 = some (.iload_n 3, 1, 0, 0) := rfl
theorem f11_4 : gFetch 11 4 = some (.iload 4, 2, 0, 0) := rfl
theorem f11_6 : gFetch 11 6 = some (.iconst 0, 1, 0, 0) := rfl
theorem f11_7 : gFetch 11 7 = some (.iconst 0, 1, 0, 0) := rfl
theorem f11_8 : gFetch 11 8 = some (.iconst 0, 1, 0, 0) := rfl
theorem f11_9 : gFetch 11 9 = some (.invokestatic 162, 3, 2, 7) := rfl
theorem f11_12 : gFetch 11 12 = some (.istore 6, 2, 0, 0) := rfl
theorem f11_14 : gFetch 11 14 = some (.iload 6, 2, 0, 0) := rfl
theorem f11_16 : gFetch 11 16 = some (.ldc 89, 2, 0, 4292967293) := rfl
theorem f11_18 : gFetch 11 18 = some (.if_icmp .ne 5, 3, 23, 0) := rfl
theorem f11_21 : gFetch 11 21 = some (.iconst 1, 1, 0, 0) := rfl
theorem f11_22 : gFetch 11 22 = some (.ireturn, 1, 0, 0) := rfl
theorem f11_23 : gFetch 11 23 = some (.iload 6, 2, 0, 0) := rfl
theorem f11_25 : gFetch 11 25 = some (.ifCond .lt 38, 3, 63, 0) := rfl
theorem f11_28 : gFetch 11 28 = some (.aload_n 0, 1, 0, 0) := rfl
theorem f11_29 : gFetch 11 29 = some (.iconst 2, 1, 0, 0) := rfl
theorem f11_30 : gFetch 11 30 = some (.iload 6, 2, 0, 0) := rfl
theorem f11_32 : gFetch 11 32 = some (.iconst 0, 1, 0, 0) := rfl
theorem f11_33 : gFetch 11 33 = some (.iconst 0, 1, 0, 0) := rfl
theorem f11_34 : gFetch 11 34 = some (.iconst 0, 1, 0, 0) := rfl
theorem f11_35 : gFetch 11 35 = some (.invokestatic 159, 3, 8, 6) := rfl
theorem f11_38 : gFetch 11 38 = some (.ldc 92, 2, 0, 4292967291) := rfl
theorem f11_40 : gFetch 11 40 = some (.if_icmp .ne 23, 3, 63, 0) := rfl
theorem f11_43 : gFetch 11 43 = some (.aload_n 0, 1, 0, 0) := rfl
theorem f11_44 : gFetch 11 44 = some (.bipush 10, 2, 0, 0) := rfl
theorem f11_46 : gFetch 11 46 = some (.iload 6, 2, 0, 0) := rfl
theorem f11_48 : gFetch 11 48 = some (.iconst 0, 1, 0, 0) := rfl
theorem f11_49 : gFetch 11 49 = some (.iconst 0, 1, 0, 0) := rfl
theorem f11_50 : gFetch 11 50 = some (.iconst 0, 1, 0, 0) := rfl
theorem f11_51 : gFetch 11 51 = some (.iconst 0, 1, 0, 0) := rfl
theorem f11_52 : gFetch 11 52 = some (.invokestatic 162, 3, 2, 7) := rfl
theorem f11_55 : gFetch 11 55 = some (.iconst (-1), 1, 0, 0) := rfl
theorem f11_56 : gFetch 11 56 = some (.if_icmp .ne 7, 3, 63, 0) := rfl
theorem f11_59 : gFetch 11 59 = some (.iconst 1, 1, 0, 0) := rfl
theorem f11_60 : gFetch 11 60 = some (.goto 4, 3, 64, 0) := rfl
theorem f11_63 : gFetch 11 63 = some (.iconst 0, 1, 0, 0) := rfl
theorem f11_64 : gFetch 11 64 = some (.istore 7, 2, 0, 0) := rfl
theorem f11_66 : gFetch 11 66 = some (.iconst 0, 1, 0, 0) := rfl
theorem f11_67 : gFetch 11 67 = some (.istore 8, 2, 0, 0) := rfl
theorem f11_69 : gFetch 11 69 = some (.iload 8, 2, 0, 0) := rfl
theorem f11_71 : gFetch 11 71 = some (.bipush 22, 2, 0, 0) := rfl
theorem f11_73 : gFetch 11 73 = some (.if_icmp .ge 72, 3, 145, 0) := rfl
theorem f11_76 : gFetch 11 76 = some (.iload 7, 2, 0, 0) := rfl
theorem f11_78 : gFetch 11 78 = some (.ifCond .eq 67, 3, 145, 0) := rfl
theorem f11_81 : gFetch 11 81 = some (.aload_n 1, 1, 0, 0) := rfl
theorem f11_82 : gFetch 11 82 = some (.aload_n 2, 1, 0, 0) := rfl
theorem f11_83 : gFetch 11 83 = some (.iload_n 3, 1, 0, 0) := rfl
theorem f11_84 : gFetch 11 84 = some (.iload 8, 2, 0, 0) := rfl
theorem f11_86 : gFetch 11 86 = some (.iload 5, 2, 0, 0) := rfl
theorem f11_88 : gFetch 11 88 = some (.invokestatic 195, 3, 9, 5) := rfl
theorem f11_91 : gFetch 11 91 = some (.istore 9, 2, 0, 0) := rfl
theorem f11_93 : gFetch 11 93 = some (.iload 9, 2, 0, 0) := rfl
theorem f11_95 : gFetch 11 95 = some (.ldc 92, 2, 0, 4292967291) := rfl
theorem f11_97 : gFetch 11 97 = some (.if_icmp .eq 35, 3, 132, 0) := rfl
theorem f11_100 : gFetch 11 100 = some (.aload_n 0, 1, 0, 0) := rfl
theorem f11_101 : gFetch 11 101 = some (.bipush 9, 2, 0, 0) := rfl
theorem f11_103 : gFetch 11 103 = some (.iload 6, 2, 0, 0) := rfl
theorem f11_105 : gFetch 11 105 = some (.iconst 0, 1, 0, 0) := rfl
theorem f11_106 : gFetch 11 106 = some (.iconst 0, 1, 0, 0) := rfl
theorem f11_107 : gFetch 11 107 = some (.iconst 0, 1, 0, 0) := rfl
theorem f11_108 : gFetch 11 108 = some (.iconst 0, 1, 0, 0) := rfl
theorem f11_109 : gFetch 11 109 = some (.invokestatic 162, 3, 2, 7) := rfl
theorem f11_112 : gFetch 11 112 = some (.iload 8, 2, 0, 0) := rfl
theorem f11_114 : gFetch 11 114 = some (.if_icmp .ne 22, 3, 136, 0) := rfl
theorem f11_117 : gFetch 11 117 = some (.aload_n 0, 1, 0, 0) := rfl
theorem f11_118 : gFetch 11 118 = some (.iconst 2, 1, 0, 0) := rfl
theorem f11_119 : gFetch 11 119 = some (.iload 6, 2, 0, 0) := rfl
theorem f11_121 : gFetch 11 121 = some (.iconst 0, 1, 0, 0) := rfl
theorem f11_122 : gFetch 11 122 = some (.iconst 0, 1, 0, 0) := rfl
theorem f11_123 : gFetch 11 123 = some (.iconst 0, 1, 0, 0) := rfl
theorem f11_124 : gFetch 11 124 = some (.invokestatic 159, 3, 8, 6) := rfl
theorem f11_127 : gFetch 11 127 = some (.iload 9, 2, 0, 0) := rfl
theorem f11_129 : gFetch 11 129 = some (.if_icmp .ne 7, 3, 136, 0) := rfl
theorem f11_132 : gFetch 11 132 = some (.iconst 1, 1, 0, 0) := rfl
theorem f11_133 : gFetch 11 133 = some (.goto 4, 3, 137, 0) := rfl
theorem f11_136 : gFetch 11 136 = some (.iconst 0, 1, 0, 0) := rfl
theorem f11_137 : gFetch 11 137 = some (.istore 7, 2, 0, 0) := rfl
theorem f11_139 : gFetch 11 139 = some (.iinc 8 1, 3, 0, 0) := rfl
theorem f11_142 : gFetch 11 142 = some (.goto (-73), 3, 69, 0) := rfl
theorem f11_145 : gFetch 11 145 = some (.iload 7, 2, 0, 0) := rfl
theorem f11_147 : gFetch 11 147 = some (.ifCond .eq 39, 3, 186, 0) := rfl
theorem f11_150 : gFetch 11 150 = some (.aload_n 0, 1, 0, 0) := rfl
theorem f11_151 : gFetch 11 151 = some (.bipush 9, 2, 0, 0) := rfl
theorem f11_153 : gFetch 11 153 = some (.iload 6, 2, 0, 0) := rfl
theorem f11_155 : gFetch 11 155 = some (.iconst 0, 1, 0, 0) := rfl
theorem f11_156 : gFetch 11 156 = some (.iconst 0, 1, 0, 0) := rfl
theorem f11_157 : gFetch 11 157 = some (.iconst 0, 1, 0, 0) := rfl
theorem f11_158 : gFetch 11 158 = some (.iconst 0, 1, 0, 0) := rfl
theorem f11_159 : gFetch 11 159 = some (.invokestatic 162, 3, 2, 7) := rfl
theorem f11_162 : gFetch 11 162 = some (.iconst (-1), 1, 0, 0) := rfl
theorem f11_163 : gFetch 11 163 = some (.if_icmp .ne 23, 3, 186, 0) := rfl
theorem f11_166 : gFetch 11 166 = some (.aload_n 0, 1, 0, 0) := rfl
theorem f11_167 : gFetch 11 167 = some (.bipush 9, 2, 0, 0) := rfl
theorem f11_169 : gFetch 11 169 = some (.iload 6, 2, 0, 0) := rfl
theorem f11_171 : gFetch 11 171 = some (.iconst 0, 1, 0, 0) := rfl
theorem f11_172 : gFetch 11 172 = some (.iconst 0, 1, 0, 0) := rfl
theorem f11_173 : gFetch 11 173 = some (.iconst 0, 1, 0, 0) := rfl
theorem f11_174 : gFetch 11 174 = some (.iconst 0, 1, 0, 0) := rfl
theorem f11_175 : gFetch 11 175 = some (.invokestatic 162, 3, 2, 7) := rfl
theorem f11_178 : gFetch 11 178 = some (.iconst (-1), 1, 0, 0) := rfl
theorem f11_179 : gFetch 11 179 = some (.if_icmp .ne 7, 3, 186, 0) := rfl
theorem f11_182 : gFetch 11 182 = some (.iconst 1, 1, 0, 0) := rfl
theorem f11_183 : gFetch 11 183 = some (.goto 4, 3, 187, 0) := rfl
theorem f11_186 : gFetch 11 186 = some (.iconst 0, 1, 0, 0) := rfl
theorem f11_187 : gFetch 11 187 = some (.istore 7, 2, 0, 0) := rfl
theorem f11_189 : gFetch 11 189 = some (.bipush 21, 2, 0, 0) := rfl
theorem f11_191 : gFetch 11 191 = some (.istore 8, 2, 0, 0) := rfl
theorem f11_193 : gFetch 11 193 = some (.iload 8, 2, 0, 0) := rfl
theorem f11_195 : gFetch 11 195 = some (.ifCond .lt 72, 3, 267, 0) := rfl
theorem f11_198 : gFetch 11 198 = some (.iload 7, 2, 0, 0) := rfl
theorem f11_200 : gFetch 11 200 = some (.ifCond .eq 67, 3, 267, 0) := rfl
theorem f11_203 : gFetch 11 203 = some (.aload_n 1, 1, 0, 0) := rfl
theorem f11_204 : gFetch 11 204 = some (.aload_n 2, 1, 0, 0) := rfl
theorem f11_205 : gFetch 11 205 = some (.iload_n 3, 1, 0, 0) := rfl
theorem f11_206 : gFetch 11 206 = some (.iload 8, 2, 0, 0) := rfl
theorem f11_208 : gFetch 11 208 = some (.iload 5, 2, 0, 0) := rfl
theorem f11_210 : gFetch 11 210 = some (.invokestatic 195, 3, 9, 5) := rfl
theorem f11_213 : gFetch 11 213 = some (.istore 9, 2, 0, 0) := rfl
theorem f11_215 : gFetch 11 215 = some (.iload 9, 2, 0, 0) := rfl
theorem f11_217 : gFetch 11 217 = some (.ldc 92, 2, 0, 4292967291) := rfl
theorem f11_219 : gFetch 11 219 = some (.if_icmp .eq 35, 3, 254, 0) := rfl
theorem f11_222 : gFetch 11 222 = some (.aload_n 0, 1, 0, 0) := rfl
theorem f11_223 : gFetch 11 223 = some (.bipush 10, 2, 0, 0) := rfl
theorem f11_225 : gFetch 11 225 = some (.iload 6, 2, 0, 0) := rfl
theorem f11_227 : gFetch 11 227 = some (.iconst 0, 1, 0, 0) := rfl
theorem f11_228 : gFetch 11 228 = some (.iconst 0, 1, 0, 0) := rfl
theorem f11_229 : gFetch 11 229 = some (.iconst 0, 1, 0, 0) := rfl
theorem f11_230 : gFetch 11 230 = some (.iconst 0, 1, 0, 0) := rfl
theorem f11_231 : gFetch 11 231 = some (.invokestatic 162, 3, 2, 7) := rfl
theorem f11_234 : gFetch 11 234 = some (.iload 8, 2, 0, 0) := rfl
theorem f11_236 : gFetch 11 236 = some (.if_icmp .ne 22, 3, 258, 0) := rfl
theorem f11_239 : gFetch 11 239 = some (.aload_n 0, 1, 0, 0) := rfl
theorem f11_240 : gFetch 11 240 = some (.iconst 2, 1, 0, 0) := rfl
theorem f11_241 : gFetch 11 241 = some (.iload 6, 2, 0, 0) := rfl
theorem f11_243 : gFetch 11 243 = some (.iconst 0, 1, 0, 0) := rfl
theorem f11_244 : gFetch 11 244 = some (.iconst 0, 1, 0, 0) := rfl
theorem f11_245 : gFetch 11 245 = some (.iconst 0, 1, 0, 0) := rfl
theorem f11_246 : gFetch 11 246 = some (.invokestatic 159, 3, 8, 6) := rfl
theorem f11_249 : gFetch 11 249 = some (.iload 9, 2, 0, 0) := rfl
theorem f11_251 : gFetch 11 251 = some (.if_icmp .ne 7, 3, 258, 0) := rfl
theorem f11_254 : gFetch 11 254 = some (.iconst 1, 1, 0, 0) := rfl
theorem f11_255 : gFetch 11 255 = some (.goto 4, 3, 259, 0) := rfl
theorem f11_258 : gFetch 11 258 = some (.iconst 0, 1, 0, 0) := rfl
theorem f11_259 : gFetch 11 259 = some (.istore 7, 2, 0, 0) := rfl
theorem f11_261 : gFetch 11 261 = some (.iinc 8 (-1), 3, 0, 0) := rfl
theorem f11_264 : gFetch 11 264 = some (.goto (-71), 3, 193, 0) := rfl
theorem f11_267 : gFetch 11 267 = some (.iload 7, 2, 0, 0) := rfl
theorem f11_269 : gFetch 11 269 = some (.ifCond .eq 55, 3, 324, 0) := rfl
theorem f11_272 : gFetch 11 272 = some (.aload_n 0, 1, 0, 0) := rfl
theorem f11_273 : gFetch 11 273 = some (.bipush 10, 2, 0, 0) := rfl
theorem f11_275 : gFetch 11 275 = some (.iload 6, 2, 0, 0) := rfl
theorem f11_277 : gFetch 11 277 = some (.iconst 0, 1, 0, 0) := rfl
theorem f11_278 : gFetch 11 278 = some (.iconst 0, 1, 0, 0) := rfl
theorem f11_279 : gFetch 11 279 = some (.iconst 0, 1, 0, 0) := rfl
theorem f11_280 : gFetch 11 280 = some (.iconst 0, 1, 0, 0) := rfl
theorem f11_281 : gFetch 11 281 = some (.invokestatic 162, 3, 2, 7) := rfl
theorem f11_284 : gFetch 11 284 = some (.iconst (-1), 1, 0, 0) := rfl
theorem f11_285 : gFetch 11 285 = some (.if_icmp .ne 39, 3, 324, 0) := rfl
theorem f11_288 : gFetch 11 288 = some (.aload_n 0, 1, 0, 0) := rfl
theorem f11_289 : gFetch 11 289 = some (.bipush 11, 2, 0, 0) := rfl
theorem f11_291 : gFetch 11 291 = some (.iload 6, 2, 0, 0) := rfl
theorem f11_293 : gFetch 11 293 = some (.iconst 0, 1, 0, 0) := rfl
theorem f11_294 : gFetch 11 294 = some (.iconst 0, 1, 0, 0) := rfl
theorem f11_295 : gFetch 11 295 = some (.iconst 0, 1, 0, 0) := rfl
theorem f11_296 : gFetch 11 296 = some (.iconst 0, 1, 0, 0) := rfl
theorem f11_297 : gFetch 11 297 = some (.invokestatic 162, 3, 2, 7) := rfl
theorem f11_300 : gFetch 11 300 = some (.ifCond .lt 24, 3, 324, 0) := rfl
theorem f11_303 : gFetch 11 303 = some (.aload_n 0, 1, 0, 0) := rfl
theorem f11_304 : gFetch 11 304 = some (.bipush 11, 2, 0, 0) := rfl
theorem f11_306 : gFetch 11 306 = some (.iload 6, 2, 0, 0) := rfl
theorem f11_308 : gFetch 11 308 = some (.iconst 0, 1, 0, 0) := rfl
theorem f11_309 : gFetch 11 309 = some (.iconst 0, 1, 0, 0) := rfl
theorem f11_310 : gFetch 11 310 = some (.iconst 0, 1, 0, 0) := rfl
theorem f11_311 : gFetch 11 311 = some (.iconst 0, 1, 0, 0) := rfl
theorem f11_312 : gFetch 11 312 = some (.invokestatic 162, 3, 2, 7) := rfl
theorem f11_315 : gFetch 11 315 = some (.ldc 83, 2, 0, 4292967295) := rfl
theorem f11_317 : gFetch 11 317 = some (.if_icmp .ne 7, 3, 324, 0) := rfl
theorem f11_320 : gFetch 11 320 = some (.iconst 1, 1, 0, 0) := rfl
theorem f11_321 : gFetch 11 321 = some (.goto 4, 3, 325, 0) := rfl
theorem f11_324 : gFetch 11 324 = some (.iconst 0, 1, 0, 0) := rfl
theorem f11_325 : gFetch 11 325 = some (.ireturn, 1, 0, 0) := rfl
theorem f12_0 : gFetch 12 0 = some (.ldc 7, 2, 0, 69069) := rfl
theorem f12_2 : gFetch 12 2 = some (.iload_n 1, 1, 0, 0) := rfl
theorem f12_3 : gFetch 12 3 = some (.aload_n 0, 1, 0, 0) := rfl
theorem f12_4 : gFetch 12 4 = some (.arraylength, 1, 0, 0) := rfl
theorem f12_5 : gFetch 12 5 = some (.if_icmp .ge 9, 3, 14, 0) := rfl
theorem f12_8 : gFetch 12 8 = some (.aload_n 0, 1, 0, 0) := rfl
theorem f12_9 : gFetch 12 9 = some (.iload_n 1, 1, 0, 0) := rfl
theorem f12_10 : gFetch 12 10 = some (.iaload, 1, 0, 0) := rfl
theorem f12_11 : gFetch 12 11 = some (.goto 4, 3, 15, 0) := rfl
theorem f12_14 : gFetch 12 14 = some (.iconst 0, 1, 0, 0) := rfl
theorem f12_15 : gFetch 12 15 = some (.sipush 1009, 3, 0, 0) := rfl
theorem f12_18 : gFetch 12 18 = some (.iload_n 1, 1, 0, 0) := rfl
theorem f12_19 : gFetch 12 19 = some (.imul, 1, 0, 0) := rfl
theorem f12_20 : gFetch 12 20 = some (.iadd, 1, 0, 0) := rfl
theorem f12_21 : gFetch 12 21 = some (.imul, 1, 0, 0) := rfl
theorem f12_22 : gFetch 12 22 = some (.sipush 12345, 3, 0, 0) := rfl
theorem f12_25 : gFetch 12 25 = some (.iadd, 1, 0, 0) := rfl
theorem f12_26 : gFetch 12 26 = some (.istore_n 2, 1, 0, 0) := rfl
theorem f12_27 : gFetch 12 27 = some (.iload_n 2, 1, 0, 0) := rfl
theorem f12_28 : gFetch 12 28 = some (.iload_n 2, 1, 0, 0) := rfl
theorem f12_29 : gFetch 12 29 = some (.bipush 13, 2, 0, 0) := rfl
theorem f12_31 : gFetch 12 31 = some (.iushr, 1, 0, 0) := rfl
theorem f12_32 : gFetch 12 32 = some (.ixor, 1, 0, 0) := rfl
theorem f12_33 : gFetch 12 33 = some (.ldc 8, 2, 0, 1103515245) := rfl
theorem f12_35 : gFetch 12 35 = some (.imul, 1, 0, 0) := rfl
theorem f12_36 : gFetch 12 36 = some (.istore_n 2, 1, 0, 0) := rfl
theorem f12_37 : gFetch 12 37 = some (.iload_n 2, 1, 0, 0) := rfl
theorem f12_38 : gFetch 12 38 = some (.iload_n 2, 1, 0, 0) := rfl
theorem f12_39 : gFetch 12 39 = some (.bipush 16, 2, 0, 0) := rfl
theorem f12_41 : gFetch 12 41 = some (.iushr, 1, 0, 0) := rfl
theorem f12_42 : gFetch 12 42 = some (.ixor, 1, 0, 0) := rfl
theorem f12_43 : gFetch 12 43 = some (.ireturn, 1, 0, 0) := rfl
theorem f13_0 : gFetch 13 0 = some (.iload_n 1, 1, 0, 0) := rfl
theorem f13_1 : gFetch 13 1 = some (.tableswitch 201 0 16 #[83, 90, 99, 106, 115, 124, 137, 142, 148, 155, 161, 167, 173, 179, 185, 191, 196], 83, 0, 0) := rfl
theorem f13_84 : gFetch 13 84 = some (.aload_n 0, 1, 0, 0) := rfl
theorem f13_85 : gFetch 13 85 = some (.iload_n 2, 1, 0, 0) := rfl
theorem f13_86 : gFetch 13 86 = some (.i2c, 1, 0, 0) := rfl
theorem f13_87 : gFetch 13 87 = some (.invokevirtual 15, 3, 19, 2) := rfl
theorem f13_90 : gFetch 13 90 = some (.ireturn, 1, 0, 0) := rfl
theorem f13_91 : gFetch 13 91 = some (.aload_n 0, 1, 0, 0) := rfl
theorem f13_92 : gFetch 13 92 = some (.iload_n 2, 1, 0, 0) := rfl
theorem f13_93 : gFetch 13 93 = some (.iload_n 3, 1, 0, 0) := rfl
theorem f13_94 : gFetch 13 94 = some (.iload 4, 2, 0, 0) := rfl
theorem f13_96 : gFetch 13 96 = some (.invokevirtual 21, 3, 85, 4) := rfl
theorem f13_99 : gFetch 13 99 = some (.ireturn, 1, 0, 0) := rfl
theorem f13_100 : gFetch 13 100 = some (.aload_n 0, 1, 0, 0) := rfl
theorem f13_101 : gFetch 13 101 = some (.iload_n 2, 1, 0, 0) := rfl
theorem f13_102 : gFetch 13 102 = some (.iload_n 3, 1, 0, 0) := rfl
theorem f13_103 : gFetch 13 103 = some (.invokevirtual 25, 3, 39, 3) := rfl
theorem f13_106 : gFetch 13 106 = some (.ireturn, 1, 0, 0) := rfl
theorem f13_107 : gFetch 13 107 = some (.aload_n 0, 1, 0, 0) := rfl
theorem f13_108 : gFetch 13 108 = some (.iload_n 2, 1, 0, 0) := rfl
theorem f13_109 : gFetch 13 109 = some (.iload_n 3, 1, 0, 0) := rfl
theorem f13_110 : gFetch 13 110 = some (.iload 4, 2, 0, 0) := rfl
theorem f13_112 : gFetch 13 112 = some (.invokevirtual 29, 3, 40, 4) := rfl
theorem f13_115 : gFetch 13 115 = some (.ireturn, 1, 0, 0) := rfl
theorem f13_116 : gFetch 13 116 = some (.aload_n 0, 1, 0, 0) := rfl
theorem f13_117 : gFetch 13 117 = some (.iload_n 2, 1, 0, 0) := rfl
theorem f13_118 : gFetch 13 118 = some (.iload_n 3, 1, 0, 0) := rfl
theorem f13_119 : gFetch 13 119 = some (.iload 4, 2, 0, 0) := rfl
theorem f13_121 : gFetch 13 121 = some (.invokevirtual 32, 3, 75, 4) := rfl
theorem f13_124 : gFetch 13 124 = some (.ireturn, 1, 0, 0) := rfl
theorem f13_125 : gFetch 13 125 = some (.aload_n 0, 1, 0, 0) := rfl
theorem f13_126 : gFetch 13 126 = some (.iload_n 2, 1, 0, 0) := rfl
theorem f13_127 : gFetch 13 127 = some (.iload_n 3, 1, 0, 0) := rfl
theorem f13_128 : gFetch 13 128 = some (.iload 4, 2, 0, 0) := rfl
theorem f13_130 : gFetch 13 130 = some (.iload 5, 2, 0, 0) := rfl
theorem f13_132 : gFetch 13 132 = some (.iload 6, 2, 0, 0) := rfl
theorem f13_134 : gFetch 13 134 = some (.invokevirtual 35, 3, 28, 6) := rfl
theorem f13_137 : gFetch 13 137 = some (.ireturn, 1, 0, 0) := rfl
theorem f13_138 : gFetch 13 138 = some (.aload_n 0, 1, 0, 0) := rfl
theorem f13_139 : gFetch 13 139 = some (.invokevirtual 39, 3, 93, 1) := rfl
theorem f13_142 : gFetch 13 142 = some (.ireturn, 1, 0, 0) := rfl
theorem f13_143 : gFetch 13 143 = some (.aload_n 0, 1, 0, 0) := rfl
theorem f13_144 : gFetch 13 144 = some (.iload_n 2, 1, 0, 0) := rfl
theorem f13_145 : gFetch 13 145 = some (.invokevirtual 43, 3, 87, 2) := rfl
theorem f13_148 : gFetch 13 148 = some (.ireturn, 1, 0, 0) := rfl
theorem f13_149 : gFetch 13 149 = some (.aload_n 0, 1, 0, 0) := rfl
theorem f13_150 : gFetch 13 150 = some (.iload_n 2, 1, 0, 0) := rfl
theorem f13_151 : gFetch 13 151 = some (.iload_n 3, 1, 0, 0) := rfl
theorem f13_152 : gFetch 13 152 = some (.invokevirtual 47, 3, 79, 3) := rfl
theorem f13_155 : gFetch 13 155 = some (.ireturn, 1, 0, 0) := rfl
theorem f13_156 : gFetch 13 156 = some (.aload_n 0, 1, 0, 0) := rfl
theorem f13_157 : gFetch 13 157 = some (.iload_n 2, 1, 0, 0) := rfl
theorem f13_158 : gFetch 13 158 = some (.invokevirtual 50, 3, 78, 2) := rfl
theorem f13_161 : gFetch 13 161 = some (.ireturn, 1, 0, 0) := rfl
theorem f13_162 : gFetch 13 162 = some (.aload_n 0, 1, 0, 0) := rfl
theorem f13_163 : gFetch 13 163 = some (.iload_n 2, 1, 0, 0) := rfl
theorem f13_164 : gFetch 13 164 = some (.invokevirtual 53, 3, 84, 2) := rfl
theorem f13_167 : gFetch 13 167 = some (.ireturn, 1, 0, 0) := rfl
theorem f13_168 : gFetch 13 168 = some (.aload_n 0, 1, 0, 0) := rfl
theorem f13_169 : gFetch 13 169 = some (.iload_n 2, 1, 0, 0) := rfl
theorem f13_170 : gFetch 13 170 = some (.invokevirtual 56, 3, 30, 2) := rfl
theorem f13_173 : gFetch 13 173 = some (.ireturn, 1, 0, 0) := rfl
theorem f13_174 : gFetch 13 174 = some (.aload_n 0, 1, 0, 0) := rfl
theorem f13_175 : gFetch 13 175 = some (.iload_n 2, 1, 0, 0) := rfl
theorem f13_176 : gFetch 13 176 = some (.invokevirtual 59, 3, 51, 2) := rfl
theorem f13_179 : gFetch 13 179 = some (.ireturn, 1, 0, 0) := rfl
theorem f13_180 : gFetch 13 180 = some (.aload_n 0, 1, 0, 0) := rfl
theorem f13_181 : gFetch 13 181 = some (.iload_n 2, 1, 0, 0) := rfl
theorem f13_182 : gFetch 13 182 = some (.invokevirtual 62, 3, 31, 2) := rfl
theorem f13_185 : gFetch 13 185 = some (.ireturn, 1, 0, 0) := rfl
theorem f13_186 : gFetch 13 186 = some (.aload_n 0, 1, 0, 0) := rfl
theorem f13_187 : gFetch 13 187 = some (.iload_n 2, 1, 0, 0) := rfl
theorem f13_188 : gFetch 13 188 = some (.invokevirtual 65, 3, 98, 2) := rfl
theorem f13_191 : gFetch 13 191 = some (.ireturn, 1, 0, 0) := rfl
theorem f13_192 : gFetch 13 192 = some (.aload_n 0, 1, 0, 0) := rfl
theorem f13_193 : gFetch 13 193 = some (.invokevirtual 68, 3, 94, 1) := rfl
theorem f13_196 : gFetch 13 196 = some (.ireturn, 1, 0, 0) := rfl
theorem f13_197 : gFetch 13 197 = some (.aload_n 0, 1, 0, 0) := rfl
theorem f13_198 : gFetch 13 198 = some (.invokevirtual 71, 3, 23, 1) := rfl
theorem f13_201 : gFetch 13 201 = some (.ireturn, 1, 0, 0) := rfl
theorem f13_202 : gFetch 13 202 = some (.aload_n 0, 1, 0, 0) := rfl
theorem f13_203 : gFetch 13 203 = some (.iload_n 2, 1, 0, 0) := rfl
theorem f13_204 : gFetch 13 204 = some (.invokevirtual 74, 3, 88, 2) := rfl
theorem f13_207 : gFetch 13 207 = some (.ireturn, 1, 0, 0) := rfl
theorem f14_0 : gFetch 14 0 = some (.bipush 20, 2, 0, 0) := rfl
theorem f14_2 : gFetch 14 2 = some (.newarray .int, 2, 0, 0) := rfl
theorem f14_4 : gFetch 14 4 = some (.dup, 1, 0, 0) := rfl
theorem f14_5 : gFetch 14 5 = some (.iconst 0, 1, 0, 0) := rfl
theorem f14_6 : gFetch 14 6 = some (.iload_n 2, 1, 0, 0) := rfl
theorem f14_7 : gFetch 14 7 = some (.iastore, 1, 0, 0) := rfl
theorem f14_8 : gFetch 14 8 = some (.dup, 1, 0, 0) := rfl
theorem f14_9 : gFetch 14 9 = some (.iconst 1, 1, 0, 0) := rfl
theorem f14_10 : gFetch 14 10 = some (.iload_n 3, 1, 0, 0) := rfl
theorem f14_11 : gFetch 14 11 = some (.iastore, 1, 0, 0) := rfl
theorem f14_12 : gFetch 14 12 = some (.dup, 1, 0, 0) := rfl
theorem f14_13 : gFetch 14 13 = some (.iconst 2, 1, 0, 0) := rfl
theorem f14_14 : gFetch 14 14 = some (.iload 4, 2, 0, 0) := rfl
theorem f14_16 : gFetch 14 16 = some (.iastore, 1, 0, 0) := rfl
theorem f14_17 : gFetch 14 17 = some (.dup, 1, 0, 0) := rfl
theorem f14_18 : gFetch 14 18 = some (.iconst 3, 1, 0, 0) := rfl
theorem f14_19 : gFetch 14 19 = some (.iload 5, 2, 0, 0) := rfl
theorem f14_21 : gFetch 14 21 = some (.iastore, 1, 0, 0) := rfl
theorem f14_22 : gFetch 14 22 = some (.dup, 1, 0, 0) := rfl
theorem f14_23 : gFetch 14 23 = some (.iconst 4, 1, 0, 0) := rfl
theorem f14_24 : gFetch 14 24 = some (.iload 6, 2, 0, 0) := rfl
theorem f14_26 : gFetch 14 26 = some (.iastore, 1, 0, 0) := rfl
theorem f14_27 : gFetch 14 27 = some (.dup, 1, 0, 0) := rfl
theorem f14_28 : gFetch 14 28 = some (.iconst 5, 1, 0, 0) := rfl
theorem f14_29 : gFetch 14 29 = some (.iconst 0, 1, 0, 0) := rfl
theorem f14_30 : gFetch 14 30 = some (.iastore, 1, 0, 0) := rfl
theorem f14_31 : gFetch 14 31 = some (.dup, 1, 0, 0) := rfl
theorem f14_32 : gFetch 14 32 = some (.bipush 6, 2, 0, 0) := rfl
theorem f14_34 : gFetch 14 34 = some (.iconst 0, 1, 0, 0) := rfl
theorem f14_35 : gFetch 14 35 = some (.iastore, 1, 0, 0) := rfl
theorem f14_36 : gFetch 14 36 = some (.dup, 1, 0, 0) := rfl
theorem f14_37 : gFetch 14 37 = some (.bipush 7, 2, 0, 0) := rfl
theorem f14_39 : gFetch 14 39 = some (.iconst 0, 1, 0, 0) := rfl
theorem f14_40 : gFetch 14 40 = some (.iastore, 1, 0, 0) := rfl
theorem f14_41 : gFetch 14 41 = some (.dup, 1, 0, 0) := rfl
theorem f14_42 : gFetch 14 42 = some (.bipush 8, 2, 0, 0) := rfl
theorem f14_44 : gFetch 14 44 = some (.iconst 0, 1, 0, 0) := rfl
theorem f14_45 : gFetch 14 45 = some (.iastore, 1, 0, 0) := rfl
theorem f14_46 : gFetch 14 46 = some (.dup, 1, 0, 0) := rfl
theorem f14_47 : gFetch 14 47 = some (.bipush 9, 2, 0, 0) := rfl
theorem f14_49 : gFetch 14 49 = some (.iconst 0, 1, 0, 0) := rfl
theorem f14_50 : gFetch 14 50 = some (.iastore, 1, 0, 0) := rfl
theorem f14_51 : gFetch 14 51 = some (.dup, 1, 0, 0) := rfl
theorem f14_52 : gFetch 14 52 = some (.bipush 10, 2, 0, 0) := rfl
theorem f14_54 : gFetch 14 54 = some (.iconst 0, 1, 0, 0) := rfl
theorem f14_55 : gFetch 14 55 = some (.iastore, 1, 0, 0) := rfl
theorem f14_56 : gFetch 14 56 = some (.dup, 1, 0, 0) := rfl
theorem f14_57 : gFetch 14 57 = some (.bipush 11, 2, 0, 0) := rfl
theorem f14_59 : gFetch 14 59 = some (.iconst 0, 1, 0, 0) := rfl
theorem f14_60 : gFetch 14 60 = some (.iastore, 1, 0, 0) := rfl
theorem f14_61 : gFetch 14 61 = some (.dup, 1, 0, 0) := rfl
theorem f14_62 : gFetch 14 62 = some (.bipush 12, 2, 0, 0) := rfl
theorem f14_64 : gFetch 14 64 = some (.iconst 0, 1, 0, 0) := rfl
theorem f14_65 : gFetch 14 65 = some (.iastore, 1, 0, 0) := rfl
theorem f14_66 : gFetch 14 66 = some (.dup, 1, 0, 0) := rfl
theorem f14_67 : gFetch 14 67 = some (.bipush 13, 2, 0, 0) := rfl
theorem f14_69 : gFetch 14 69 = some (.iconst 0, 1, 0, 0) := rfl
theorem f14_70 : gFetch 14 70 = some (.iastore, 1, 0, 0) := rfl
theorem f14_71 : gFetch 14 71 = some (.dup, 1, 0, 0) := rfl
theorem f14_72 : gFetch 14 72 = some (.bipush 14, 2, 0, 0) := rfl
theorem f14_74 : gFetch 14 74 = some (.iconst 0, 1, 0, 0) := rfl
theorem f14_75 : gFetch 14 75 = some (.iastore, 1, 0, 0) := rfl
theorem f14_76 : gFetch 14 76 = some (.dup, 1, 0, 0) := rfl
theorem f14_77 : gFetch 14 77 = some (.bipush 15, 2, 0, 0) := rfl
theorem f14_79 : gFetch 14 79 = some (.iconst 0, 1, 0, 0) := rfl
theorem f14_80 : gFetch 14 80 = some (.iastore, 1, 0, 0) := rfl
theorem f14_81 : gFetch 14 81 = some (.dup, 1, 0, 0) := rfl
theorem f14_82 : gFetch 14 82 = some (.bipush 16, 2, 0, 0) := rfl
theorem f14_84 : gFetch 14 84 = some (.iconst 0, 1, 0, 0) := rfl
theorem f14_85 : gFetch 14 85 = some (.iastore, 1, 0, 0) := rfl
theorem f14_86 : gFetch 14 86 = some (.dup, 1, 0, 0) := rfl
theorem f14_87 : gFetch 14 87 = some (.bipush 17, 2, 0, 0) := rfl
theorem f14_89 : gFetch 14 89 = some (.iconst 0, 1, 0, 0) := rfl
theorem f14_90 : gFetch 14 90 = some (.iastore, 1, 0, 0) := rfl
theorem f14_91 : gFetch 14 91 = some (.dup, 1, 0, 0) := rfl
theorem f14_92 : gFetch 14 92 = some (.bipush 18, 2, 0, 0) := rfl
theorem f14_94 : gFetch 14 94 = some (.iconst 0, 1, 0, 0) := rfl
theorem f14_95 : gFetch 14 95 = some (.iastore, 1, 0, 0) := rfl
theorem f14_96 : gFetch 14 96 = some (.dup, 1, 0, 0) := rfl
theorem f14_97 : gFetch 14 97 = some (.bipush 19, 2, 0, 0) := rfl
theorem f14_99 : gFetch 14 99 = some (.iconst 0, 1, 0, 0) := rfl
theorem f14_100 : gFetch 14 100 = some (.iastore, 1, 0, 0) := rfl
theorem f14_101 : gFetch 14 101 = some (.astore 7, 2, 0, 0) := rfl
theorem f14_103 : gFetch 14 103 = some (.aload_n 1, 1, 0, 0) := rfl
theorem f14_104 : gFetch 14 104 = some (.iconst 0, 1, 0, 0) := rfl
theorem f14_105 : gFetch 14 105 = some (.dup2, 1, 0, 0) := rfl
theorem f14_106 : gFetch 14 106 = some (.iaload, 1, 0, 0) := rfl
theorem f14_107 : gFetch 14 107 = some (.iconst 1, 1, 0, 0) := rfl
theorem f14_108 : gFetch 14 108 = some (.iadd, 1, 0, 0) := rfl
theorem f14_109 : gFetch 14 109 = some (.iastore, 1, 0, 0) := rfl
theorem f14_110 : gFetch 14 110 = some (.aload_n 0, 1, 0, 0) := rfl
theorem f14_111 : gFetch 14 111 = some (.aload_n 1, 1, 0, 0) := rfl
theorem f14_112 : gFetch 14 112 = some (.iconst 0, 1, 0, 0) := rfl
theorem f14_113 : gFetch 14 113 = some (.iaload, 1, 0, 0) := rfl
theorem f14_114 : gFetch 14 114 = some (.aload 7, 2, 0, 0) := rfl
theorem f14_116 : gFetch 14 116 = some (.aastore, 1, 0, 0) := rfl
theorem f14_117 : gFetch 14 117 = some (.aload 7, 2, 0, 0) := rfl
theorem f14_119 : gFetch 14 119 = some (.areturn, 1, 0, 0) := rfl
theorem f15_0 : gFetch 15 0 = some (.iload_n 1, 1, 0, 0) := rfl
theorem f15_1 : gFetch 15 1 = some (.tableswitch 168 0 11 #[63, 72, 81, 87, 93, 100, 109, 118, 127, 137, 147, 161], 63, 0, 0) := rfl
theorem f15_64 : gFetch 15 64 = some (.aload_n 0, 1, 0, 0) := rfl
theorem f15_65 : gFetch 15 65 = some (.iload_n 2, 1, 0, 0) := rfl
theorem f15_66 : gFetch 15 66 = some (.iload_n 3, 1, 0, 0) := rfl
theorem f15_67 : gFetch 15 67 = some (.iload 4, 2, 0, 0) := rfl
theorem f15_69 : gFetch 15 69 = some (.invokevirtual 93, 3, 55, 4) := rfl
theorem f15_72 : gFetch 15 72 = some (.ireturn, 1, 0, 0) := rfl
theorem f15_73 : gFetch 15 73 = some (.aload_n 0, 1, 0, 0) := rfl
theorem f15_74 : gFetch 15 74 = some (.iload_n 2, 1, 0, 0) := rfl
theorem f15_75 : gFetch 15 75 = some (.iload_n 3, 1, 0, 0) := rfl
theorem f15_76 : gFetch 15 76 = some (.iload 4, 2, 0, 0) := rfl
theorem f15_78 : gFetch 15 78 = some (.invokevirtual 96, 3, 56, 4) := rfl
theorem f15_81 : gFetch 15 81 = some (.ireturn, 1, 0, 0) := rfl
theorem f15_82 : gFetch 15 82 = some (.aload_n 0, 1, 0, 0) := rfl
theorem f15_83 : gFetch 15 83 = some (.iload_n 2, 1, 0, 0) := rfl
theorem f15_84 : gFetch 15 84 = some (.invokevirtual 99, 3, 96, 2) := rfl
theorem f15_87 : gFetch 15 87 = some (.ireturn, 1, 0, 0) := rfl
theorem f15_88 : gFetch 15 88 = some (.aload_n 0, 1, 0, 0) := rfl
theorem f15_89 : gFetch 15 89 = some (.iload_n 2, 1, 0, 0) := rfl
theorem f15_90 : gFetch 15 90 = some (.invokevirtual 102, 3, 58, 2) := rfl
theorem f15_93 : gFetch 15 93 = some (.ireturn, 1, 0, 0) := rfl
theorem f15_94 : gFetch 15 94 = some (.aload_n 0, 1, 0, 0) := rfl
theorem f15_95 : gFetch 15 95 = some (.iload_n 2, 1, 0, 0) := rfl
theorem f15_96 : gFetch 15 96 = some (.iload_n 3, 1, 0, 0) := rfl
theorem f15_97 : gFetch 15 97 = some (.invokevirtual 105, 3, 90, 3) := rfl
theorem f15_100 : gFetch 15 100 = some (.ireturn, 1, 0, 0) := rfl
theorem f15_101 : gFetch 15 101 = some (.aload_n 0, 1, 0, 0) := rfl
theorem f15_102 : gFetch 15 102 = some (.iload_n 2, 1, 0, 0) := rfl
theorem f15_103 : gFetch 15 103 = some (.iload_n 3, 1, 0, 0) := rfl
theorem f15_104 : gFetch 15 104 = some (.iload 4, 2, 0, 0) := rfl
theorem f15_106 : gFetch 15 106 = some (.invokevirtual 108, 3, 48, 4) := rfl
theorem f15_109 : gFetch 15 109 = some (.ireturn, 1, 0, 0) := rfl
theorem f15_110 : gFetch 15 110 = some (.aload_n 0, 1, 0, 0) := rfl
theorem f15_111 : gFetch 15 111 = some (.iload_n 2, 1, 0, 0) := rfl
theorem f15_112 : gFetch 15 112 = some (.iload_n 3, 1, 0, 0) := rfl
theorem f15_113 : gFetch 15 113 = some (.iload 4, 2, 0, 0) := rfl
theorem f15_115 : gFetch 15 115 = some (.invokevirtual 111, 3, 45, 4) := rfl
theorem f15_118 : gFetch 15 118 = some (.ireturn, 1, 0, 0) := rfl
theorem f15_119 : gFetch 15 119 = some (.aload_n 0, 1, 0, 0) := rfl
theorem f15_120 : gFetch 15 120 = some (.iload_n 2, 1, 0, 0) := rfl
theorem f15_121 : gFetch 15 121 = some (.iload_n 3, 1, 0, 0) := rfl
theorem f15_122 : gFetch 15 122 = some (.iload 4, 2, 0, 0) := rfl
theorem f15_124 : gFetch 15 124 = some (.invokevirtual 114, 3, 86, 4) := rfl
theorem f15_127 : gFetch 15 127 = some (.ireturn, 1, 0, 0) := rfl
theorem f15_128 : gFetch 15 128 = some (.aload_n 0, 1, 0, 0) := rfl
theorem f15_129 : gFetch 15 129 = some (.iload_n 2, 1, 0, 0) := rfl
theorem f15_130 : gFetch 15 130 = some (.iload_n 3, 1, 0, 0) := rfl
theorem f15_131 : gFetch 15 131 = some (.iload 4, 2, 0, 0) := rfl
theorem f15_133 : gFetch 15 133 = some (.iconst 0, 1, 0, 0) := rfl
theorem f15_134 : gFetch 15 134 = some (.invokevirtual 117, 3, 27, 5) := rfl
theorem f15_137 : gFetch 15 137 = some (.ireturn, 1, 0, 0) := rfl
theorem f15_138 : gFetch 15 138 = some (.aload_n 0, 1, 0, 0) := rfl
theorem f15_139 : gFetch 15 139 = some (.iload_n 2, 1, 0, 0) := rfl
theorem f15_140 : gFetch 15 140 = some (.iload_n 3, 1, 0, 0) := rfl
theorem f15_141 : gFetch 15 141 = some (.iload 4, 2, 0, 0) := rfl
theorem f15_143 : gFetch 15 143 = some (.iconst 1, 1, 0, 0) := rfl
theorem f15_144 : gFetch 15 144 = some (.invokevirtual 117, 3, 27, 5) := rfl
theorem f15_147 : gFetch 15 147 = some (.ireturn, 1, 0, 0) := rfl
theorem f15_148 : gFetch 15 148 = some (.aload_n 0, 1, 0, 0) := rfl
theorem f15_149 : gFetch 15 149 = some (.iload_n 2, 1, 0, 0) := rfl
theorem f15_150 : gFetch 15 150 = some (.iload_n 3, 1, 0, 0) := rfl
theorem f15_151 : gFetch 15 151 = some (.iload 4, 2, 0, 0) := rfl
theorem f15_153 : gFetch 15 153 = some (.iload 5, 2, 0, 0) := rfl
theorem f15_155 : gFetch 15 155 = some (.invokevirtual 121, 3, 81, 5) := rfl
theorem f15_158 : gFetch 15 158 = some (.invokestatic 125, 3, 7, 1) := rfl
theorem f15_161 : gFetch 15 161 = some (.ireturn, 1, 0, 0) := rfl
theorem f15_162 : gFetch 15 162 = some (.aload_n 0, 1, 0, 0) := rfl
theorem f15_163 : gFetch 15 163 = some (.iload_n 2, 1, 0, 0) := rfl
theorem f15_164 : gFetch 15 164 = some (.iload_n 3, 1, 0, 0) := rfl
theorem f15_165 : gFetch 15 165 = some (.invokevirtual 129, 3, 91, 3) := rfl
theorem f15_168 : gFetch 15 168 = some (.ireturn, 1, 0, 0) := rfl
theorem f15_169 : gFetch 15 169 = some (.aload_n 0, 1, 0, 0) := rfl
theorem f15_170 : gFetch 15 170 = some (.iload_n 2, 1, 0, 0) := rfl
theorem f15_171 : gFetch 15 171 = some (.iload_n 3, 1, 0, 0) := rfl
theorem f15_172 : gFetch 15 172 = some (.invokevirtual 132, 3, 37, 3) := rfl
theorem f15_175 : gFetch 15 175 = some (.ireturn, 1, 0, 0) := rfl
theorem f16_0 : gFetch 16 0 = some (.iload_n 1, 1, 0, 0) := rfl
theorem f16_1 : gFetch 16 1 = some (.aload_n 0, 1, 0, 0) := rfl
theorem f16_2 : gFetch 16 2 = some (.iconst 2, 1, 0, 0) := rfl
theorem f16_3 : gFetch 16 3 = some (.iaload, 1, 0, 0) := rfl
theorem f16_4 : gFetch 16 4 = some (.if_icmp .lt 32, 3, 36, 0) := rfl
theorem f16_7 : gFetch 16 7 = some (.iload_n 1, 1, 0, 0) := rfl
theorem f16_8 : gFetch 16 8 = some (.aload_n 0, 1, 0, 0) := rfl
theorem f16_9 : gFetch 16 9 = some (.iconst 3, 1, 0, 0) := rfl
theorem f16_10 : gFetch 16 10 = some (.iaload, 1, 0, 0) := rfl
theorem f16_11 : gFetch 16 11 = some (.if_icmp .gt 25, 3, 36, 0) := rfl
theorem f16_14 : gFetch 16 14 = some (.aload_n 0, 1, 0, 0) := rfl
theorem f16_15 : gFetch 16 15 = some (.iconst 5, 1, 0, 0) := rfl
theorem f16_16 : gFetch 16 16 = some (.iaload, 1, 0, 0) := rfl
theorem f16_17 : gFetch 16 17 = some (.ifCond .eq 15, 3, 32, 0) := rfl
theorem f16_20 : gFetch 16 20 = some (.iload_n 1, 1, 0, 0) := rfl
theorem f16_21 : gFetch 16 21 = some (.aload_n 0, 1, 0, 0) := rfl
theorem f16_22 : gFetch 16 22 = some (.iconst 2, 1, 0, 0) := rfl
theorem f16_23 : gFetch 16 23 = some (.iaload, 1, 0, 0) := rfl
theorem f16_24 : gFetch 16 24 = some (.isub, 1, 0, 0) := rfl
theorem f16_25 : gFetch 16 25 = some (.aload_n 0, 1, 0, 0) := rfl
theorem f16_26 : gFetch 16 26 = some (.iconst 5, 1, 0, 0) := rfl
theorem f16_27 : gFetch 16 27 = some (.iaload, 1, 0, 0) := rfl
theorem f16_28 : gFetch 16 28 = some (.irem, 1, 0, 0) := rfl
theorem f16_29 : gFetch 16 29 = some (.ifCond .ne 7, 3, 36, 0) := rfl
theorem f16_32 : gFetch 16 32 = some (.iconst 1, 1, 0, 0) := rfl
theorem f16_33 : gFetch 16 33 = some (.goto 4, 3, 37, 0) := rfl
theorem f16_36 : gFetch 16 36 = some (.iconst 0, 1, 0, 0) := rfl
theorem f16_37 : gFetch 16 37 = some (.ireturn, 1, 0, 0) := rfl
theorem f17_0 : gFetch 17 0 = some (.iload_n 0, 1, 0, 0) := rfl
theorem f17_1 : gFetch 17 1 = some (.bipush 43, 2, 0, 0) := rfl
theorem f17_3 : gFetch 17 3 = some (.if_icmp .ne 9, 3, 12, 0) := rfl
theorem f17_6 : gFetch 17 6 = some (.iload_n 1, 1, 0, 0) := rfl
theorem f17_7 : gFetch 17 7 = some (.iload_n 2, 1, 0, 0) := rfl
theorem f17_8 : gFetch 17 8 = some (.iadd, 1, 0, 0) := rfl
theorem f17_9 : gFetch 17 9 = some (.goto 22, 3, 31, 0) := rfl
theorem f17_12 : gFetch 17 12 = some (.iload_n 0, 1, 0, 0) := rfl
theorem f17_13 : gFetch 17 13 = some (.bipush 62, 2, 0, 0) := rfl
theorem f17_15 : gFetch 17 15 = some (.if_icmp .ne 11, 3, 26, 0) := rfl
theorem f17_18 : gFetch 17 18 = some (.iload_n 1, 1, 0, 0) := rfl
theorem f17_19 : gFetch 17 19 = some (.iload_n 2, 1, 0, 0) := rfl
theorem f17_20 : gFetch 17 20 = some (.invokestatic 139, 3, 156, 2) := rfl
theorem f17_23 : gFetch 17 23 = some (.goto 8, 3, 31, 0) := rfl
theorem f17_26 : gFetch 17 26 = some (.iload_n 1, 1, 0, 0) := rfl
theorem f17_27 : gFetch 17 27 = some (.iload_n 2, 1, 0, 0) := rfl
theorem f17_28 : gFetch 17 28 = some (.invokestatic 144, 3, 157, 2) := rfl
theorem f17_31 : gFetch 17 31 = some (.ireturn, 1, 0, 0) := rfl
