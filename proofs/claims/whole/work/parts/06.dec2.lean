theorem dX10_init_0 : decode cX10_init 0 = .ok (.aload_n 0, 1) := by decide +kernel
theorem dX10_init_1 : decode cX10_init 1 = .ok (.invokespecial 1, 3) := by decide +kernel
theorem dX10_init_4 : decode cX10_init 4 = .ok (.aload_n 0, 1) := by decide +kernel
theorem dX10_init_5 : decode cX10_init 5 = .ok (.sipush 480, 3) := by decide +kernel
theorem dX10_init_8 : decode cX10_init 8 = .ok (.newarray .int, 2) := by decide +kernel
theorem dX10_init_10 : decode cX10_init 10 = .ok (.putfield 7, 3) := by decide +kernel
theorem dX10_init_13 : decode cX10_init 13 = .ok (.aload_n 0, 1) := by decide +kernel
theorem dX10_init_14 : decode cX10_init 14 = .ok (.bipush 8, 2) := by decide +kernel
theorem dX10_init_16 : decode cX10_init 16 = .ok (.newarray .int, 2) := by decide +kernel
theorem dX10_init_18 : decode cX10_init 18 = .ok (.putfield 13, 3) := by decide +kernel
theorem dX10_init_21 : decode cX10_init 21 = .ok (.aload_n 0, 1) := by decide +kernel
theorem dX10_init_22 : decode cX10_init 22 = .ok (.bipush 8, 2) := by decide +kernel
theorem dX10_init_24 : decode cX10_init 24 = .ok (.newarray .int, 2) := by decide +kernel
theorem dX10_init_26 : decode cX10_init 26 = .ok (.putfield 16, 3) := by decide +kernel
theorem dX10_init_29 : decode cX10_init 29 = .ok (.aload_n 0, 1) := by decide +kernel
theorem dX10_init_30 : decode cX10_init 30 = .ok (.bipush 8, 2) := by decide +kernel
theorem dX10_init_32 : decode cX10_init 32 = .ok (.newarray .int, 2) := by decide +kernel
theorem dX10_init_34 : decode cX10_init 34 = .ok (.putfield 19, 3) := by decide +kernel
theorem dX10_init_37 : decode cX10_init 37 = .ok (.aload_n 0, 1) := by decide +kernel
theorem dX10_init_38 : decode cX10_init 38 = .ok (.bipush 24, 2) := by decide +kernel
theorem dX10_init_40 : decode cX10_init 40 = .ok (.newarray .int, 2) := by decide +kernel
theorem dX10_init_42 : decode cX10_init 42 = .ok (.putfield 22, 3) := by decide +kernel
theorem dX10_init_45 : decode cX10_init 45 = .ok (.aload_n 0, 1) := by decide +kernel
theorem dX10_init_46 : decode cX10_init 46 = .ok (.bipush 24, 2) := by decide +kernel
theorem dX10_init_48 : decode cX10_init 48 = .ok (.newarray .int, 2) := by decide +kernel
theorem dX10_init_50 : decode cX10_init 50 = .ok (.putfield 25, 3) := by decide +kernel
theorem dX10_init_53 : decode cX10_init 53 = .ok (.aload_n 0, 1) := by decide +kernel
theorem dX10_init_54 : decode cX10_init 54 = .ok (.bipush 24, 2) := by decide +kernel
theorem dX10_init_56 : decode cX10_init 56 = .ok (.newarray .int, 2) := by decide +kernel
theorem dX10_init_58 : decode cX10_init 58 = .ok (.putfield 28, 3) := by decide +kernel
theorem dX10_init_61 : decode cX10_init 61 = .ok (.aload_n 0, 1) := by decide +kernel
theorem dX10_init_62 : decode cX10_init 62 = .ok (.bipush 24, 2) := by decide +kernel
theorem dX10_init_64 : decode cX10_init 64 = .ok (.newarray .int, 2) := by decide +kernel
theorem dX10_init_66 : decode cX10_init 66 = .ok (.putfield 31, 3) := by decide +kernel
theorem dX10_init_69 : decode cX10_init 69 = .ok (.aload_n 0, 1) := by decide +kernel
theorem dX10_init_70 : decode cX10_init 70 = .ok (.bipush 24, 2) := by decide +kernel
theorem dX10_init_72 : decode cX10_init 72 = .ok (.newarray .int, 2) := by decide +kernel
theorem dX10_init_74 : decode cX10_init 74 = .ok (.putfield 34, 3) := by decide +kernel
theorem dX10_init_77 : decode cX10_init 77 = .ok (.aload_n 0, 1) := by decide +kernel
theorem dX10_init_78 : decode cX10_init 78 = .ok (.bipush 24, 2) := by decide +kernel
theorem dX10_init_80 : decode cX10_init 80 = .ok (.newarray .int, 2) := by decide +kernel
theorem dX10_init_82 : decode cX10_init 82 = .ok (.putfield 37, 3) := by decide +kernel
theorem dX10_init_85 : decode cX10_init 85 = .ok (.aload_n 0, 1) := by decide +kernel
theorem dX10_init_86 : decode cX10_init 86 = .ok (.bipush 24, 2) := by decide +kernel
theorem dX10_init_88 : decode cX10_init 88 = .ok (.newarray .int, 2) := by decide +kernel
theorem dX10_init_90 : decode cX10_init 90 = .ok (.putfield 40, 3) := by decide +kernel
theorem dX10_init_93 : decode cX10_init 93 = .ok (.aload_n 0, 1) := by decide +kernel
theorem dX10_init_94 : decode cX10_init 94 = .ok (.bipush 9, 2) := by decide +kernel
theorem dX10_init_96 : decode cX10_init 96 = .ok (.newarray .int, 2) := by decide +kernel
theorem dX10_init_98 : decode cX10_init 98 = .ok (.putfield 43, 3) := by decide +kernel
theorem dX10_init_101 : decode cX10_init 101 = .ok (.aload_n 0, 1) := by decide +kernel
theorem dX10_init_102 : decode cX10_init 102 = .ok (.bipush 60, 2) := by decide +kernel
theorem dX10_init_104 : decode cX10_init 104 = .ok (.newarray .int, 2) := by decide +kernel
theorem dX10_init_106 : decode cX10_init 106 = .ok (.putfield 46, 3) := by decide +kernel
theorem dX10_init_109 : decode cX10_init 109 = .ok (.aload_n 0, 1) := by decide +kernel
theorem dX10_init_110 : decode cX10_init 110 = .ok (.bipush 60, 2) := by decide +kernel
theorem dX10_init_112 : decode cX10_init 112 = .ok (.newarray .int, 2) := by decide +kernel
theorem dX10_init_114 : decode cX10_init 114 = .ok (.putfield 49, 3) := by decide +kernel
theorem dX10_init_117 : decode cX10_init 117 = .ok (.aload_n 0, 1) := by decide +kernel
theorem dX10_init_118 : decode cX10_init 118 = .ok (.sipush 440, 3) := by decide +kernel
theorem dX10_init_121 : decode cX10_init 121 = .ok (.newarray .int, 2) := by decide +kernel
theorem dX10_init_123 : decode cX10_init 123 = .ok (.putfield 52, 3) := by decide +kernel
theorem dX10_init_126 : decode cX10_init 126 = .ok (.aload_n 0, 1) := by decide +kernel
theorem dX10_init_127 : decode cX10_init 127 = .ok (.bipush 11, 2) := by decide +kernel
theorem dX10_init_129 : decode cX10_init 129 = .ok (.newarray .int, 2) := by decide +kernel
theorem dX10_init_131 : decode cX10_init 131 = .ok (.putfield 55, 3) := by decide +kernel
theorem dX10_init_134 : decode cX10_init 134 = .ok (.aload_n 0, 1) := by decide +kernel
theorem dX10_init_135 : decode cX10_init 135 = .ok (.bipush 10, 2) := by decide +kernel
theorem dX10_init_137 : decode cX10_init 137 = .ok (.newarray .int, 2) := by decide +kernel
theorem dX10_init_139 : decode cX10_init 139 = .ok (.putfield 58, 3) := by decide +kernel
theorem dX10_init_142 : decode cX10_init 142 = .ok (.aload_n 0, 1) := by decide +kernel
theorem dX10_init_143 : decode cX10_init 143 = .ok (.bipush 10, 2) := by decide +kernel
theorem dX10_init_145 : decode cX10_init 145 = .ok (.newarray .int, 2) := by decide +kernel
theorem dX10_init_147 : decode cX10_init 147 = .ok (.putfield 61, 3) := by decide +kernel
theorem dX10_init_150 : decode cX10_init 150 = .ok (.aload_n 0, 1) := by decide +kernel
theorem dX10_init_151 : decode cX10_init 151 = .ok (.bipush 10, 2) := by decide +kernel
theorem dX10_init_153 : decode cX10_init 153 = .ok (.newarray .int, 2) := by decide +kernel
theorem dX10_init_155 : decode cX10_init 155 = .ok (.putfield 64, 3) := by decide +kernel
theorem dX10_init_158 : decode cX10_init 158 = .ok (.aload_n 0, 1) := by decide +kernel
theorem dX10_init_159 : decode cX10_init 159 = .ok (.bipush 10, 2) := by decide +kernel
theorem dX10_init_161 : decode cX10_init 161 = .ok (.newarray .int, 2) := by decide +kernel
theorem dX10_init_163 : decode cX10_init 163 = .ok (.putfield 67, 3) := by decide +kernel
theorem dX10_init_166 : decode cX10_init 166 = .ok (.aload_n 0, 1) := by decide +kernel
theorem dX10_init_167 : decode cX10_init 167 = .ok (.bipush 10, 2) := by decide +kernel
theorem dX10_init_169 : decode cX10_init 169 = .ok (.newarray .int, 2) := by decide +kernel
theorem dX10_init_171 : decode cX10_init 171 = .ok (.putfield 70, 3) := by decide +kernel
theorem dX10_init_174 : decode cX10_init 174 = .ok (.aload_n 0, 1) := by decide +kernel
theorem dX10_init_175 : decode cX10_init 175 = .ok (.bipush 10, 2) := by decide +kernel
theorem dX10_init_177 : decode cX10_init 177 = .ok (.newarray .boolean, 2) := by decide +kernel
theorem dX10_init_179 : decode cX10_init 179 = .ok (.putfield 73, 3) := by decide +kernel
theorem dX10_init_182 : decode cX10_init 182 = .ok (.aload_n 0, 1) := by decide +kernel
theorem dX10_init_183 : decode cX10_init 183 = .ok (.bipush 10, 2) := by decide +kernel
theorem dX10_init_185 : decode cX10_init 185 = .ok (.newarray .boolean, 2) := by decide +kernel
theorem dX10_init_187 : decode cX10_init 187 = .ok (.putfield 77, 3) := by decide +kernel
theorem dX10_init_190 : decode cX10_init 190 = .ok (.aload_n 0, 1) := by decide +kernel
theorem dX10_init_191 : decode cX10_init 191 = .ok (.bipush 10, 2) := by decide +kernel
theorem dX10_init_193 : decode cX10_init 193 = .ok (.newarray .boolean, 2) := by decide +kernel
theorem dX10_init_195 : decode cX10_init 195 = .ok (.putfield 80, 3) := by decide +kernel
theorem dX10_init_198 : decode cX10_init 198 = .ok (.aload_n 0, 1) := by decide +kernel
theorem dX10_init_199 : decode cX10_init 199 = .ok (.bipush 10, 2) := by decide +kernel
theorem dX10_init_201 : decode cX10_init 201 = .ok (.newarray .boolean, 2) := by decide +kernel
theorem dX10_init_203 : decode cX10_init 203 = .ok (.putfield 83, 3) := by decide +kernel
theorem dX10_init_206 : decode cX10_init 206 = .ok (.aload_n 0, 1) := by decide +kernel
theorem dX10_init_207 : decode cX10_init 207 = .ok (.bipush 61, 2) := by decide +kernel
theorem dX10_init_209 : decode cX10_init 209 = .ok (.newarray .int, 2) := by decide +kernel
theorem dX10_init_211 : decode cX10_init 211 = .ok (.putfield 86, 3) := by decide +kernel
theorem dX10_init_214 : decode cX10_init 214 = .ok (.aload_n 0, 1) := by decide +kernel
theorem dX10_init_215 : decode cX10_init 215 = .ok (.bipush 24, 2) := by decide +kernel
theorem dX10_init_217 : decode cX10_init 217 = .ok (.newarray .boolean, 2) := by decide +kernel
theorem dX10_init_219 : decode cX10_init 219 = .ok (.putfield 89, 3) := by decide +kernel
theorem dX10_init_222 : decode cX10_init 222 = .ok (.aload_n 0, 1) := by decide +kernel
theorem dX10_init_223 : decode cX10_init 223 = .ok (.sipush 576, 3) := by decide +kernel
theorem dX10_init_226 : decode cX10_init 226 = .ok (.newarray .boolean, 2) := by decide +kernel
theorem dX10_init_228 : decode cX10_init 228 = .ok (.putfield 92, 3) := by decide +kernel
theorem dX10_init_231 : decode cX10_init 231 = .ok (.aload_n 0, 1) := by decide +kernel
theorem dX10_init_232 : decode cX10_init 232 = .ok (.bipush 24, 2) := by decide +kernel
theorem dX10_init_234 : decode cX10_init 234 = .ok (.newarray .int, 2) := by decide +kernel
theorem dX10_init_236 : decode cX10_init 236 = .ok (.putfield 95, 3) := by decide +kernel
theorem dX10_init_239 : decode cX10_init 239 = .ok (.aload_n 0, 1) := by decide +kernel
theorem dX10_init_240 : decode cX10_init 240 = .ok (.bipush 24, 2) := by decide +kernel
theorem dX10_init_242 : decode cX10_init 242 = .ok (.newarray .boolean, 2) := by decide +kernel
theorem dX10_init_244 : decode cX10_init 244 = .ok (.putfield 98, 3) := by decide +kernel
theorem dX10_init_247 : decode cX10_init 247 = .ok (.aload_n 0, 1) := by decide +kernel
theorem dX10_init_248 : decode cX10_init 248 = .ok (.iconst 4, 1) := by decide +kernel
theorem dX10_init_249 : decode cX10_init 249 = .ok (.newarray .int, 2) := by decide +kernel
theorem dX10_init_251 : decode cX10_init 251 = .ok (.putfield 101, 3) := by decide +kernel
theorem dX10_init_254 : decode cX10_init 254 = .ok (.aload_n 0, 1) := by decide +kernel
theorem dX10_init_255 : decode cX10_init 255 = .ok (.sipush 400, 3) := by decide +kernel
theorem dX10_init_258 : decode cX10_init 258 = .ok (.newarray .int, 2) := by decide +kernel
theorem dX10_init_260 : decode cX10_init 260 = .ok (.putfield 104, 3) := by decide +kernel
theorem dX10_init_263 : decode cX10_init 263 = .ok (.aload_n 0, 1) := by decide +kernel
theorem dX10_init_264 : decode cX10_init 264 = .ok (.bipush 9, 2) := by decide +kernel
theorem dX10_init_266 : decode cX10_init 266 = .ok (.newarray .int, 2) := by decide +kernel
theorem dX10_init_268 : decode cX10_init 268 = .ok (.putfield 107, 3) := by decide +kernel
theorem dX10_init_271 : decode cX10_init 271 = .ok (.aload_n 0, 1) := by decide +kernel
theorem dX10_init_272 : decode cX10_init 272 = .ok (.bipush 9, 2) := by decide +kernel
theorem dX10_init_274 : decode cX10_init 274 = .ok (.newarray .int, 2) := by decide +kernel
theorem dX10_init_276 : decode cX10_init 276 = .ok (.putfield 110, 3) := by decide +kernel
theorem dX10_init_279 : decode cX10_init 279 = .ok (.aload_n 0, 1) := by decide +kernel
theorem dX10_init_280 : decode cX10_init 280 = .ok (.sipush 2560, 3) := by decide +kernel
theorem dX10_init_283 : decode cX10_init 283 = .ok (.newarray .boolean, 2) := by decide +kernel
theorem dX10_init_285 : decode cX10_init 285 = .ok (.putfield 113, 3) := by decide +kernel
theorem dX10_init_288 : decode cX10_init 288 = .ok (.aload_n 0, 1) := by decide +kernel
theorem dX10_init_289 : decode cX10_init 289 = .ok (.iconst 4, 1) := by decide +kernel
theorem dX10_init_290 : decode cX10_init 290 = .ok (.newarray .int, 2) := by decide +kernel
theorem dX10_init_292 : decode cX10_init 292 = .ok (.putfield 116, 3) := by decide +kernel
theorem dX10_init_295 : decode cX10_init 295 = .ok (.aload_n 0, 1) := by decide +kernel
theorem dX10_init_296 : decode cX10_init 296 = .ok (.bipush 8, 2) := by decide +kernel
theorem dX10_init_298 : decode cX10_init 298 = .ok (.newarray .int, 2) := by decide +kernel
theorem dX10_init_300 : decode cX10_init 300 = .ok (.putfield 119, 3) := by decide +kernel
theorem dX10_init_303 : decode cX10_init 303 = .ok (.aload_n 0, 1) := by decide +kernel
theorem dX10_init_304 : decode cX10_init 304 = .ok (.bipush 40, 2) := by decide +kernel
theorem dX10_init_306 : decode cX10_init 306 = .ok (.newarray .int, 2) := by decide +kernel
theorem dX10_init_308 : decode cX10_init 308 = .ok (.putfield 122, 3) := by decide +kernel
theorem dX10_init_311 : decode cX10_init 311 = .ok (.aload_n 0, 1) := by decide +kernel
theorem dX10_init_312 : decode cX10_init 312 = .ok (.bipush 8, 2) := by decide +kernel
theorem dX10_init_314 : decode cX10_init 314 = .ok (.newarray .int, 2) := by decide +kernel
theorem dX10_init_316 : decode cX10_init 316 = .ok (.putfield 125, 3) := by decide +kernel
theorem dX10_init_319 : decode cX10_init 319 = .ok (.aload_n 0, 1) := by decide +kernel
theorem dX10_init_320 : decode cX10_init 320 = .ok (.bipush 8, 2) := by decide +kernel
theorem dX10_init_322 : decode cX10_init 322 = .ok (.newarray .int, 2) := by decide +kernel
theorem dX10_init_324 : decode cX10_init 324 = .ok (.putfield 128, 3) := by decide +kernel
theorem dX10_init_327 : decode cX10_init 327 = .ok (.aload_n 0, 1) := by decide +kernel
theorem dX10_init_328 : decode cX10_init 328 = .ok (.iconst 5, 1) := by decide +kernel
theorem dX10_init_329 : decode cX10_init 329 = .ok (.newarray .int, 2) := by decide +kernel
theorem dX10_init_331 : decode cX10_init 331 = .ok (.putfield 131, 3) := by decide +kernel
theorem dX10_init_334 : decode cX10_init 334 = .ok (.aload_n 0, 1) := by decide +kernel
theorem dX10_init_335 : decode cX10_init 335 = .ok (.bipush 6, 2) := by decide +kernel
theorem dX10_init_337 : decode cX10_init 337 = .ok (.newarray .int, 2) := by decide +kernel
theorem dX10_init_339 : decode cX10_init 339 = .ok (.putfield 134, 3) := by decide +kernel
theorem dX10_init_342 : decode cX10_init 342 = .ok (.iconst 0, 1) := by decide +kernel
theorem dX10_init_343 : decode cX10_init 343 = .ok (.istore_n 1, 1) := by decide +kernel
theorem dX10_init_344 : decode cX10_init 344 = .ok (.iload_n 1, 1) := by decide +kernel
theorem dX10_init_345 : decode cX10_init 345 = .ok (.sipush 480, 3) := by decide +kernel
theorem dX10_init_348 : decode cX10_init 348 = .ok (.if_icmp .ge 17, 3) := by decide +kernel
theorem dX10_init_351 : decode cX10_init 351 = .ok (.aload_n 0, 1) := by decide +kernel
theorem dX10_init_352 : decode cX10_init 352 = .ok (.getfield 7, 3) := by decide +kernel
theorem dX10_init_355 : decode cX10_init 355 = .ok (.iload_n 1, 1) := by decide +kernel
theorem dX10_init_356 : decode cX10_init 356 = .ok (.bipush (-6), 2) := by decide +kernel
theorem dX10_init_358 : decode cX10_init 358 = .ok (.iastore, 1) := by decide +kernel
theorem dX10_init_359 : decode cX10_init 359 = .ok (.iinc 1 1, 3) := by decide +kernel
theorem dX10_init_362 : decode cX10_init 362 = .ok (.goto (-18), 3) := by decide +kernel
theorem dX10_init_365 : decode cX10_init 365 = .ok (.aload_n 0, 1) := by decide +kernel
theorem dX10_init_366 : decode cX10_init 366 = .ok (.getfield 43, 3) := by decide +kernel
theorem dX10_init_369 : decode cX10_init 369 = .ok (.iconst 0, 1) := by decide +kernel
theorem dX10_init_370 : decode cX10_init 370 = .ok (.bipush 20, 2) := by decide +kernel
theorem dX10_init_372 : decode cX10_init 372 = .ok (.iastore, 1) := by decide +kernel
theorem dX10_init_373 : decode cX10_init 373 = .ok (.aload_n 0, 1) := by decide +kernel
theorem dX10_init_374 : decode cX10_init 374 = .ok (.getfield 43, 3) := by decide +kernel
theorem dX10_init_377 : decode cX10_init 377 = .ok (.iconst 1, 1) := by decide +kernel
theorem dX10_init_378 : decode cX10_init 378 = .ok (.iconst 5, 1) := by decide +kernel
theorem dX10_init_379 : decode cX10_init 379 = .ok (.iastore, 1) := by decide +kernel
theorem dX10_init_380 : decode cX10_init 380 = .ok (.aload_n 0, 1) := by decide +kernel
theorem dX10_init_381 : decode cX10_init 381 = .ok (.getfield 43, 3) := by decide +kernel
theorem dX10_init_384 : decode cX10_init 384 = .ok (.iconst 2, 1) := by decide +kernel
theorem dX10_init_385 : decode cX10_init 385 = .ok (.bipush 10, 2) := by decide +kernel
theorem dX10_init_387 : decode cX10_init 387 = .ok (.iastore, 1) := by decide +kernel
theorem dX10_init_388 : decode cX10_init 388 = .ok (.aload_n 0, 1) := by decide +kernel
theorem dX10_init_389 : decode cX10_init 389 = .ok (.getfield 43, 3) := by decide +kernel
theorem dX10_init_392 : decode cX10_init 392 = .ok (.iconst 3, 1) := by decide +kernel
theorem dX10_init_393 : decode cX10_init 393 = .ok (.sipush 500, 3) := by decide +kernel
theorem dX10_init_396 : decode cX10_init 396 = .ok (.iastore, 1) := by decide +kernel
theorem dX10_init_397 : decode cX10_init 397 = .ok (.aload_n 0, 1) := by decide +kernel
theorem dX10_init_398 : decode cX10_init 398 = .ok (.getfield 43, 3) := by decide +kernel
theorem dX10_init_401 : decode cX10_init 401 = .ok (.iconst 4, 1) := by decide +kernel
theorem dX10_init_402 : decode cX10_init 402 = .ok (.bipush 100, 2) := by decide +kernel
theorem dX10_init_404 : decode cX10_init 404 = .ok (.iastore, 1) := by decide +kernel
theorem dX10_init_405 : decode cX10_init 405 = .ok (.aload_n 0, 1) := by decide +kernel
theorem dX10_init_406 : decode cX10_init 406 = .ok (.getfield 43, 3) := by decide +kernel
theorem dX10_init_409 : decode cX10_init 409 = .ok (.iconst 5, 1) := by decide +kernel
theorem dX10_init_410 : decode cX10_init 410 = .ok (.iconst 3, 1) := by decide +kernel
theorem dX10_init_411 : decode cX10_init 411 = .ok (.iastore, 1) := by decide +kernel
theorem dX10_init_412 : decode cX10_init 412 = .ok (.aload_n 0, 1) := by decide +kernel
theorem dX10_init_413 : decode cX10_init 413 = .ok (.getfield 43, 3) := by decide +kernel
theorem dX10_init_416 : decode cX10_init 416 = .ok (.bipush 6, 2) := by decide +kernel
theorem dX10_init_418 : decode cX10_init 418 = .ok (.iconst 2, 1) := by decide +kernel
theorem dX10_init_419 : decode cX10_init 419 = .ok (.iastore, 1) := by decide +kernel
theorem dX10_init_420 : decode cX10_init 420 = .ok (.aload_n 0, 1) := by decide +kernel
theorem dX10_init_421 : decode cX10_init 421 = .ok (.getfield 43, 3) := by decide +kernel
theorem dX10_init_424 : decode cX10_init 424 = .ok (.bipush 7, 2) := by decide +kernel
theorem dX10_init_426 : decode cX10_init 426 = .ok (.iconst 1, 1) := by decide +kernel
theorem dX10_init_427 : decode cX10_init 427 = .ok (.iastore, 1) := by decide +kernel
theorem dX10_init_428 : decode cX10_init 428 = .ok (.iconst 0, 1) := by decide +kernel
theorem dX10_init_429 : decode cX10_init 429 = .ok (.istore_n 1, 1) := by decide +kernel
theorem dX10_init_430 : decode cX10_init 430 = .ok (.iload_n 1, 1) := by decide +kernel
theorem dX10_init_431 : decode cX10_init 431 = .ok (.iconst 4, 1) := by decide +kernel
theorem dX10_init_432 : decode cX10_init 432 = .ok (.if_icmp .ge 17, 3) := by decide +kernel
theorem dX10_init_435 : decode cX10_init 435 = .ok (.aload_n 0, 1) := by decide +kernel
theorem dX10_init_436 : decode cX10_init 436 = .ok (.getfield 101, 3) := by decide +kernel
theorem dX10_init_439 : decode cX10_init 439 = .ok (.iload_n 1, 1) := by decide +kernel
theorem dX10_init_440 : decode cX10_init 440 = .ok (.bipush (-6), 2) := by decide +kernel
theorem dX10_init_442 : decode cX10_init 442 = .ok (.iastore, 1) := by decide +kernel
theorem dX10_init_443 : decode cX10_init 443 = .ok (.iinc 1 1, 3) := by decide +kernel
theorem dX10_init_446 : decode cX10_init 446 = .ok (.goto (-16), 3) := by decide +kernel
theorem dX10_init_449 : decode cX10_init 449 = .ok (.iconst 0, 1) := by decide +kernel
theorem dX10_init_450 : decode cX10_init 450 = .ok (.istore_n 1, 1) := by decide +kernel
theorem dX10_init_451 : decode cX10_init 451 = .ok (.iload_n 1, 1) := by decide +kernel
theorem dX10_init_452 : decode cX10_init 452 = .ok (.iconst 4, 1) := by decide +kernel
theorem dX10_init_453 : decode cX10_init 453 = .ok (.if_icmp .ge 31, 3) := by decide +kernel
theorem dX10_init_456 : decode cX10_init 456 = .ok (.aload_n 0, 1) := by decide +kernel
theorem dX10_init_457 : decode cX10_init 457 = .ok (.getfield 119, 3) := by decide +kernel
theorem dX10_init_460 : decode cX10_init 460 = .ok (.iconst 2, 1) := by decide +kernel
theorem dX10_init_461 : decode cX10_init 461 = .ok (.iload_n 1, 1) := by decide +kernel
theorem dX10_init_462 : decode cX10_init 462 = .ok (.imul, 1) := by decide +kernel
theorem dX10_init_463 : decode cX10_init 463 = .ok (.bipush 50, 2) := by decide +kernel
theorem dX10_init_465 : decode cX10_init 465 = .ok (.iastore, 1) := by decide +kernel
theorem dX10_init_466 : decode cX10_init 466 = .ok (.aload_n 0, 1) := by decide +kernel
theorem dX10_init_467 : decode cX10_init 467 = .ok (.getfield 119, 3) := by decide +kernel
theorem dX10_init_470 : decode cX10_init 470 = .ok (.iconst 2, 1) := by decide +kernel
theorem dX10_init_471 : decode cX10_init 471 = .ok (.iload_n 1, 1) := by decide +kernel
theorem dX10_init_472 : decode cX10_init 472 = .ok (.imul, 1) := by decide +kernel
theorem dX10_init_473 : decode cX10_init 473 = .ok (.iconst 1, 1) := by decide +kernel
theorem dX10_init_474 : decode cX10_init 474 = .ok (.iadd, 1) := by decide +kernel
theorem dX10_init_475 : decode cX10_init 475 = .ok (.bipush 100, 2) := by decide +kernel
theorem dX10_init_477 : decode cX10_init 477 = .ok (.iastore, 1) := by decide +kernel
theorem dX10_init_478 : decode cX10_init 478 = .ok (.iinc 1 1, 3) := by decide +kernel
theorem dX10_init_481 : decode cX10_init 481 = .ok (.goto (-30), 3) := by decide +kernel
theorem dX10_init_484 : decode cX10_init 484 = .ok (.return_, 1) := by decide +kernel
theorem dX10_in_0 : decode cX10_in 0 = .ok (.lload_n 0, 1) := by decide +kernel
theorem dX10_in_1 : decode cX10_in 1 = .ok (.lload_n 2, 1) := by decide +kernel
theorem dX10_in_2 : decode cX10_in 2 = .ok (.lcmp, 1) := by decide +kernel
theorem dX10_in_3 : decode cX10_in 3 = .ok (.ifCond .lt 14, 3) := by decide +kernel
theorem dX10_in_6 : decode cX10_in 6 = .ok (.lload_n 0, 1) := by decide +kernel
theorem dX10_in_7 : decode cX10_in 7 = .ok (.lload 4, 2) := by decide +kernel
theorem dX10_in_9 : decode cX10_in 9 = .ok (.lcmp, 1) := by decide +kernel
theorem dX10_in_10 : decode cX10_in 10 = .ok (.ifCond .gt 7, 3) := by decide +kernel
theorem dX10_in_13 : decode cX10_in 13 = .ok (.iconst 1, 1) := by decide +kernel
theorem dX10_in_14 : decode cX10_in 14 = .ok (.goto 4, 3) := by decide +kernel
theorem dX10_in_17 : decode cX10_in 17 = .ok (.iconst 0, 1) := by decide +kernel
theorem dX10_in_18 : decode cX10_in 18 = .ok (.ireturn, 1) := by decide +kernel
theorem dX10_isDay_0 : decode cX10_isDay 0 = .ok (.iload_n 0, 1) := by decide +kernel
theorem dX10_isDay_1 : decode cX10_isDay 1 = .ok (.i2l, 1) := by decide +kernel
theorem dX10_isDay_2 : decode cX10_isDay 2 = .ok (.lconst 0, 1) := by decide +kernel
theorem dX10_isDay_3 : decode cX10_isDay 3 = .ok (.ldc2_w 137, 3) := by decide +kernel
theorem dX10_isDay_6 : decode cX10_isDay 6 = .ok (.invokestatic 139, 3) := by decide +kernel
theorem dX10_isDay_9 : decode cX10_isDay 9 = .ok (.ireturn, 1) := by decide +kernel
theorem dX10_isPage_0 : decode cX10_isPage 0 = .ok (.iload_n 1, 1) := by decide +kernel
theorem dX10_isPage_1 : decode cX10_isPage 1 = .ok (.i2l, 1) := by decide +kernel
theorem dX10_isPage_2 : decode cX10_isPage 2 = .ok (.lconst 0, 1) := by decide +kernel
theorem dX10_isPage_3 : decode cX10_isPage 3 = .ok (.aload_n 0, 1) := by decide +kernel
theorem dX10_isPage_4 : decode cX10_isPage 4 = .ok (.getfield 143, 3) := by decide +kernel
theorem dX10_isPage_7 : decode cX10_isPage 7 = .ok (.iconst 1, 1) := by decide +kernel
theorem dX10_isPage_8 : decode cX10_isPage 8 = .ok (.isub, 1) := by decide +kernel
theorem dX10_isPage_9 : decode cX10_isPage 9 = .ok (.i2l, 1) := by decide +kernel
theorem dX10_isPage_10 : decode cX10_isPage 10 = .ok (.invokestatic 139, 3) := by decide +kernel
theorem dX10_isPage_13 : decode cX10_isPage 13 = .ok (.ireturn, 1) := by decide +kernel
theorem dX10_isPiece_0 : decode cX10_isPiece 0 = .ok (.iload_n 1, 1) := by decide +kernel
theorem dX10_isPiece_1 : decode cX10_isPiece 1 = .ok (.i2l, 1) := by decide +kernel
theorem dX10_isPiece_2 : decode cX10_isPiece 2 = .ok (.lconst 0, 1) := by decide +kernel
theorem dX10_isPiece_3 : decode cX10_isPiece 3 = .ok (.aload_n 0, 1) := by decide +kernel
theorem dX10_isPiece_4 : decode cX10_isPiece 4 = .ok (.getfield 147, 3) := by decide +kernel
theorem dX10_isPiece_7 : decode cX10_isPiece 7 = .ok (.iconst 1, 1) := by decide +kernel
theorem dX10_isPiece_8 : decode cX10_isPiece 8 = .ok (.isub, 1) := by decide +kernel
theorem dX10_isPiece_9 : decode cX10_isPiece 9 = .ok (.i2l, 1) := by decide +kernel
theorem dX10_isPiece_10 : decode cX10_isPiece 10 = .ok (.invokestatic 139, 3) := by decide +kernel
theorem dX10_isPiece_13 : decode cX10_isPiece 13 = .ok (.ireturn, 1) := by decide +kernel
theorem dX10_page_0 : decode cX10_page 0 = .ok (.iload_n 1, 1) := by decide +kernel
theorem dX10_page_1 : decode cX10_page 1 = .ok (.i2l, 1) := by decide +kernel
theorem dX10_page_2 : decode cX10_page 2 = .ok (.lconst 0, 1) := by decide +kernel
theorem dX10_page_3 : decode cX10_page 3 = .ok (.ldc2_w 150, 3) := by decide +kernel
theorem dX10_page_6 : decode cX10_page 6 = .ok (.invokestatic 139, 3) := by decide +kernel
theorem dX10_page_9 : decode cX10_page 9 = .ok (.ifCond .eq 10, 3) := by decide +kernel
theorem dX10_page_12 : decode cX10_page 12 = .ok (.iload_n 2, 1) := by decide +kernel
theorem dX10_page_13 : decode cX10_page 13 = .ok (.invokestatic 152, 3) := by decide +kernel
theorem dX10_page_16 : decode cX10_page 16 = .ok (.ifCond .ne 6, 3) := by decide +kernel
theorem dX10_page_19 : decode cX10_page 19 = .ok (.bipush (-2), 2) := by decide +kernel
theorem dX10_page_21 : decode cX10_page 21 = .ok (.ireturn, 1) := by decide +kernel
theorem dX10_page_22 : decode cX10_page 22 = .ok (.aload_n 0, 1) := by decide +kernel
theorem dX10_page_23 : decode cX10_page 23 = .ok (.getfield 143, 3) := by decide +kernel
theorem dX10_page_26 : decode cX10_page 26 = .ok (.bipush 8, 2) := by decide +kernel
theorem dX10_page_28 : decode cX10_page 28 = .ok (.if_icmp .ne 6, 3) := by decide +kernel
theorem dX10_page_31 : decode cX10_page 31 = .ok (.bipush (-4), 2) := by decide +kernel
theorem dX10_page_33 : decode cX10_page 33 = .ok (.ireturn, 1) := by decide +kernel
theorem dX10_page_34 : decode cX10_page 34 = .ok (.aload_n 0, 1) := by decide +kernel
theorem dX10_page_35 : decode cX10_page 35 = .ok (.getfield 13, 3) := by decide +kernel
theorem dX10_page_38 : decode cX10_page 38 = .ok (.aload_n 0, 1) := by decide +kernel
theorem dX10_page_39 : decode cX10_page 39 = .ok (.getfield 143, 3) := by decide +kernel
theorem dX10_page_42 : decode cX10_page 42 = .ok (.iload_n 1, 1) := by decide +kernel
theorem dX10_page_43 : decode cX10_page 43 = .ok (.iastore, 1) := by decide +kernel
theorem dX10_page_44 : decode cX10_page 44 = .ok (.aload_n 0, 1) := by decide +kernel
theorem dX10_page_45 : decode cX10_page 45 = .ok (.getfield 16, 3) := by decide +kernel
theorem dX10_page_48 : decode cX10_page 48 = .ok (.aload_n 0, 1) := by decide +kernel
theorem dX10_page_49 : decode cX10_page 49 = .ok (.getfield 143, 3) := by decide +kernel
theorem dX10_page_52 : decode cX10_page 52 = .ok (.iload_n 2, 1) := by decide +kernel
theorem dX10_page_53 : decode cX10_page 53 = .ok (.iastore, 1) := by decide +kernel
theorem dX10_page_54 : decode cX10_page 54 = .ok (.aload_n 0, 1) := by decide +kernel
theorem dX10_page_55 : decode cX10_page 55 = .ok (.getfield 19, 3) := by decide +kernel
theorem dX10_page_58 : decode cX10_page 58 = .ok (.aload_n 0, 1) := by decide +kernel
theorem dX10_page_59 : decode cX10_page 59 = .ok (.getfield 143, 3) := by decide +kernel
theorem dX10_page_62 : decode cX10_page 62 = .ok (.bipush (-6), 2) := by decide +kernel
theorem dX10_page_64 : decode cX10_page 64 = .ok (.iastore, 1) := by decide +kernel
theorem dX10_page_65 : decode cX10_page 65 = .ok (.aload_n 0, 1) := by decide +kernel
theorem dX10_page_66 : decode cX10_page 66 = .ok (.dup, 1) := by decide +kernel
theorem dX10_page_67 : decode cX10_page 67 = .ok (.getfield 143, 3) := by decide +kernel
theorem dX10_page_70 : decode cX10_page 70 = .ok (.iconst 1, 1) := by decide +kernel
theorem dX10_page_71 : decode cX10_page 71 = .ok (.iadd, 1) := by decide +kernel
theorem dX10_page_72 : decode cX10_page 72 = .ok (.putfield 143, 3) := by decide +kernel
theorem dX10_page_75 : decode cX10_page 75 = .ok (.aload_n 0, 1) := by decide +kernel
theorem dX10_page_76 : decode cX10_page 76 = .ok (.getfield 143, 3) := by decide +kernel
theorem dX10_page_79 : decode cX10_page 79 = .ok (.iconst 1, 1) := by decide +kernel
theorem dX10_page_80 : decode cX10_page 80 = .ok (.isub, 1) := by decide +kernel
theorem dX10_page_81 : decode cX10_page 81 = .ok (.ireturn, 1) := by decide +kernel
theorem dX10_isKept_0 : decode cX10_isKept 0 = .ok (.iconst 0, 1) := by decide +kernel
theorem dX10_isKept_1 : decode cX10_isKept 1 = .ok (.istore_n 2, 1) := by decide +kernel
theorem dX10_isKept_2 : decode cX10_isKept 2 = .ok (.iconst 0, 1) := by decide +kernel
theorem dX10_isKept_3 : decode cX10_isKept 3 = .ok (.istore_n 3, 1) := by decide +kernel
theorem dX10_isKept_4 : decode cX10_isKept 4 = .ok (.iload_n 3, 1) := by decide +kernel
theorem dX10_isKept_5 : decode cX10_isKept 5 = .ok (.aload_n 0, 1) := by decide +kernel
theorem dX10_isKept_6 : decode cX10_isKept 6 = .ok (.getfield 147, 3) := by decide +kernel
theorem dX10_isKept_9 : decode cX10_isKept 9 = .ok (.if_icmp .ge 47, 3) := by decide +kernel
theorem dX10_isKept_12 : decode cX10_isKept 12 = .ok (.iload_n 2, 1) := by decide +kernel
theorem dX10_isKept_13 : decode cX10_isKept 13 = .ok (.ifCond .ne 31, 3) := by decide +kernel
theorem dX10_isKept_16 : decode cX10_isKept 16 = .ok (.aload_n 0, 1) := by decide +kernel
theorem dX10_isKept_17 : decode cX10_isKept 17 = .ok (.getfield 22, 3) := by decide +kernel
theorem dX10_isKept_20 : decode cX10_isKept 20 = .ok (.iload_n 3, 1) := by decide +kernel
theorem dX10_isKept_21 : decode cX10_isKept 21 = .ok (.iaload, 1) := by decide +kernel
theorem dX10_isKept_22 : decode cX10_isKept 22 = .ok (.iload_n 1, 1) := by decide +kernel
theorem dX10_isKept_23 : decode cX10_isKept 23 = .ok (.if_icmp .ne 25, 3) := by decide +kernel
theorem dX10_isKept_26 : decode cX10_isKept 26 = .ok (.aload_n 0, 1) := by decide +kernel
theorem dX10_isKept_27 : decode cX10_isKept 27 = .ok (.getfield 40, 3) := by decide +kernel
theorem dX10_isKept_30 : decode cX10_isKept 30 = .ok (.iload_n 3, 1) := by decide +kernel
theorem dX10_isKept_31 : decode cX10_isKept 31 = .ok (.iaload, 1) := by decide +kernel
theorem dX10_isKept_32 : decode cX10_isKept 32 = .ok (.ifCond .ne 12, 3) := by decide +kernel
theorem dX10_isKept_35 : decode cX10_isKept 35 = .ok (.aload_n 0, 1) := by decide +kernel
theorem dX10_isKept_36 : decode cX10_isKept 36 = .ok (.getfield 37, 3) := by decide +kernel
theorem dX10_isKept_39 : decode cX10_isKept 39 = .ok (.iload_n 3, 1) := by decide +kernel
theorem dX10_isKept_40 : decode cX10_isKept 40 = .ok (.iaload, 1) := by decide +kernel
theorem dX10_isKept_41 : decode cX10_isKept 41 = .ok (.ifCond .eq 7, 3) := by decide +kernel
theorem dX10_isKept_44 : decode cX10_isKept 44 = .ok (.iconst 1, 1) := by decide +kernel
theorem dX10_isKept_45 : decode cX10_isKept 45 = .ok (.goto 4, 3) := by decide +kernel
theorem dX10_isKept_48 : decode cX10_isKept 48 = .ok (.iconst 0, 1) := by decide +kernel
theorem dX10_isKept_49 : decode cX10_isKept 49 = .ok (.istore_n 2, 1) := by decide +kernel
theorem dX10_isKept_50 : decode cX10_isKept 50 = .ok (.iinc 3 1, 3) := by decide +kernel
theorem dX10_isKept_53 : decode cX10_isKept 53 = .ok (.goto (-49), 3) := by decide +kernel
theorem dX10_isKept_56 : decode cX10_isKept 56 = .ok (.iload_n 2, 1) := by decide +kernel
theorem dX10_isKept_57 : decode cX10_isKept 57 = .ok (.ireturn, 1) := by decide +kernel
theorem dX10_write_0 : decode cX10_write 0 = .ok (.aload_n 0, 1) := by decide +kernel
theorem dX10_write_1 : decode cX10_write 1 = .ok (.iload_n 1, 1) := by decide +kernel
theorem dX10_write_2 : decode cX10_write 2 = .ok (.invokevirtual 156, 3) := by decide +kernel
theorem dX10_write_5 : decode cX10_write 5 = .ok (.ifCond .ne 5, 3) := by decide +kernel
theorem dX10_write_8 : decode cX10_write 8 = .ok (.iconst (-1), 1) := by decide +kernel
theorem dX10_write_9 : decode cX10_write 9 = .ok (.ireturn, 1) := by decide +kernel
theorem dX10_write_10 : decode cX10_write 10 = .ok (.iload_n 2, 1) := by decide +kernel
theorem dX10_write_11 : decode cX10_write 11 = .ok (.i2l, 1) := by decide +kernel
theorem dX10_write_12 : decode cX10_write 12 = .ok (.lconst 0, 1) := by decide +kernel
theorem dX10_write_13 : decode cX10_write 13 = .ok (.ldc2_w 159, 3) := by decide +kernel
theorem dX10_write_16 : decode cX10_write 16 = .ok (.invokestatic 139, 3) := by decide +kernel
theorem dX10_write_19 : decode cX10_write 19 = .ok (.ifCond .eq 17, 3) := by decide +kernel
theorem dX10_write_22 : decode cX10_write 22 = .ok (.iload_n 3, 1) := by decide +kernel
theorem dX10_write_23 : decode cX10_write 23 = .ok (.i2l, 1) := by decide +kernel
theorem dX10_write_24 : decode cX10_write 24 = .ok (.ldc2_w 161, 3) := by decide +kernel
theorem dX10_write_27 : decode cX10_write 27 = .ok (.ldc2_w 137, 3) := by decide +kernel
theorem dX10_write_30 : decode cX10_write 30 = .ok (.invokestatic 139, 3) := by decide +kernel
theorem dX10_write_33 : decode cX10_write 33 = .ok (.ifCond .ne 6, 3) := by decide +kernel
theorem dX10_write_36 : decode cX10_write 36 = .ok (.bipush (-2), 2) := by decide +kernel
theorem dX10_write_38 : decode cX10_write 38 = .ok (.ireturn, 1) := by decide +kernel
theorem dX10_write_39 : decode cX10_write 39 = .ok (.aload_n 0, 1) := by decide +kernel
theorem dX10_write_40 : decode cX10_write 40 = .ok (.iload_n 1, 1) := by decide +kernel
theorem dX10_write_41 : decode cX10_write 41 = .ok (.invokevirtual 163, 3) := by decide +kernel
theorem dX10_write_44 : decode cX10_write 44 = .ok (.ifCond .eq 6, 3) := by decide +kernel
theorem dX10_write_47 : decode cX10_write 47 = .ok (.bipush (-3), 2) := by decide +kernel
theorem dX10_write_49 : decode cX10_write 49 = .ok (.ireturn, 1) := by decide +kernel
theorem dX10_write_50 : decode cX10_write 50 = .ok (.aload_n 0, 1) := by decide +kernel
theorem dX10_write_51 : decode cX10_write 51 = .ok (.getfield 7, 3) := by decide +kernel
theorem dX10_write_54 : decode cX10_write 54 = .ok (.bipush 60, 2) := by decide +kernel
theorem dX10_write_56 : decode cX10_write 56 = .ok (.iload_n 1, 1) := by decide +kernel
theorem dX10_write_57 : decode cX10_write 57 = .ok (.imul, 1) := by decide +kernel
theorem dX10_write_58 : decode cX10_write 58 = .ok (.iload_n 2, 1) := by decide +kernel
theorem dX10_write_59 : decode cX10_write 59 = .ok (.iadd, 1) := by decide +kernel
theorem dX10_write_60 : decode cX10_write 60 = .ok (.iaload, 1) := by decide +kernel
theorem dX10_write_61 : decode cX10_write 61 = .ok (.istore 4, 2) := by decide +kernel
theorem dX10_write_63 : decode cX10_write 63 = .ok (.aload_n 0, 1) := by decide +kernel
theorem dX10_write_64 : decode cX10_write 64 = .ok (.getfield 7, 3) := by decide +kernel
theorem dX10_write_67 : decode cX10_write 67 = .ok (.bipush 60, 2) := by decide +kernel
theorem dX10_write_69 : decode cX10_write 69 = .ok (.iload_n 1, 1) := by decide +kernel
theorem dX10_write_70 : decode cX10_write 70 = .ok (.imul, 1) := by decide +kernel
theorem dX10_write_71 : decode cX10_write 71 = .ok (.iload_n 2, 1) := by decide +kernel
theorem dX10_write_72 : decode cX10_write 72 = .ok (.iadd, 1) := by decide +kernel
theorem dX10_write_73 : decode cX10_write 73 = .ok (.iload_n 3, 1) := by decide +kernel
theorem dX10_write_74 : decode cX10_write 74 = .ok (.ifCond .ge 8, 3) := by decide +kernel
theorem dX10_write_77 : decode cX10_write 77 = .ok (.bipush (-6), 2) := by decide +kernel
theorem dX10_write_79 : decode cX10_write 79 = .ok (.goto 4, 3) := by decide +kernel
theorem dX10_write_82 : decode cX10_write 82 = .ok (.iload_n 3, 1) := by decide +kernel
theorem dX10_write_83 : decode cX10_write 83 = .ok (.iastore, 1) := by decide +kernel
theorem dX10_write_84 : decode cX10_write 84 = .ok (.aload_n 0, 1) := by decide +kernel
theorem dX10_write_85 : decode cX10_write 85 = .ok (.iconst 0, 1) := by decide +kernel
theorem dX10_write_86 : decode cX10_write 86 = .ok (.putfield 166, 3) := by decide +kernel
theorem dX10_write_89 : decode cX10_write 89 = .ok (.iload 4, 2) := by decide +kernel
theorem dX10_write_91 : decode cX10_write 91 = .ok (.ireturn, 1) := by decide +kernel
theorem dX10_sides_0 : decode cX10_sides 0 = .ok (.aload_n 0, 1) := by decide +kernel
theorem dX10_sides_1 : decode cX10_sides 1 = .ok (.iload_n 1, 1) := by decide +kernel
theorem dX10_sides_2 : decode cX10_sides 2 = .ok (.invokevirtual 156, 3) := by decide +kernel
theorem dX10_sides_5 : decode cX10_sides 5 = .ok (.ifCond .eq 16, 3) := by decide +kernel
theorem dX10_sides_8 : decode cX10_sides 8 = .ok (.aload_n 0, 1) := by decide +kernel
theorem dX10_sides_9 : decode cX10_sides 9 = .ok (.iload_n 2, 1) := by decide +kernel
theorem dX10_sides_10 : decode cX10_sides 10 = .ok (.invokevirtual 156, 3) := by decide +kernel
theorem dX10_sides_13 : decode cX10_sides 13 = .ok (.ifCond .eq 8, 3) := by decide +kernel
theorem dX10_sides_16 : decode cX10_sides 16 = .ok (.iload_n 1, 1) := by decide +kernel
theorem dX10_sides_17 : decode cX10_sides 17 = .ok (.iload_n 2, 1) := by decide +kernel
theorem dX10_sides_18 : decode cX10_sides 18 = .ok (.if_icmp .ne 5, 3) := by decide +kernel
theorem dX10_sides_21 : decode cX10_sides 21 = .ok (.iconst (-1), 1) := by decide +kernel
theorem dX10_sides_22 : decode cX10_sides 22 = .ok (.ireturn, 1) := by decide +kernel
theorem dX10_sides_23 : decode cX10_sides 23 = .ok (.aload_n 0, 1) := by decide +kernel
theorem dX10_sides_24 : decode cX10_sides 24 = .ok (.getfield 13, 3) := by decide +kernel
theorem dX10_sides_27 : decode cX10_sides 27 = .ok (.iload_n 1, 1) := by decide +kernel
theorem dX10_sides_28 : decode cX10_sides 28 = .ok (.iaload, 1) := by decide +kernel
theorem dX10_sides_29 : decode cX10_sides 29 = .ok (.aload_n 0, 1) := by decide +kernel
theorem dX10_sides_30 : decode cX10_sides 30 = .ok (.getfield 13, 3) := by decide +kernel
theorem dX10_sides_33 : decode cX10_sides 33 = .ok (.iload_n 2, 1) := by decide +kernel
theorem dX10_sides_34 : decode cX10_sides 34 = .ok (.iaload, 1) := by decide +kernel
theorem dX10_sides_35 : decode cX10_sides 35 = .ok (.if_icmp .ne 18, 3) := by decide +kernel
theorem dX10_sides_38 : decode cX10_sides 38 = .ok (.aload_n 0, 1) := by decide +kernel
theorem dX10_sides_39 : decode cX10_sides 39 = .ok (.getfield 16, 3) := by decide +kernel
theorem dX10_sides_42 : decode cX10_sides 42 = .ok (.iload_n 1, 1) := by decide +kernel
theorem dX10_sides_43 : decode cX10_sides 43 = .ok (.iaload, 1) := by decide +kernel
theorem dX10_sides_44 : decode cX10_sides 44 = .ok (.aload_n 0, 1) := by decide +kernel
theorem dX10_sides_45 : decode cX10_sides 45 = .ok (.getfield 16, 3) := by decide +kernel
theorem dX10_sides_48 : decode cX10_sides 48 = .ok (.iload_n 2, 1) := by decide +kernel
theorem dX10_sides_49 : decode cX10_sides 49 = .ok (.iaload, 1) := by decide +kernel
theorem dX10_sides_50 : decode cX10_sides 50 = .ok (.if_icmp .eq 6, 3) := by decide +kernel
theorem dX10_sides_53 : decode cX10_sides 53 = .ok (.bipush (-3), 2) := by decide +kernel
theorem dX10_sides_55 : decode cX10_sides 55 = .ok (.ireturn, 1) := by decide +kernel
theorem dX10_sides_56 : decode cX10_sides 56 = .ok (.aload_n 0, 1) := by decide +kernel
theorem dX10_sides_57 : decode cX10_sides 57 = .ok (.getfield 19, 3) := by decide +kernel
theorem dX10_sides_60 : decode cX10_sides 60 = .ok (.iload_n 1, 1) := by decide +kernel
theorem dX10_sides_61 : decode cX10_sides 61 = .ok (.iaload, 1) := by decide +kernel
theorem dX10_sides_62 : decode cX10_sides 62 = .ok (.ifCond .ge 12, 3) := by decide +kernel
theorem dX10_sides_65 : decode cX10_sides 65 = .ok (.aload_n 0, 1) := by decide +kernel
theorem dX10_sides_66 : decode cX10_sides 66 = .ok (.getfield 19, 3) := by decide +kernel
theorem dX10_sides_69 : decode cX10_sides 69 = .ok (.iload_n 2, 1) := by decide +kernel
theorem dX10_sides_70 : decode cX10_sides 70 = .ok (.iaload, 1) := by decide +kernel
theorem dX10_sides_71 : decode cX10_sides 71 = .ok (.ifCond .lt 6, 3) := by decide +kernel
theorem dX10_sides_74 : decode cX10_sides 74 = .ok (.bipush (-5), 2) := by decide +kernel
theorem dX10_sides_76 : decode cX10_sides 76 = .ok (.ireturn, 1) := by decide +kernel
theorem dX10_sides_77 : decode cX10_sides 77 = .ok (.aload_n 0, 1) := by decide +kernel
theorem dX10_sides_78 : decode cX10_sides 78 = .ok (.getfield 19, 3) := by decide +kernel
theorem dX10_sides_81 : decode cX10_sides 81 = .ok (.iload_n 1, 1) := by decide +kernel
theorem dX10_sides_82 : decode cX10_sides 82 = .ok (.iload_n 2, 1) := by decide +kernel
theorem dX10_sides_83 : decode cX10_sides 83 = .ok (.iastore, 1) := by decide +kernel
theorem dX10_sides_84 : decode cX10_sides 84 = .ok (.aload_n 0, 1) := by decide +kernel
theorem dX10_sides_85 : decode cX10_sides 85 = .ok (.getfield 19, 3) := by decide +kernel
theorem dX10_sides_88 : decode cX10_sides 88 = .ok (.iload_n 2, 1) := by decide +kernel
theorem dX10_sides_89 : decode cX10_sides 89 = .ok (.iload_n 1, 1) := by decide +kernel
theorem dX10_sides_90 : decode cX10_sides 90 = .ok (.iastore, 1) := by decide +kernel
theorem dX10_sides_91 : decode cX10_sides 91 = .ok (.iconst 1, 1) := by decide +kernel
theorem dX10_sides_92 : decode cX10_sides 92 = .ok (.ireturn, 1) := by decide +kernel
theorem dX10_ofPage_0 : decode cX10_ofPage 0 = .ok (.aload_n 0, 1) := by decide +kernel
theorem dX10_ofPage_1 : decode cX10_ofPage 1 = .ok (.iload_n 1, 1) := by decide +kernel
theorem dX10_ofPage_2 : decode cX10_ofPage 2 = .ok (.invokevirtual 156, 3) := by decide +kernel
theorem dX10_ofPage_5 : decode cX10_ofPage 5 = .ok (.ifCond .ne 5, 3) := by decide +kernel
theorem dX10_ofPage_8 : decode cX10_ofPage 8 = .ok (.iconst (-1), 1) := by decide +kernel
theorem dX10_ofPage_9 : decode cX10_ofPage 9 = .ok (.ireturn, 1) := by decide +kernel
theorem dX10_ofPage_10 : decode cX10_ofPage 10 = .ok (.iload_n 2, 1) := by decide +kernel
theorem dX10_ofPage_11 : decode cX10_ofPage 11 = .ok (.i2l, 1) := by decide +kernel
theorem dX10_ofPage_12 : decode cX10_ofPage 12 = .ok (.ldc2_w 170, 3) := by decide +kernel
theorem dX10_ofPage_15 : decode cX10_ofPage 15 = .ok (.ldc2_w 172, 3) := by decide +kernel
theorem dX10_ofPage_18 : decode cX10_ofPage 18 = .ok (.invokestatic 139, 3) := by decide +kernel
theorem dX10_ofPage_21 : decode cX10_ofPage 21 = .ok (.ifCond .eq 18, 3) := by decide +kernel
theorem dX10_ofPage_24 : decode cX10_ofPage 24 = .ok (.aload_n 0, 1) := by decide +kernel
theorem dX10_ofPage_25 : decode cX10_ofPage 25 = .ok (.getfield 7, 3) := by decide +kernel
theorem dX10_ofPage_28 : decode cX10_ofPage 28 = .ok (.bipush 60, 2) := by decide +kernel
theorem dX10_ofPage_30 : decode cX10_ofPage 30 = .ok (.iload_n 1, 1) := by decide +kernel
theorem dX10_ofPage_31 : decode cX10_ofPage 31 = .ok (.imul, 1) := by decide +kernel
theorem dX10_ofPage_32 : decode cX10_ofPage 32 = .ok (.iload_n 2, 1) := by decide +kernel
theorem dX10_ofPage_33 : decode cX10_ofPage 33 = .ok (.iadd, 1) := by decide +kernel
theorem dX10_ofPage_34 : decode cX10_ofPage 34 = .ok (.bipush 100, 2) := by decide +kernel
theorem dX10_ofPage_36 : decode cX10_ofPage 36 = .ok (.isub, 1) := by decide +kernel
theorem dX10_ofPage_37 : decode cX10_ofPage 37 = .ok (.iaload, 1) := by decide +kernel
theorem dX10_ofPage_38 : decode cX10_ofPage 38 = .ok (.ireturn, 1) := by decide +kernel
theorem dX10_ofPage_39 : decode cX10_ofPage 39 = .ok (.iconst 0, 1) := by decide +kernel
theorem dX10_ofPage_40 : decode cX10_ofPage 40 = .ok (.istore_n 3, 1) := by decide +kernel
theorem dX10_ofPage_41 : decode cX10_ofPage 41 = .ok (.iconst 0, 1) := by decide +kernel
theorem dX10_ofPage_42 : decode cX10_ofPage 42 = .ok (.istore 4, 2) := by decide +kernel
theorem dX10_ofPage_44 : decode cX10_ofPage 44 = .ok (.iload 4, 2) := by decide +kernel
theorem dX10_ofPage_46 : decode cX10_ofPage 46 = .ok (.aload_n 0, 1) := by decide +kernel
theorem dX10_ofPage_47 : decode cX10_ofPage 47 = .ok (.getfield 147, 3) := by decide +kernel
theorem dX10_ofPage_50 : decode cX10_ofPage 50 = .ok (.if_icmp .ge 28, 3) := by decide +kernel
theorem dX10_ofPage_53 : decode cX10_ofPage 53 = .ok (.iload_n 3, 1) := by decide +kernel
theorem dX10_ofPage_54 : decode cX10_ofPage 54 = .ok (.aload_n 0, 1) := by decide +kernel
theorem dX10_ofPage_55 : decode cX10_ofPage 55 = .ok (.getfield 22, 3) := by decide +kernel
theorem dX10_ofPage_58 : decode cX10_ofPage 58 = .ok (.iload 4, 2) := by decide +kernel
theorem dX10_ofPage_60 : decode cX10_ofPage 60 = .ok (.iaload, 1) := by decide +kernel
theorem dX10_ofPage_61 : decode cX10_ofPage 61 = .ok (.iload_n 1, 1) := by decide +kernel
theorem dX10_ofPage_62 : decode cX10_ofPage 62 = .ok (.if_icmp .ne 7, 3) := by decide +kernel
theorem dX10_ofPage_65 : decode cX10_ofPage 65 = .ok (.iconst 1, 1) := by decide +kernel
theorem dX10_ofPage_66 : decode cX10_ofPage 66 = .ok (.goto 4, 3) := by decide +kernel
theorem dX10_ofPage_69 : decode cX10_ofPage 69 = .ok (.iconst 0, 1) := by decide +kernel
theorem dX10_ofPage_70 : decode cX10_ofPage 70 = .ok (.iadd, 1) := by decide +kernel
theorem dX10_ofPage_71 : decode cX10_ofPage 71 = .ok (.istore_n 3, 1) := by decide +kernel
theorem dX10_ofPage_72 : decode cX10_ofPage 72 = .ok (.iinc 4 1, 3) := by decide +kernel
theorem dX10_ofPage_75 : decode cX10_ofPage 75 = .ok (.goto (-31), 3) := by decide +kernel
theorem dX10_ofPage_78 : decode cX10_ofPage 78 = .ok (.iload_n 2, 1) := by decide +kernel
theorem dX10_ofPage_79 : decode cX10_ofPage 79 = .ok (.ifCond .ne 12, 3) := by decide +kernel
theorem dX10_ofPage_82 : decode cX10_ofPage 82 = .ok (.aload_n 0, 1) := by decide +kernel
theorem dX10_ofPage_83 : decode cX10_ofPage 83 = .ok (.getfield 13, 3) := by decide +kernel
theorem dX10_ofPage_86 : decode cX10_ofPage 86 = .ok (.iload_n 1, 1) := by decide +kernel
theorem dX10_ofPage_87 : decode cX10_ofPage 87 = .ok (.iaload, 1) := by decide +kernel
theorem dX10_ofPage_88 : decode cX10_ofPage 88 = .ok (.goto 42, 3) := by decide +kernel
theorem dX10_ofPage_91 : decode cX10_ofPage 91 = .ok (.iload_n 2, 1) := by decide +kernel
theorem dX10_ofPage_92 : decode cX10_ofPage 92 = .ok (.iconst 1, 1) := by decide +kernel
theorem dX10_ofPage_93 : decode cX10_ofPage 93 = .ok (.if_icmp .ne 12, 3) := by decide +kernel
theorem dX10_ofPage_96 : decode cX10_ofPage 96 = .ok (.aload_n 0, 1) := by decide +kernel
theorem dX10_ofPage_97 : decode cX10_ofPage 97 = .ok (.getfield 16, 3) := by decide +kernel
theorem dX10_ofPage_100 : decode cX10_ofPage 100 = .ok (.iload_n 1, 1) := by decide +kernel
theorem dX10_ofPage_101 : decode cX10_ofPage 101 = .ok (.iaload, 1) := by decide +kernel
theorem dX10_ofPage_102 : decode cX10_ofPage 102 = .ok (.goto 28, 3) := by decide +kernel
theorem dX10_ofPage_105 : decode cX10_ofPage 105 = .ok (.iload_n 2, 1) := by decide +kernel
theorem dX10_ofPage_106 : decode cX10_ofPage 106 = .ok (.iconst 2, 1) := by decide +kernel
theorem dX10_ofPage_107 : decode cX10_ofPage 107 = .ok (.if_icmp .ne 12, 3) := by decide +kernel
theorem dX10_ofPage_110 : decode cX10_ofPage 110 = .ok (.aload_n 0, 1) := by decide +kernel
theorem dX10_ofPage_111 : decode cX10_ofPage 111 = .ok (.getfield 19, 3) := by decide +kernel
theorem dX10_ofPage_114 : decode cX10_ofPage 114 = .ok (.iload_n 1, 1) := by decide +kernel
theorem dX10_ofPage_115 : decode cX10_ofPage 115 = .ok (.iaload, 1) := by decide +kernel
theorem dX10_ofPage_116 : decode cX10_ofPage 116 = .ok (.goto 14, 3) := by decide +kernel
theorem dX10_ofPage_119 : decode cX10_ofPage 119 = .ok (.iload_n 2, 1) := by decide +kernel
theorem dX10_ofPage_120 : decode cX10_ofPage 120 = .ok (.iconst 3, 1) := by decide +kernel
theorem dX10_ofPage_121 : decode cX10_ofPage 121 = .ok (.if_icmp .ne 7, 3) := by decide +kernel
theorem dX10_ofPage_124 : decode cX10_ofPage 124 = .ok (.iload_n 3, 1) := by decide +kernel
theorem dX10_ofPage_125 : decode cX10_ofPage 125 = .ok (.goto 5, 3) := by decide +kernel
theorem dX10_ofPage_128 : decode cX10_ofPage 128 = .ok (.bipush (-2), 2) := by decide +kernel
theorem dX10_ofPage_130 : decode cX10_ofPage 130 = .ok (.ireturn, 1) := by decide +kernel
theorem dX10_piece_0 : decode cX10_piece 0 = .ok (.aload_n 0, 1) := by decide +kernel
theorem dX10_piece_1 : decode cX10_piece 1 = .ok (.iload_n 1, 1) := by decide +kernel
theorem dX10_piece_2 : decode cX10_piece 2 = .ok (.invokevirtual 156, 3) := by decide +kernel
theorem dX10_piece_5 : decode cX10_piece 5 = .ok (.ifCond .ne 5, 3) := by decide +kernel
theorem dX10_piece_8 : decode cX10_piece 8 = .ok (.iconst (-1), 1) := by decide +kernel
theorem dX10_piece_9 : decode cX10_piece 9 = .ok (.ireturn, 1) := by decide +kernel
theorem dX10_piece_10 : decode cX10_piece 10 = .ok (.iload_n 2, 1) := by decide +kernel
theorem dX10_piece_11 : decode cX10_piece 11 = .ok (.i2l, 1) := by decide +kernel
theorem dX10_piece_12 : decode cX10_piece 12 = .ok (.lconst 0, 1) := by decide +kernel
theorem dX10_piece_13 : decode cX10_piece 13 = .ok (.iload_n 3, 1) := by decide +kernel
theorem dX10_piece_14 : decode cX10_piece 14 = .ok (.i2l, 1) := by decide +kernel
theorem dX10_piece_15 : decode cX10_piece 15 = .ok (.invokestatic 139, 3) := by decide +kernel
theorem dX10_piece_18 : decode cX10_piece 18 = .ok (.ifCond .eq 41, 3) := by decide +kernel
theorem dX10_piece_21 : decode cX10_piece 21 = .ok (.iload_n 3, 1) := by decide +kernel
theorem dX10_piece_22 : decode cX10_piece 22 = .ok (.i2l, 1) := by decide +kernel
theorem dX10_piece_23 : decode cX10_piece 23 = .ok (.lconst 0, 1) := by decide +kernel
theorem dX10_piece_24 : decode cX10_piece 24 = .ok (.ldc2_w 174, 3) := by decide +kernel
theorem dX10_piece_27 : decode cX10_piece 27 = .ok (.invokestatic 139, 3) := by decide +kernel
theorem dX10_piece_30 : decode cX10_piece 30 = .ok (.ifCond .eq 29, 3) := by decide +kernel
theorem dX10_piece_33 : decode cX10_piece 33 = .ok (.iload 4, 2) := by decide +kernel
theorem dX10_piece_35 : decode cX10_piece 35 = .ok (.i2l, 1) := by decide +kernel
theorem dX10_piece_36 : decode cX10_piece 36 = .ok (.lconst 0, 1) := by decide +kernel
theorem dX10_piece_37 : decode cX10_piece 37 = .ok (.iload 5, 2) := by decide +kernel
theorem dX10_piece_39 : decode cX10_piece 39 = .ok (.i2l, 1) := by decide +kernel
theorem dX10_piece_40 : decode cX10_piece 40 = .ok (.invokestatic 139, 3) := by decide +kernel
theorem dX10_piece_43 : decode cX10_piece 43 = .ok (.ifCond .eq 16, 3) := by decide +kernel
theorem dX10_piece_46 : decode cX10_piece 46 = .ok (.iload 5, 2) := by decide +kernel
theorem dX10_piece_48 : decode cX10_piece 48 = .ok (.i2l, 1) := by decide +kernel
theorem dX10_piece_49 : decode cX10_piece 49 = .ok (.lconst 0, 1) := by decide +kernel
theorem dX10_piece_50 : decode cX10_piece 50 = .ok (.ldc2_w 150, 3) := by decide +kernel
theorem dX10_piece_53 : decode cX10_piece 53 = .ok (.invokestatic 139, 3) := by decide +kernel
theorem dX10_piece_56 : decode cX10_piece 56 = .ok (.ifCond .ne 6, 3) := by decide +kernel
theorem dX10_piece_59 : decode cX10_piece 59 = .ok (.bipush (-2), 2) := by decide +kernel
theorem dX10_piece_61 : decode cX10_piece 61 = .ok (.ireturn, 1) := by decide +kernel
theorem dX10_piece_62 : decode cX10_piece 62 = .ok (.aload_n 0, 1) := by decide +kernel
theorem dX10_piece_63 : decode cX10_piece 63 = .ok (.getfield 147, 3) := by decide +kernel
theorem dX10_piece_66 : decode cX10_piece 66 = .ok (.bipush 24, 2) := by decide +kernel
theorem dX10_piece_68 : decode cX10_piece 68 = .ok (.if_icmp .ne 6, 3) := by decide +kernel
theorem dX10_piece_71 : decode cX10_piece 71 = .ok (.bipush (-4), 2) := by decide +kernel
theorem dX10_piece_73 : decode cX10_piece 73 = .ok (.ireturn, 1) := by decide +kernel
theorem dX10_piece_74 : decode cX10_piece 74 = .ok (.aload_n 0, 1) := by decide +kernel
theorem dX10_piece_75 : decode cX10_piece 75 = .ok (.getfield 22, 3) := by decide +kernel
theorem dX10_piece_78 : decode cX10_piece 78 = .ok (.aload_n 0, 1) := by decide +kernel
theorem dX10_piece_79 : decode cX10_piece 79 = .ok (.getfield 147, 3) := by decide +kernel
theorem dX10_piece_82 : decode cX10_piece 82 = .ok (.iload_n 1, 1) := by decide +kernel
theorem dX10_piece_83 : decode cX10_piece 83 = .ok (.iastore, 1) := by decide +kernel
theorem dX10_piece_84 : decode cX10_piece 84 = .ok (.aload_n 0, 1) := by decide +kernel
theorem dX10_piece_85 : decode cX10_piece 85 = .ok (.iconst 0, 1) := by decide +kernel
theorem dX10_piece_86 : decode cX10_piece 86 = .ok (.putfield 166, 3) := by decide +kernel
theorem dX10_piece_89 : decode cX10_piece 89 = .ok (.aload_n 0, 1) := by decide +kernel
theorem dX10_piece_90 : decode cX10_piece 90 = .ok (.getfield 25, 3) := by decide +kernel
theorem dX10_piece_93 : decode cX10_piece 93 = .ok (.aload_n 0, 1) := by decide +kernel
theorem dX10_piece_94 : decode cX10_piece 94 = .ok (.getfield 147, 3) := by decide +kernel
theorem dX10_piece_97 : decode cX10_piece 97 = .ok (.iload_n 2, 1) := by decide +kernel
theorem dX10_piece_98 : decode cX10_piece 98 = .ok (.iastore, 1) := by decide +kernel
theorem dX10_piece_99 : decode cX10_piece 99 = .ok (.aload_n 0, 1) := by decide +kernel
theorem dX10_piece_100 : decode cX10_piece 100 = .ok (.getfield 28, 3) := by decide +kernel
theorem dX10_piece_103 : decode cX10_piece 103 = .ok (.aload_n 0, 1) := by decide +kernel
theorem dX10_piece_104 : decode cX10_piece 104 = .ok (.getfield 147, 3) := by decide +kernel
theorem dX10_piece_107 : decode cX10_piece 107 = .ok (.iload_n 3, 1) := by decide +kernel
theorem dX10_piece_108 : decode cX10_piece 108 = .ok (.iastore, 1) := by decide +kernel
theorem dX10_piece_109 : decode cX10_piece 109 = .ok (.aload_n 0, 1) := by decide +kernel
theorem dX10_piece_110 : decode cX10_piece 110 = .ok (.getfield 31, 3) := by decide +kernel
theorem dX10_piece_113 : decode cX10_piece 113 = .ok (.aload_n 0, 1) := by decide +kernel
theorem dX10_piece_114 : decode cX10_piece 114 = .ok (.getfield 147, 3) := by decide +kernel
theorem dX10_piece_117 : decode cX10_piece 117 = .ok (.iload 4, 2) := by decide +kernel
theorem dX10_piece_119 : decode cX10_piece 119 = .ok (.iastore, 1) := by decide +kernel
theorem dX10_piece_120 : decode cX10_piece 120 = .ok (.aload_n 0, 1) := by decide +kernel
theorem dX10_piece_121 : decode cX10_piece 121 = .ok (.getfield 34, 3) := by decide +kernel
theorem dX10_piece_124 : decode cX10_piece 124 = .ok (.aload_n 0, 1) := by decide +kernel
theorem dX10_piece_125 : decode cX10_piece 125 = .ok (.getfield 147, 3) := by decide +kernel
theorem dX10_piece_128 : decode cX10_piece 128 = .ok (.iload 5, 2) := by decide +kernel
theorem dX10_piece_130 : decode cX10_piece 130 = .ok (.iastore, 1) := by decide +kernel
theorem dX10_piece_131 : decode cX10_piece 131 = .ok (.aload_n 0, 1) := by decide +kernel
theorem dX10_piece_132 : decode cX10_piece 132 = .ok (.dup, 1) := by decide +kernel
theorem dX10_piece_133 : decode cX10_piece 133 = .ok (.getfield 147, 3) := by decide +kernel
theorem dX10_piece_136 : decode cX10_piece 136 = .ok (.iconst 1, 1) := by decide +kernel
theorem dX10_piece_137 : decode cX10_piece 137 = .ok (.iadd, 1) := by decide +kernel
theorem dX10_piece_138 : decode cX10_piece 138 = .ok (.putfield 147, 3) := by decide +kernel
theorem dX10_piece_141 : decode cX10_piece 141 = .ok (.aload_n 0, 1) := by decide +kernel
theorem dX10_piece_142 : decode cX10_piece 142 = .ok (.getfield 147, 3) := by decide +kernel
theorem dX10_piece_145 : decode cX10_piece 145 = .ok (.iconst 1, 1) := by decide +kernel
theorem dX10_piece_146 : decode cX10_piece 146 = .ok (.isub, 1) := by decide +kernel
theorem dX10_piece_147 : decode cX10_piece 147 = .ok (.ireturn, 1) := by decide +kernel
theorem dX10_layOne_0 : decode cX10_layOne 0 = .ok (.aload_n 0, 1) := by decide +kernel
theorem dX10_layOne_1 : decode cX10_layOne 1 = .ok (.iconst 0, 1) := by decide +kernel
theorem dX10_layOne_2 : decode cX10_layOne 2 = .ok (.putfield 176, 3) := by decide +kernel
theorem dX10_layOne_5 : decode cX10_layOne 5 = .ok (.aload_n 0, 1) := by decide +kernel
theorem dX10_layOne_6 : decode cX10_layOne 6 = .ok (.getfield 25, 3) := by decide +kernel
theorem dX10_layOne_9 : decode cX10_layOne 9 = .ok (.iload_n 1, 1) := by decide +kernel
theorem dX10_layOne_10 : decode cX10_layOne 10 = .ok (.iaload, 1) := by decide +kernel
theorem dX10_layOne_11 : decode cX10_layOne 11 = .ok (.istore_n 2, 1) := by decide +kernel
theorem dX10_layOne_12 : decode cX10_layOne 12 = .ok (.iload_n 2, 1) := by decide +kernel
theorem dX10_layOne_13 : decode cX10_layOne 13 = .ok (.aload_n 0, 1) := by decide +kernel
theorem dX10_layOne_14 : decode cX10_layOne 14 = .ok (.getfield 28, 3) := by decide +kernel
theorem dX10_layOne_17 : decode cX10_layOne 17 = .ok (.iload_n 1, 1) := by decide +kernel
theorem dX10_layOne_18 : decode cX10_layOne 18 = .ok (.iaload, 1) := by decide +kernel
theorem dX10_layOne_19 : decode cX10_layOne 19 = .ok (.if_icmp .gt 81, 3) := by decide +kernel
theorem dX10_layOne_22 : decode cX10_layOne 22 = .ok (.aload_n 0, 1) := by decide +kernel
theorem dX10_layOne_23 : decode cX10_layOne 23 = .ok (.getfield 31, 3) := by decide +kernel
theorem dX10_layOne_26 : decode cX10_layOne 26 = .ok (.iload_n 1, 1) := by decide +kernel
theorem dX10_layOne_27 : decode cX10_layOne 27 = .ok (.iaload, 1) := by decide +kernel
theorem dX10_layOne_28 : decode cX10_layOne 28 = .ok (.istore_n 3, 1) := by decide +kernel
theorem dX10_layOne_29 : decode cX10_layOne 29 = .ok (.iload_n 3, 1) := by decide +kernel
theorem dX10_layOne_30 : decode cX10_layOne 30 = .ok (.aload_n 0, 1) := by decide +kernel
theorem dX10_layOne_31 : decode cX10_layOne 31 = .ok (.getfield 34, 3) := by decide +kernel
theorem dX10_layOne_34 : decode cX10_layOne 34 = .ok (.iload_n 1, 1) := by decide +kernel
theorem dX10_layOne_35 : decode cX10_layOne 35 = .ok (.iaload, 1) := by decide +kernel
theorem dX10_layOne_36 : decode cX10_layOne 36 = .ok (.if_icmp .gt 58, 3) := by decide +kernel
theorem dX10_layOne_39 : decode cX10_layOne 39 = .ok (.aload_n 0, 1) := by decide +kernel
theorem dX10_layOne_40 : decode cX10_layOne 40 = .ok (.getfield 7, 3) := by decide +kernel
theorem dX10_layOne_43 : decode cX10_layOne 43 = .ok (.bipush 60, 2) := by decide +kernel
theorem dX10_layOne_45 : decode cX10_layOne 45 = .ok (.aload_n 0, 1) := by decide +kernel
theorem dX10_layOne_46 : decode cX10_layOne 46 = .ok (.getfield 22, 3) := by decide +kernel
theorem dX10_layOne_49 : decode cX10_layOne 49 = .ok (.iload_n 1, 1) := by decide +kernel
theorem dX10_layOne_50 : decode cX10_layOne 50 = .ok (.iaload, 1) := by decide +kernel
theorem dX10_layOne_51 : decode cX10_layOne 51 = .ok (.imul, 1) := by decide +kernel
theorem dX10_layOne_52 : decode cX10_layOne 52 = .ok (.bipush 10, 2) := by decide +kernel
theorem dX10_layOne_54 : decode cX10_layOne 54 = .ok (.iload_n 2, 1) := by decide +kernel
theorem dX10_layOne_55 : decode cX10_layOne 55 = .ok (.imul, 1) := by decide +kernel
theorem dX10_layOne_56 : decode cX10_layOne 56 = .ok (.iadd, 1) := by decide +kernel
theorem dX10_layOne_57 : decode cX10_layOne 57 = .ok (.iload_n 3, 1) := by decide +kernel
theorem dX10_layOne_58 : decode cX10_layOne 58 = .ok (.iadd, 1) := by decide +kernel
theorem dX10_layOne_59 : decode cX10_layOne 59 = .ok (.iaload, 1) := by decide +kernel
theorem dX10_layOne_60 : decode cX10_layOne 60 = .ok (.istore 4, 2) := by decide +kernel
theorem dX10_layOne_62 : decode cX10_layOne 62 = .ok (.iload 4, 2) := by decide +kernel
theorem dX10_layOne_64 : decode cX10_layOne 64 = .ok (.ifCond .lt 24, 3) := by decide +kernel
theorem dX10_layOne_67 : decode cX10_layOne 67 = .ok (.aload_n 0, 1) := by decide +kernel
theorem dX10_layOne_68 : decode cX10_layOne 68 = .ok (.getfield 46, 3) := by decide +kernel
theorem dX10_layOne_71 : decode cX10_layOne 71 = .ok (.aload_n 0, 1) := by decide +kernel
theorem dX10_layOne_72 : decode cX10_layOne 72 = .ok (.getfield 176, 3) := by decide +kernel
theorem dX10_layOne_75 : decode cX10_layOne 75 = .ok (.iload 4, 2) := by decide +kernel
theorem dX10_layOne_77 : decode cX10_layOne 77 = .ok (.iastore, 1) := by decide +kernel
theorem dX10_layOne_78 : decode cX10_layOne 78 = .ok (.aload_n 0, 1) := by decide +kernel
theorem dX10_layOne_79 : decode cX10_layOne 79 = .ok (.dup, 1) := by decide +kernel
theorem dX10_layOne_80 : decode cX10_layOne 80 = .ok (.getfield 176, 3) := by decide +kernel
theorem dX10_layOne_83 : decode cX10_layOne 83 = .ok (.iconst 1, 1) := by decide +kernel
theorem dX10_layOne_84 : decode cX10_layOne 84 = .ok (.iadd, 1) := by decide +kernel
theorem dX10_layOne_85 : decode cX10_layOne 85 = .ok (.putfield 176, 3) := by decide +kernel
theorem dX10_layOne_88 : decode cX10_layOne 88 = .ok (.iinc 3 1, 3) := by decide +kernel
theorem dX10_layOne_91 : decode cX10_layOne 91 = .ok (.goto (-62), 3) := by decide +kernel
theorem dX10_layOne_94 : decode cX10_layOne 94 = .ok (.iinc 2 1, 3) := by decide +kernel
theorem dX10_layOne_97 : decode cX10_layOne 97 = .ok (.goto (-85), 3) := by decide +kernel
theorem dX10_layOne_100 : decode cX10_layOne 100 = .ok (.return_, 1) := by decide +kernel
theorem dX10_layBoth_0 : decode cX10_layBoth 0 = .ok (.aload_n 0, 1) := by decide +kernel
theorem dX10_layBoth_1 : decode cX10_layBoth 1 = .ok (.iload_n 2, 1) := by decide +kernel
theorem dX10_layBoth_2 : decode cX10_layBoth 2 = .ok (.invokevirtual 179, 3) := by decide +kernel
theorem dX10_layBoth_5 : decode cX10_layBoth 5 = .ok (.iconst 0, 1) := by decide +kernel
theorem dX10_layBoth_6 : decode cX10_layBoth 6 = .ok (.istore_n 3, 1) := by decide +kernel
theorem dX10_layBoth_7 : decode cX10_layBoth 7 = .ok (.iload_n 3, 1) := by decide +kernel
theorem dX10_layBoth_8 : decode cX10_layBoth 8 = .ok (.aload_n 0, 1) := by decide +kernel
theorem dX10_layBoth_9 : decode cX10_layBoth 9 = .ok (.getfield 176, 3) := by decide +kernel
theorem dX10_layBoth_12 : decode cX10_layBoth 12 = .ok (.if_icmp .ge 21, 3) := by decide +kernel
theorem dX10_layBoth_15 : decode cX10_layBoth 15 = .ok (.aload_n 0, 1) := by decide +kernel
theorem dX10_layBoth_16 : decode cX10_layBoth 16 = .ok (.getfield 49, 3) := by decide +kernel
theorem dX10_layBoth_19 : decode cX10_layBoth 19 = .ok (.iload_n 3, 1) := by decide +kernel
theorem dX10_layBoth_20 : decode cX10_layBoth 20 = .ok (.aload_n 0, 1) := by decide +kernel
theorem dX10_layBoth_21 : decode cX10_layBoth 21 = .ok (.getfield 46, 3) := by decide +kernel
theorem dX10_layBoth_24 : decode cX10_layBoth 24 = .ok (.iload_n 3, 1) := by decide +kernel
theorem dX10_layBoth_25 : decode cX10_layBoth 25 = .ok (.iaload, 1) := by decide +kernel
theorem dX10_layBoth_26 : decode cX10_layBoth 26 = .ok (.iastore, 1) := by decide +kernel
theorem dX10_layBoth_27 : decode cX10_layBoth 27 = .ok (.iinc 3 1, 3) := by decide +kernel
theorem dX10_layBoth_30 : decode cX10_layBoth 30 = .ok (.goto (-23), 3) := by decide +kernel
theorem dX10_layBoth_33 : decode cX10_layBoth 33 = .ok (.aload_n 0, 1) := by decide +kernel
theorem dX10_layBoth_34 : decode cX10_layBoth 34 = .ok (.aload_n 0, 1) := by decide +kernel
theorem dX10_layBoth_35 : decode cX10_layBoth 35 = .ok (.getfield 176, 3) := by decide +kernel
theorem dX10_layBoth_38 : decode cX10_layBoth 38 = .ok (.putfield 183, 3) := by decide +kernel
theorem dX10_layBoth_41 : decode cX10_layBoth 41 = .ok (.aload_n 0, 1) := by decide +kernel
theorem dX10_layBoth_42 : decode cX10_layBoth 42 = .ok (.iload_n 1, 1) := by decide +kernel
theorem dX10_layBoth_43 : decode cX10_layBoth 43 = .ok (.invokevirtual 179, 3) := by decide +kernel
theorem dX10_layBoth_46 : decode cX10_layBoth 46 = .ok (.return_, 1) := by decide +kernel
theorem dX10_changesOf_0 : decode cX10_changesOf 0 = .ok (.aload_n 0, 1) := by decide +kernel
theorem dX10_changesOf_1 : decode cX10_changesOf 1 = .ok (.iload_n 1, 1) := by decide +kernel
theorem dX10_changesOf_2 : decode cX10_changesOf 2 = .ok (.iload_n 2, 1) := by decide +kernel
theorem dX10_changesOf_3 : decode cX10_changesOf 3 = .ok (.invokevirtual 258, 3) := by decide +kernel
theorem dX10_changesOf_6 : decode cX10_changesOf 6 = .ok (.iconst 0, 1) := by decide +kernel
theorem dX10_changesOf_7 : decode cX10_changesOf 7 = .ok (.istore_n 3, 1) := by decide +kernel
theorem dX10_changesOf_8 : decode cX10_changesOf 8 = .ok (.iload_n 3, 1) := by decide +kernel
theorem dX10_changesOf_9 : decode cX10_changesOf 9 = .ok (.aload_n 0, 1) := by decide +kernel
theorem dX10_changesOf_10 : decode cX10_changesOf 10 = .ok (.getfield 183, 3) := by decide +kernel
theorem dX10_changesOf_13 : decode cX10_changesOf 13 = .ok (.if_icmp .gt 16, 3) := by decide +kernel
theorem dX10_changesOf_16 : decode cX10_changesOf 16 = .ok (.aload_n 0, 1) := by decide +kernel
theorem dX10_changesOf_17 : decode cX10_changesOf 17 = .ok (.getfield 86, 3) := by decide +kernel
theorem dX10_changesOf_20 : decode cX10_changesOf 20 = .ok (.iload_n 3, 1) := by decide +kernel
theorem dX10_changesOf_21 : decode cX10_changesOf 21 = .ok (.iload_n 3, 1) := by decide +kernel
theorem dX10_changesOf_22 : decode cX10_changesOf 22 = .ok (.iastore, 1) := by decide +kernel
theorem dX10_changesOf_23 : decode cX10_changesOf 23 = .ok (.iinc 3 1, 3) := by decide +kernel
theorem dX10_changesOf_26 : decode cX10_changesOf 26 = .ok (.goto (-18), 3) := by decide +kernel
theorem dX10_changesOf_29 : decode cX10_changesOf 29 = .ok (.iconst 1, 1) := by decide +kernel
theorem dX10_changesOf_30 : decode cX10_changesOf 30 = .ok (.istore_n 3, 1) := by decide +kernel
theorem dX10_changesOf_31 : decode cX10_changesOf 31 = .ok (.iload_n 3, 1) := by decide +kernel
theorem dX10_changesOf_32 : decode cX10_changesOf 32 = .ok (.aload_n 0, 1) := by decide +kernel
theorem dX10_changesOf_33 : decode cX10_changesOf 33 = .ok (.getfield 176, 3) := by decide +kernel
theorem dX10_changesOf_36 : decode cX10_changesOf 36 = .ok (.if_icmp .gt 148, 3) := by decide +kernel
theorem dX10_changesOf_39 : decode cX10_changesOf 39 = .ok (.aload_n 0, 1) := by decide +kernel
theorem dX10_changesOf_40 : decode cX10_changesOf 40 = .ok (.getfield 86, 3) := by decide +kernel
theorem dX10_changesOf_43 : decode cX10_changesOf 43 = .ok (.iconst 0, 1) := by decide +kernel
theorem dX10_changesOf_44 : decode cX10_changesOf 44 = .ok (.iaload, 1) := by decide +kernel
theorem dX10_changesOf_45 : decode cX10_changesOf 45 = .ok (.istore 4, 2) := by decide +kernel
theorem dX10_changesOf_47 : decode cX10_changesOf 47 = .ok (.aload_n 0, 1) := by decide +kernel
theorem dX10_changesOf_48 : decode cX10_changesOf 48 = .ok (.getfield 86, 3) := by decide +kernel
theorem dX10_changesOf_51 : decode cX10_changesOf 51 = .ok (.iconst 0, 1) := by decide +kernel
theorem dX10_changesOf_52 : decode cX10_changesOf 52 = .ok (.iload_n 3, 1) := by decide +kernel
theorem dX10_changesOf_53 : decode cX10_changesOf 53 = .ok (.iastore, 1) := by decide +kernel
theorem dX10_changesOf_54 : decode cX10_changesOf 54 = .ok (.iconst 1, 1) := by decide +kernel
theorem dX10_changesOf_55 : decode cX10_changesOf 55 = .ok (.istore 5, 2) := by decide +kernel
theorem dX10_changesOf_57 : decode cX10_changesOf 57 = .ok (.iload 5, 2) := by decide +kernel
theorem dX10_changesOf_59 : decode cX10_changesOf 59 = .ok (.aload_n 0, 1) := by decide +kernel
theorem dX10_changesOf_60 : decode cX10_changesOf 60 = .ok (.getfield 183, 3) := by decide +kernel
theorem dX10_changesOf_63 : decode cX10_changesOf 63 = .ok (.if_icmp .gt 115, 3) := by decide +kernel
theorem dX10_changesOf_66 : decode cX10_changesOf 66 = .ok (.aload_n 0, 1) := by decide +kernel
theorem dX10_changesOf_67 : decode cX10_changesOf 67 = .ok (.getfield 86, 3) := by decide +kernel
theorem dX10_changesOf_70 : decode cX10_changesOf 70 = .ok (.iload 5, 2) := by decide +kernel
theorem dX10_changesOf_72 : decode cX10_changesOf 72 = .ok (.iaload, 1) := by decide +kernel
theorem dX10_changesOf_73 : decode cX10_changesOf 73 = .ok (.istore 6, 2) := by decide +kernel
theorem dX10_changesOf_75 : decode cX10_changesOf 75 = .ok (.iload 4, 2) := by decide +kernel
theorem dX10_changesOf_77 : decode cX10_changesOf 77 = .ok (.aload_n 0, 1) := by decide +kernel
theorem dX10_changesOf_78 : decode cX10_changesOf 78 = .ok (.getfield 46, 3) := by decide +kernel
theorem dX10_changesOf_81 : decode cX10_changesOf 81 = .ok (.iload_n 3, 1) := by decide +kernel
theorem dX10_changesOf_82 : decode cX10_changesOf 82 = .ok (.iconst 1, 1) := by decide +kernel
theorem dX10_changesOf_83 : decode cX10_changesOf 83 = .ok (.isub, 1) := by decide +kernel
theorem dX10_changesOf_84 : decode cX10_changesOf 84 = .ok (.iaload, 1) := by decide +kernel
theorem dX10_changesOf_85 : decode cX10_changesOf 85 = .ok (.aload_n 0, 1) := by decide +kernel
theorem dX10_changesOf_86 : decode cX10_changesOf 86 = .ok (.getfield 49, 3) := by decide +kernel
theorem dX10_changesOf_89 : decode cX10_changesOf 89 = .ok (.iload 5, 2) := by decide +kernel
theorem dX10_changesOf_91 : decode cX10_changesOf 91 = .ok (.iconst 1, 1) := by decide +kernel
theorem dX10_changesOf_92 : decode cX10_changesOf 92 = .ok (.isub, 1) := by decide +kernel
theorem dX10_changesOf_93 : decode cX10_changesOf 93 = .ok (.iaload, 1) := by decide +kernel
theorem dX10_changesOf_94 : decode cX10_changesOf 94 = .ok (.if_icmp .ne 7, 3) := by decide +kernel
theorem dX10_changesOf_97 : decode cX10_changesOf 97 = .ok (.iconst 0, 1) := by decide +kernel
theorem dX10_changesOf_98 : decode cX10_changesOf 98 = .ok (.goto 4, 3) := by decide +kernel
theorem dX10_changesOf_101 : decode cX10_changesOf 101 = .ok (.iconst 1, 1) := by decide +kernel
theorem dX10_changesOf_102 : decode cX10_changesOf 102 = .ok (.iadd, 1) := by decide +kernel
theorem dX10_changesOf_103 : decode cX10_changesOf 103 = .ok (.istore 7, 2) := by decide +kernel
theorem dX10_changesOf_105 : decode cX10_changesOf 105 = .ok (.iload 6, 2) := by decide +kernel
theorem dX10_changesOf_107 : decode cX10_changesOf 107 = .ok (.iconst 1, 1) := by decide +kernel
theorem dX10_changesOf_108 : decode cX10_changesOf 108 = .ok (.iadd, 1) := by decide +kernel
theorem dX10_changesOf_109 : decode cX10_changesOf 109 = .ok (.iload 7, 2) := by decide +kernel
theorem dX10_changesOf_111 : decode cX10_changesOf 111 = .ok (.if_icmp .ge 10, 3) := by decide +kernel
theorem dX10_changesOf_114 : decode cX10_changesOf 114 = .ok (.iload 6, 2) := by decide +kernel
theorem dX10_changesOf_116 : decode cX10_changesOf 116 = .ok (.iconst 1, 1) := by decide +kernel
theorem dX10_changesOf_117 : decode cX10_changesOf 117 = .ok (.iadd, 1) := by decide +kernel
theorem dX10_changesOf_118 : decode cX10_changesOf 118 = .ok (.goto 5, 3) := by decide +kernel
theorem dX10_changesOf_121 : decode cX10_changesOf 121 = .ok (.iload 7, 2) := by decide +kernel
theorem dX10_changesOf_123 : decode cX10_changesOf 123 = .ok (.istore 7, 2) := by decide +kernel
theorem dX10_changesOf_125 : decode cX10_changesOf 125 = .ok (.aload_n 0, 1) := by decide +kernel
theorem dX10_changesOf_126 : decode cX10_changesOf 126 = .ok (.getfield 86, 3) := by decide +kernel
theorem dX10_changesOf_129 : decode cX10_changesOf 129 = .ok (.iload 5, 2) := by decide +kernel
theorem dX10_changesOf_131 : decode cX10_changesOf 131 = .ok (.iconst 1, 1) := by decide +kernel
theorem dX10_changesOf_132 : decode cX10_changesOf 132 = .ok (.isub, 1) := by decide +kernel
theorem dX10_changesOf_133 : decode cX10_changesOf 133 = .ok (.iaload, 1) := by decide +kernel
theorem dX10_changesOf_134 : decode cX10_changesOf 134 = .ok (.iconst 1, 1) := by decide +kernel
theorem dX10_changesOf_135 : decode cX10_changesOf 135 = .ok (.iadd, 1) := by decide +kernel
theorem dX10_changesOf_136 : decode cX10_changesOf 136 = .ok (.iload 7, 2) := by decide +kernel
theorem dX10_changesOf_138 : decode cX10_changesOf 138 = .ok (.if_icmp .ge 17, 3) := by decide +kernel
theorem dX10_changesOf_141 : decode cX10_changesOf 141 = .ok (.aload_n 0, 1) := by decide +kernel
theorem dX10_changesOf_142 : decode cX10_changesOf 142 = .ok (.getfield 86, 3) := by decide +kernel
theorem dX10_changesOf_145 : decode cX10_changesOf 145 = .ok (.iload 5, 2) := by decide +kernel
theorem dX10_changesOf_147 : decode cX10_changesOf 147 = .ok (.iconst 1, 1) := by decide +kernel
theorem dX10_changesOf_148 : decode cX10_changesOf 148 = .ok (.isub, 1) := by decide +kernel
theorem dX10_changesOf_149 : decode cX10_changesOf 149 = .ok (.iaload, 1) := by decide +kernel
theorem dX10_changesOf_150 : decode cX10_changesOf 150 = .ok (.iconst 1, 1) := by decide +kernel
theorem dX10_changesOf_151 : decode cX10_changesOf 151 = .ok (.iadd, 1) := by decide +kernel
theorem dX10_changesOf_152 : decode cX10_changesOf 152 = .ok (.goto 5, 3) := by decide +kernel
theorem dX10_changesOf_155 : decode cX10_changesOf 155 = .ok (.iload 7, 2) := by decide +kernel
theorem dX10_changesOf_157 : decode cX10_changesOf 157 = .ok (.istore 7, 2) := by decide +kernel
theorem dX10_changesOf_159 : decode cX10_changesOf 159 = .ok (.aload_n 0, 1) := by decide +kernel
theorem dX10_changesOf_160 : decode cX10_changesOf 160 = .ok (.getfield 86, 3) := by decide +kernel
theorem dX10_changesOf_163 : decode cX10_changesOf 163 = .ok (.iload 5, 2) := by decide +kernel
theorem dX10_changesOf_165 : decode cX10_changesOf 165 = .ok (.iload 7, 2) := by decide +kernel
theorem dX10_changesOf_167 : decode cX10_changesOf 167 = .ok (.iastore, 1) := by decide +kernel
theorem dX10_changesOf_168 : decode cX10_changesOf 168 = .ok (.iload 6, 2) := by decide +kernel
theorem dX10_changesOf_170 : decode cX10_changesOf 170 = .ok (.istore 4, 2) := by decide +kernel
theorem dX10_changesOf_172 : decode cX10_changesOf 172 = .ok (.iinc 5 1, 3) := by decide +kernel
theorem dX10_changesOf_175 : decode cX10_changesOf 175 = .ok (.goto (-118), 3) := by decide +kernel
theorem dX10_changesOf_178 : decode cX10_changesOf 178 = .ok (.iinc 3 1, 3) := by decide +kernel
theorem dX10_changesOf_181 : decode cX10_changesOf 181 = .ok (.goto (-150), 3) := by decide +kernel
theorem dX10_changesOf_184 : decode cX10_changesOf 184 = .ok (.aload_n 0, 1) := by decide +kernel
theorem dX10_changesOf_185 : decode cX10_changesOf 185 = .ok (.getfield 86, 3) := by decide +kernel
theorem dX10_changesOf_188 : decode cX10_changesOf 188 = .ok (.aload_n 0, 1) := by decide +kernel
theorem dX10_changesOf_189 : decode cX10_changesOf 189 = .ok (.getfield 183, 3) := by decide +kernel
theorem dX10_changesOf_192 : decode cX10_changesOf 192 = .ok (.iaload, 1) := by decide +kernel
theorem dX10_changesOf_193 : decode cX10_changesOf 193 = .ok (.ireturn, 1) := by decide +kernel
theorem dX10_areDoubles_0 : decode cX10_areDoubles 0 = .ok (.aload_n 0, 1) := by decide +kernel
theorem dX10_areDoubles_1 : decode cX10_areDoubles 1 = .ok (.iload_n 1, 1) := by decide +kernel
theorem dX10_areDoubles_2 : decode cX10_areDoubles 2 = .ok (.iload_n 2, 1) := by decide +kernel
theorem dX10_areDoubles_3 : decode cX10_areDoubles 3 = .ok (.invokevirtual 262, 3) := by decide +kernel
theorem dX10_areDoubles_6 : decode cX10_areDoubles 6 = .ok (.istore_n 3, 1) := by decide +kernel
theorem dX10_areDoubles_7 : decode cX10_areDoubles 7 = .ok (.aload_n 0, 1) := by decide +kernel
theorem dX10_areDoubles_8 : decode cX10_areDoubles 8 = .ok (.getfield 176, 3) := by decide +kernel
theorem dX10_areDoubles_11 : decode cX10_areDoubles 11 = .ok (.aload_n 0, 1) := by decide +kernel
theorem dX10_areDoubles_12 : decode cX10_areDoubles 12 = .ok (.getfield 183, 3) := by decide +kernel
theorem dX10_areDoubles_15 : decode cX10_areDoubles 15 = .ok (.if_icmp .le 10, 3) := by decide +kernel
theorem dX10_areDoubles_18 : decode cX10_areDoubles 18 = .ok (.aload_n 0, 1) := by decide +kernel
theorem dX10_areDoubles_19 : decode cX10_areDoubles 19 = .ok (.getfield 176, 3) := by decide +kernel
theorem dX10_areDoubles_22 : decode cX10_areDoubles 22 = .ok (.goto 7, 3) := by decide +kernel
theorem dX10_areDoubles_25 : decode cX10_areDoubles 25 = .ok (.aload_n 0, 1) := by decide +kernel
theorem dX10_areDoubles_26 : decode cX10_areDoubles 26 = .ok (.getfield 183, 3) := by decide +kernel
theorem dX10_areDoubles_29 : decode cX10_areDoubles 29 = .ok (.istore 4, 2) := by decide +kernel
theorem dX10_areDoubles_31 : decode cX10_areDoubles 31 = .ok (.aload_n 0, 1) := by decide +kernel
theorem dX10_areDoubles_32 : decode cX10_areDoubles 32 = .ok (.getfield 176, 3) := by decide +kernel
theorem dX10_areDoubles_35 : decode cX10_areDoubles 35 = .ok (.ifCond .le 30, 3) := by decide +kernel
theorem dX10_areDoubles_38 : decode cX10_areDoubles 38 = .ok (.aload_n 0, 1) := by decide +kernel
theorem dX10_areDoubles_39 : decode cX10_areDoubles 39 = .ok (.getfield 183, 3) := by decide +kernel
theorem dX10_areDoubles_42 : decode cX10_areDoubles 42 = .ok (.ifCond .le 23, 3) := by decide +kernel
theorem dX10_areDoubles_45 : decode cX10_areDoubles 45 = .ok (.bipush 100, 2) := by decide +kernel
theorem dX10_areDoubles_47 : decode cX10_areDoubles 47 = .ok (.iload_n 3, 1) := by decide +kernel
theorem dX10_areDoubles_48 : decode cX10_areDoubles 48 = .ok (.imul, 1) := by decide +kernel
theorem dX10_areDoubles_49 : decode cX10_areDoubles 49 = .ok (.aload_n 0, 1) := by decide +kernel
theorem dX10_areDoubles_50 : decode cX10_areDoubles 50 = .ok (.getfield 43, 3) := by decide +kernel
theorem dX10_areDoubles_53 : decode cX10_areDoubles 53 = .ok (.iconst 0, 1) := by decide +kernel
theorem dX10_areDoubles_54 : decode cX10_areDoubles 54 = .ok (.iaload, 1) := by decide +kernel
theorem dX10_areDoubles_55 : decode cX10_areDoubles 55 = .ok (.iload 4, 2) := by decide +kernel
theorem dX10_areDoubles_57 : decode cX10_areDoubles 57 = .ok (.imul, 1) := by decide +kernel
theorem dX10_areDoubles_58 : decode cX10_areDoubles 58 = .ok (.if_icmp .gt 7, 3) := by decide +kernel
theorem dX10_areDoubles_61 : decode cX10_areDoubles 61 = .ok (.iconst 1, 1) := by decide +kernel
theorem dX10_areDoubles_62 : decode cX10_areDoubles 62 = .ok (.goto 4, 3) := by decide +kernel
theorem dX10_areDoubles_65 : decode cX10_areDoubles 65 = .ok (.iconst 0, 1) := by decide +kernel
theorem dX10_areDoubles_66 : decode cX10_areDoubles 66 = .ok (.ireturn, 1) := by decide +kernel
theorem dX10_layDoubles_0 : decode cX10_layDoubles 0 = .ok (.iconst 0, 1) := by decide +kernel
theorem dX10_layDoubles_1 : decode cX10_layDoubles 1 = .ok (.istore_n 1, 1) := by decide +kernel
theorem dX10_layDoubles_2 : decode cX10_layDoubles 2 = .ok (.iload_n 1, 1) := by decide +kernel
theorem dX10_layDoubles_3 : decode cX10_layDoubles 3 = .ok (.aload_n 0, 1) := by decide +kernel
theorem dX10_layDoubles_4 : decode cX10_layDoubles 4 = .ok (.getfield 147, 3) := by decide +kernel
theorem dX10_layDoubles_7 : decode cX10_layDoubles 7 = .ok (.if_icmp .ge 60, 3) := by decide +kernel
theorem dX10_layDoubles_10 : decode cX10_layDoubles 10 = .ok (.aload_n 0, 1) := by decide +kernel
theorem dX10_layDoubles_11 : decode cX10_layDoubles 11 = .ok (.getfield 166, 3) := by decide +kernel
theorem dX10_layDoubles_14 : decode cX10_layDoubles 14 = .ok (.ifCond .ne 53, 3) := by decide +kernel
theorem dX10_layDoubles_17 : decode cX10_layDoubles 17 = .ok (.iconst 0, 1) := by decide +kernel
theorem dX10_layDoubles_18 : decode cX10_layDoubles 18 = .ok (.istore_n 2, 1) := by decide +kernel
theorem dX10_layDoubles_19 : decode cX10_layDoubles 19 = .ok (.iload_n 2, 1) := by decide +kernel
theorem dX10_layDoubles_20 : decode cX10_layDoubles 20 = .ok (.iload_n 1, 1) := by decide +kernel
theorem dX10_layDoubles_21 : decode cX10_layDoubles 21 = .ok (.if_icmp .gt 40, 3) := by decide +kernel
theorem dX10_layDoubles_24 : decode cX10_layDoubles 24 = .ok (.aload_n 0, 1) := by decide +kernel
theorem dX10_layDoubles_25 : decode cX10_layDoubles 25 = .ok (.iload_n 1, 1) := by decide +kernel
theorem dX10_layDoubles_26 : decode cX10_layDoubles 26 = .ok (.iload_n 2, 1) := by decide +kernel
theorem dX10_layDoubles_27 : decode cX10_layDoubles 27 = .ok (.invokevirtual 266, 3) := by decide +kernel
theorem dX10_layDoubles_30 : decode cX10_layDoubles 30 = .ok (.istore_n 3, 1) := by decide +kernel
theorem dX10_layDoubles_31 : decode cX10_layDoubles 31 = .ok (.aload_n 0, 1) := by decide +kernel
theorem dX10_layDoubles_32 : decode cX10_layDoubles 32 = .ok (.getfield 92, 3) := by decide +kernel
theorem dX10_layDoubles_35 : decode cX10_layDoubles 35 = .ok (.bipush 24, 2) := by decide +kernel
theorem dX10_layDoubles_37 : decode cX10_layDoubles 37 = .ok (.iload_n 1, 1) := by decide +kernel
theorem dX10_layDoubles_38 : decode cX10_layDoubles 38 = .ok (.imul, 1) := by decide +kernel
theorem dX10_layDoubles_39 : decode cX10_layDoubles 39 = .ok (.iload_n 2, 1) := by decide +kernel
theorem dX10_layDoubles_40 : decode cX10_layDoubles 40 = .ok (.iadd, 1) := by decide +kernel
theorem dX10_layDoubles_41 : decode cX10_layDoubles 41 = .ok (.iload_n 3, 1) := by decide +kernel
theorem dX10_layDoubles_42 : decode cX10_layDoubles 42 = .ok (.bastore, 1) := by decide +kernel
theorem dX10_layDoubles_43 : decode cX10_layDoubles 43 = .ok (.aload_n 0, 1) := by decide +kernel
theorem dX10_layDoubles_44 : decode cX10_layDoubles 44 = .ok (.getfield 92, 3) := by decide +kernel
theorem dX10_layDoubles_47 : decode cX10_layDoubles 47 = .ok (.bipush 24, 2) := by decide +kernel
theorem dX10_layDoubles_49 : decode cX10_layDoubles 49 = .ok (.iload_n 2, 1) := by decide +kernel
theorem dX10_layDoubles_50 : decode cX10_layDoubles 50 = .ok (.imul, 1) := by decide +kernel
theorem dX10_layDoubles_51 : decode cX10_layDoubles 51 = .ok (.iload_n 1, 1) := by decide +kernel
theorem dX10_layDoubles_52 : decode cX10_layDoubles 52 = .ok (.iadd, 1) := by decide +kernel
theorem dX10_layDoubles_53 : decode cX10_layDoubles 53 = .ok (.iload_n 3, 1) := by decide +kernel
theorem dX10_layDoubles_54 : decode cX10_layDoubles 54 = .ok (.bastore, 1) := by decide +kernel
theorem dX10_layDoubles_55 : decode cX10_layDoubles 55 = .ok (.iinc 2 1, 3) := by decide +kernel
theorem dX10_layDoubles_58 : decode cX10_layDoubles 58 = .ok (.goto (-39), 3) := by decide +kernel
theorem dX10_layDoubles_61 : decode cX10_layDoubles 61 = .ok (.iinc 1 1, 3) := by decide +kernel
theorem dX10_layDoubles_64 : decode cX10_layDoubles 64 = .ok (.goto (-62), 3) := by decide +kernel
theorem dX10_layDoubles_67 : decode cX10_layDoubles 67 = .ok (.aload_n 0, 1) := by decide +kernel
theorem dX10_layDoubles_68 : decode cX10_layDoubles 68 = .ok (.iconst 1, 1) := by decide +kernel
theorem dX10_layDoubles_69 : decode cX10_layDoubles 69 = .ok (.putfield 166, 3) := by decide +kernel
theorem dX10_layDoubles_72 : decode cX10_layDoubles 72 = .ok (.return_, 1) := by decide +kernel
theorem dX10_findFamily_0 : decode cX10_findFamily 0 = .ok (.aload_n 0, 1) := by decide +kernel
theorem dX10_findFamily_1 : decode cX10_findFamily 1 = .ok (.invokevirtual 269, 3) := by decide +kernel
theorem dX10_findFamily_4 : decode cX10_findFamily 4 = .ok (.iconst 0, 1) := by decide +kernel
theorem dX10_findFamily_5 : decode cX10_findFamily 5 = .ok (.istore_n 2, 1) := by decide +kernel
theorem dX10_findFamily_6 : decode cX10_findFamily 6 = .ok (.iload_n 2, 1) := by decide +kernel
theorem dX10_findFamily_7 : decode cX10_findFamily 7 = .ok (.aload_n 0, 1) := by decide +kernel
theorem dX10_findFamily_8 : decode cX10_findFamily 8 = .ok (.getfield 147, 3) := by decide +kernel
theorem dX10_findFamily_11 : decode cX10_findFamily 11 = .ok (.if_icmp .ge 25, 3) := by decide +kernel
theorem dX10_findFamily_14 : decode cX10_findFamily 14 = .ok (.aload_n 0, 1) := by decide +kernel
theorem dX10_findFamily_15 : decode cX10_findFamily 15 = .ok (.getfield 89, 3) := by decide +kernel
theorem dX10_findFamily_18 : decode cX10_findFamily 18 = .ok (.iload_n 2, 1) := by decide +kernel
theorem dX10_findFamily_19 : decode cX10_findFamily 19 = .ok (.iload_n 2, 1) := by decide +kernel
theorem dX10_findFamily_20 : decode cX10_findFamily 20 = .ok (.iload_n 1, 1) := by decide +kernel
theorem dX10_findFamily_21 : decode cX10_findFamily 21 = .ok (.if_icmp .ne 7, 3) := by decide +kernel
theorem dX10_findFamily_24 : decode cX10_findFamily 24 = .ok (.iconst 1, 1) := by decide +kernel
theorem dX10_findFamily_25 : decode cX10_findFamily 25 = .ok (.goto 4, 3) := by decide +kernel
theorem dX10_findFamily_28 : decode cX10_findFamily 28 = .ok (.iconst 0, 1) := by decide +kernel
theorem dX10_findFamily_29 : decode cX10_findFamily 29 = .ok (.bastore, 1) := by decide +kernel
theorem dX10_findFamily_30 : decode cX10_findFamily 30 = .ok (.iinc 2 1, 3) := by decide +kernel
theorem dX10_findFamily_33 : decode cX10_findFamily 33 = .ok (.goto (-27), 3) := by decide +kernel
theorem dX10_findFamily_36 : decode cX10_findFamily 36 = .ok (.iconst 1, 1) := by decide +kernel
theorem dX10_findFamily_37 : decode cX10_findFamily 37 = .ok (.istore_n 2, 1) := by decide +kernel
theorem dX10_findFamily_38 : decode cX10_findFamily 38 = .ok (.iconst 1, 1) := by decide +kernel
theorem dX10_findFamily_39 : decode cX10_findFamily 39 = .ok (.istore_n 3, 1) := by decide +kernel
theorem dX10_findFamily_40 : decode cX10_findFamily 40 = .ok (.iload_n 3, 1) := by decide +kernel
theorem dX10_findFamily_41 : decode cX10_findFamily 41 = .ok (.ifCond .eq 93, 3) := by decide +kernel
theorem dX10_findFamily_44 : decode cX10_findFamily 44 = .ok (.iconst 0, 1) := by decide +kernel
theorem dX10_findFamily_45 : decode cX10_findFamily 45 = .ok (.istore_n 3, 1) := by decide +kernel
theorem dX10_findFamily_46 : decode cX10_findFamily 46 = .ok (.iconst 0, 1) := by decide +kernel
theorem dX10_findFamily_47 : decode cX10_findFamily 47 = .ok (.istore 4, 2) := by decide +kernel
theorem dX10_findFamily_49 : decode cX10_findFamily 49 = .ok (.iload 4, 2) := by decide +kernel
theorem dX10_findFamily_51 : decode cX10_findFamily 51 = .ok (.aload_n 0, 1) := by decide +kernel
theorem dX10_findFamily_52 : decode cX10_findFamily 52 = .ok (.getfield 147, 3) := by decide +kernel
theorem dX10_findFamily_55 : decode cX10_findFamily 55 = .ok (.if_icmp .ge 76, 3) := by decide +kernel
theorem dX10_findFamily_58 : decode cX10_findFamily 58 = .ok (.iconst 0, 1) := by decide +kernel
theorem dX10_findFamily_59 : decode cX10_findFamily 59 = .ok (.istore 5, 2) := by decide +kernel
theorem dX10_findFamily_61 : decode cX10_findFamily 61 = .ok (.iload 5, 2) := by decide +kernel
theorem dX10_findFamily_63 : decode cX10_findFamily 63 = .ok (.aload_n 0, 1) := by decide +kernel
theorem dX10_findFamily_64 : decode cX10_findFamily 64 = .ok (.getfield 147, 3) := by decide +kernel
theorem dX10_findFamily_67 : decode cX10_findFamily 67 = .ok (.if_icmp .ge 58, 3) := by decide +kernel
theorem dX10_findFamily_70 : decode cX10_findFamily 70 = .ok (.aload_n 0, 1) := by decide +kernel
theorem dX10_findFamily_71 : decode cX10_findFamily 71 = .ok (.getfield 89, 3) := by decide +kernel
theorem dX10_findFamily_74 : decode cX10_findFamily 74 = .ok (.iload 4, 2) := by decide +kernel
theorem dX10_findFamily_76 : decode cX10_findFamily 76 = .ok (.baload, 1) := by decide +kernel
theorem dX10_findFamily_77 : decode cX10_findFamily 77 = .ok (.ifCond .ne 48, 3) := by decide +kernel
theorem dX10_findFamily_80 : decode cX10_findFamily 80 = .ok (.aload_n 0, 1) := by decide +kernel
theorem dX10_findFamily_81 : decode cX10_findFamily 81 = .ok (.getfield 89, 3) := by decide +kernel
theorem dX10_findFamily_84 : decode cX10_findFamily 84 = .ok (.iload 5, 2) := by decide +kernel
theorem dX10_findFamily_86 : decode cX10_findFamily 86 = .ok (.baload, 1) := by decide +kernel
theorem dX10_findFamily_87 : decode cX10_findFamily 87 = .ok (.ifCond .eq 32, 3) := by decide +kernel
theorem dX10_findFamily_90 : decode cX10_findFamily 90 = .ok (.aload_n 0, 1) := by decide +kernel
theorem dX10_findFamily_91 : decode cX10_findFamily 91 = .ok (.getfield 92, 3) := by decide +kernel
theorem dX10_findFamily_94 : decode cX10_findFamily 94 = .ok (.bipush 24, 2) := by decide +kernel
theorem dX10_findFamily_96 : decode cX10_findFamily 96 = .ok (.iload 4, 2) := by decide +kernel
theorem dX10_findFamily_98 : decode cX10_findFamily 98 = .ok (.imul, 1) := by decide +kernel
theorem dX10_findFamily_99 : decode cX10_findFamily 99 = .ok (.iload 5, 2) := by decide +kernel
theorem dX10_findFamily_101 : decode cX10_findFamily 101 = .ok (.iadd, 1) := by decide +kernel
theorem dX10_findFamily_102 : decode cX10_findFamily 102 = .ok (.baload, 1) := by decide +kernel
theorem dX10_findFamily_103 : decode cX10_findFamily 103 = .ok (.ifCond .eq 16, 3) := by decide +kernel
theorem dX10_findFamily_106 : decode cX10_findFamily 106 = .ok (.aload_n 0, 1) := by decide +kernel
theorem dX10_findFamily_107 : decode cX10_findFamily 107 = .ok (.getfield 89, 3) := by decide +kernel
theorem dX10_findFamily_110 : decode cX10_findFamily 110 = .ok (.iload 4, 2) := by decide +kernel
theorem dX10_findFamily_112 : decode cX10_findFamily 112 = .ok (.iconst 1, 1) := by decide +kernel
theorem dX10_findFamily_113 : decode cX10_findFamily 113 = .ok (.bastore, 1) := by decide +kernel
theorem dX10_findFamily_114 : decode cX10_findFamily 114 = .ok (.iinc 2 1, 3) := by decide +kernel
theorem dX10_findFamily_117 : decode cX10_findFamily 117 = .ok (.iconst 1, 1) := by decide +kernel
theorem dX10_findFamily_118 : decode cX10_findFamily 118 = .ok (.istore_n 3, 1) := by decide +kernel
theorem dX10_findFamily_119 : decode cX10_findFamily 119 = .ok (.iinc 5 1, 3) := by decide +kernel
theorem dX10_findFamily_122 : decode cX10_findFamily 122 = .ok (.goto (-61), 3) := by decide +kernel
theorem dX10_findFamily_125 : decode cX10_findFamily 125 = .ok (.iinc 4 1, 3) := by decide +kernel
theorem dX10_findFamily_128 : decode cX10_findFamily 128 = .ok (.goto (-79), 3) := by decide +kernel
theorem dX10_findFamily_131 : decode cX10_findFamily 131 = .ok (.goto (-91), 3) := by decide +kernel
theorem dX10_findFamily_134 : decode cX10_findFamily 134 = .ok (.iload_n 2, 1) := by decide +kernel
theorem dX10_findFamily_135 : decode cX10_findFamily 135 = .ok (.ireturn, 1) := by decide +kernel
theorem dX10_isAhead_0 : decode cX10_isAhead 0 = .ok (.aload_n 0, 1) := by decide +kernel
theorem dX10_isAhead_1 : decode cX10_isAhead 1 = .ok (.getfield 22, 3) := by decide +kernel
theorem dX10_isAhead_4 : decode cX10_isAhead 4 = .ok (.iload_n 1, 1) := by decide +kernel
theorem dX10_isAhead_5 : decode cX10_isAhead 5 = .ok (.iaload, 1) := by decide +kernel
theorem dX10_isAhead_6 : decode cX10_isAhead 6 = .ok (.istore_n 3, 1) := by decide +kernel
theorem dX10_isAhead_7 : decode cX10_isAhead 7 = .ok (.aload_n 0, 1) := by decide +kernel
theorem dX10_isAhead_8 : decode cX10_isAhead 8 = .ok (.getfield 22, 3) := by decide +kernel
theorem dX10_isAhead_11 : decode cX10_isAhead 11 = .ok (.iload_n 2, 1) := by decide +kernel
theorem dX10_isAhead_12 : decode cX10_isAhead 12 = .ok (.iaload, 1) := by decide +kernel
theorem dX10_isAhead_13 : decode cX10_isAhead 13 = .ok (.istore 4, 2) := by decide +kernel
theorem dX10_isAhead_15 : decode cX10_isAhead 15 = .ok (.aload_n 0, 1) := by decide +kernel
theorem dX10_isAhead_16 : decode cX10_isAhead 16 = .ok (.getfield 16, 3) := by decide +kernel
theorem dX10_isAhead_19 : decode cX10_isAhead 19 = .ok (.iload_n 3, 1) := by decide +kernel
theorem dX10_isAhead_20 : decode cX10_isAhead 20 = .ok (.iaload, 1) := by decide +kernel
theorem dX10_isAhead_21 : decode cX10_isAhead 21 = .ok (.aload_n 0, 1) := by decide +kernel
theorem dX10_isAhead_22 : decode cX10_isAhead 22 = .ok (.getfield 16, 3) := by decide +kernel
theorem dX10_isAhead_25 : decode cX10_isAhead 25 = .ok (.iload 4, 2) := by decide +kernel
theorem dX10_isAhead_27 : decode cX10_isAhead 27 = .ok (.iaload, 1) := by decide +kernel
theorem dX10_isAhead_28 : decode cX10_isAhead 28 = .ok (.if_icmp .eq 25, 3) := by decide +kernel
theorem dX10_isAhead_31 : decode cX10_isAhead 31 = .ok (.aload_n 0, 1) := by decide +kernel
theorem dX10_isAhead_32 : decode cX10_isAhead 32 = .ok (.getfield 16, 3) := by decide +kernel
theorem dX10_isAhead_35 : decode cX10_isAhead 35 = .ok (.iload_n 3, 1) := by decide +kernel
theorem dX10_isAhead_36 : decode cX10_isAhead 36 = .ok (.iaload, 1) := by decide +kernel
theorem dX10_isAhead_37 : decode cX10_isAhead 37 = .ok (.aload_n 0, 1) := by decide +kernel
theorem dX10_isAhead_38 : decode cX10_isAhead 38 = .ok (.getfield 16, 3) := by decide +kernel
theorem dX10_isAhead_41 : decode cX10_isAhead 41 = .ok (.iload 4, 2) := by decide +kernel
theorem dX10_isAhead_43 : decode cX10_isAhead 43 = .ok (.iaload, 1) := by decide +kernel
theorem dX10_isAhead_44 : decode cX10_isAhead 44 = .ok (.if_icmp .ge 7, 3) := by decide +kernel
theorem dX10_isAhead_47 : decode cX10_isAhead 47 = .ok (.iconst 1, 1) := by decide +kernel
theorem dX10_isAhead_48 : decode cX10_isAhead 48 = .ok (.goto 4, 3) := by decide +kernel
theorem dX10_isAhead_51 : decode cX10_isAhead 51 = .ok (.iconst 0, 1) := by decide +kernel
theorem dX10_isAhead_52 : decode cX10_isAhead 52 = .ok (.ireturn, 1) := by decide +kernel
theorem dX10_isAhead_53 : decode cX10_isAhead 53 = .ok (.aload_n 0, 1) := by decide +kernel
theorem dX10_isAhead_54 : decode cX10_isAhead 54 = .ok (.getfield 13, 3) := by decide +kernel
theorem dX10_isAhead_57 : decode cX10_isAhead 57 = .ok (.iload_n 3, 1) := by decide +kernel
theorem dX10_isAhead_58 : decode cX10_isAhead 58 = .ok (.iaload, 1) := by decide +kernel
theorem dX10_isAhead_59 : decode cX10_isAhead 59 = .ok (.aload_n 0, 1) := by decide +kernel
theorem dX10_isAhead_60 : decode cX10_isAhead 60 = .ok (.getfield 13, 3) := by decide +kernel
theorem dX10_isAhead_63 : decode cX10_isAhead 63 = .ok (.iload 4, 2) := by decide +kernel
theorem dX10_isAhead_65 : decode cX10_isAhead 65 = .ok (.iaload, 1) := by decide +kernel
theorem dX10_isAhead_66 : decode cX10_isAhead 66 = .ok (.if_icmp .eq 27, 3) := by decide +kernel
theorem dX10_isAhead_69 : decode cX10_isAhead 69 = .ok (.aload_n 0, 1) := by decide +kernel
theorem dX10_isAhead_70 : decode cX10_isAhead 70 = .ok (.getfield 13, 3) := by decide +kernel
theorem dX10_isAhead_73 : decode cX10_isAhead 73 = .ok (.iload_n 3, 1) := by decide +kernel
theorem dX10_isAhead_74 : decode cX10_isAhead 74 = .ok (.iaload, 1) := by decide +kernel
theorem dX10_isAhead_75 : decode cX10_isAhead 75 = .ok (.aload_n 0, 1) := by decide +kernel
theorem dX10_isAhead_76 : decode cX10_isAhead 76 = .ok (.getfield 13, 3) := by decide +kernel
theorem dX10_isAhead_79 : decode cX10_isAhead 79 = .ok (.iload 4, 2) := by decide +kernel
theorem dX10_isAhead_81 : decode cX10_isAhead 81 = .ok (.iaload, 1) := by decide +kernel
theorem dX10_isAhead_82 : decode cX10_isAhead 82 = .ok (.if_icmp .ge 7, 3) := by decide +kernel
theorem dX10_isAhead_85 : decode cX10_isAhead 85 = .ok (.iconst 1, 1) := by decide +kernel
theorem dX10_isAhead_86 : decode cX10_isAhead 86 = .ok (.goto 17, 3) := by decide +kernel
theorem dX10_isAhead_89 : decode cX10_isAhead 89 = .ok (.iconst 0, 1) := by decide +kernel
theorem dX10_isAhead_90 : decode cX10_isAhead 90 = .ok (.goto 13, 3) := by decide +kernel
theorem dX10_isAhead_93 : decode cX10_isAhead 93 = .ok (.iload_n 1, 1) := by decide +kernel
theorem dX10_isAhead_94 : decode cX10_isAhead 94 = .ok (.iload_n 2, 1) := by decide +kernel
theorem dX10_isAhead_95 : decode cX10_isAhead 95 = .ok (.if_icmp .ge 7, 3) := by decide +kernel
theorem dX10_isAhead_98 : decode cX10_isAhead 98 = .ok (.iconst 1, 1) := by decide +kernel
theorem dX10_isAhead_99 : decode cX10_isAhead 99 = .ok (.goto 4, 3) := by decide +kernel
theorem dX10_isAhead_102 : decode cX10_isAhead 102 = .ok (.iconst 0, 1) := by decide +kernel
theorem dX10_isAhead_103 : decode cX10_isAhead 103 = .ok (.ireturn, 1) := by decide +kernel
theorem dX10_firstOf_0 : decode cX10_firstOf 0 = .ok (.iconst (-1), 1) := by decide +kernel
theorem dX10_firstOf_1 : decode cX10_firstOf 1 = .ok (.istore_n 1, 1) := by decide +kernel
theorem dX10_firstOf_2 : decode cX10_firstOf 2 = .ok (.iconst 0, 1) := by decide +kernel
theorem dX10_firstOf_3 : decode cX10_firstOf 3 = .ok (.istore_n 2, 1) := by decide +kernel
theorem dX10_firstOf_4 : decode cX10_firstOf 4 = .ok (.iload_n 2, 1) := by decide +kernel
theorem dX10_firstOf_5 : decode cX10_firstOf 5 = .ok (.aload_n 0, 1) := by decide +kernel
theorem dX10_firstOf_6 : decode cX10_firstOf 6 = .ok (.getfield 147, 3) := by decide +kernel
theorem dX10_firstOf_9 : decode cX10_firstOf 9 = .ok (.if_icmp .ge 37, 3) := by decide +kernel
theorem dX10_firstOf_12 : decode cX10_firstOf 12 = .ok (.aload_n 0, 1) := by decide +kernel
theorem dX10_firstOf_13 : decode cX10_firstOf 13 = .ok (.getfield 89, 3) := by decide +kernel
theorem dX10_firstOf_16 : decode cX10_firstOf 16 = .ok (.iload_n 2, 1) := by decide +kernel
theorem dX10_firstOf_17 : decode cX10_firstOf 17 = .ok (.baload, 1) := by decide +kernel
theorem dX10_firstOf_18 : decode cX10_firstOf 18 = .ok (.ifCond .eq 20, 3) := by decide +kernel
theorem dX10_firstOf_21 : decode cX10_firstOf 21 = .ok (.iload_n 1, 1) := by decide +kernel
theorem dX10_firstOf_22 : decode cX10_firstOf 22 = .ok (.ifCond .lt 12, 3) := by decide +kernel
theorem dX10_firstOf_25 : decode cX10_firstOf 25 = .ok (.aload_n 0, 1) := by decide +kernel
theorem dX10_firstOf_26 : decode cX10_firstOf 26 = .ok (.iload_n 2, 1) := by decide +kernel
theorem dX10_firstOf_27 : decode cX10_firstOf 27 = .ok (.iload_n 1, 1) := by decide +kernel
theorem dX10_firstOf_28 : decode cX10_firstOf 28 = .ok (.invokevirtual 272, 3) := by decide +kernel
theorem dX10_firstOf_31 : decode cX10_firstOf 31 = .ok (.ifCond .eq 7, 3) := by decide +kernel
theorem dX10_firstOf_34 : decode cX10_firstOf 34 = .ok (.iload_n 2, 1) := by decide +kernel
theorem dX10_firstOf_35 : decode cX10_firstOf 35 = .ok (.goto 4, 3) := by decide +kernel
theorem dX10_firstOf_38 : decode cX10_firstOf 38 = .ok (.iload_n 1, 1) := by decide +kernel
theorem dX10_firstOf_39 : decode cX10_firstOf 39 = .ok (.istore_n 1, 1) := by decide +kernel
theorem dX10_firstOf_40 : decode cX10_firstOf 40 = .ok (.iinc 2 1, 3) := by decide +kernel
theorem dX10_firstOf_43 : decode cX10_firstOf 43 = .ok (.goto (-39), 3) := by decide +kernel
theorem dX10_firstOf_46 : decode cX10_firstOf 46 = .ok (.iload_n 1, 1) := by decide +kernel
theorem dX10_firstOf_47 : decode cX10_firstOf 47 = .ok (.ireturn, 1) := by decide +kernel
theorem dX10_about_0 : decode cX10_about 0 = .ok (.aload_n 0, 1) := by decide +kernel
theorem dX10_about_1 : decode cX10_about 1 = .ok (.iload_n 1, 1) := by decide +kernel
theorem dX10_about_2 : decode cX10_about 2 = .ok (.invokevirtual 186, 3) := by decide +kernel
theorem dX10_about_5 : decode cX10_about 5 = .ok (.ifCond .ne 5, 3) := by decide +kernel
theorem dX10_about_8 : decode cX10_about 8 = .ok (.iconst (-1), 1) := by decide +kernel
theorem dX10_about_9 : decode cX10_about 9 = .ok (.ireturn, 1) := by decide +kernel
theorem dX10_about_10 : decode cX10_about 10 = .ok (.iload_n 2, 1) := by decide +kernel
theorem dX10_about_11 : decode cX10_about 11 = .ok (.tableswitch 85 0 5 #[37, 44, 54, 61, 68, 79], 37) := by decide +kernel
theorem dX10_about_48 : decode cX10_about 48 = .ok (.aload_n 0, 1) := by decide +kernel
theorem dX10_about_49 : decode cX10_about 49 = .ok (.getfield 22, 3) := by decide +kernel
theorem dX10_about_52 : decode cX10_about 52 = .ok (.iload_n 1, 1) := by decide +kernel
theorem dX10_about_53 : decode cX10_about 53 = .ok (.iaload, 1) := by decide +kernel
theorem dX10_about_54 : decode cX10_about 54 = .ok (.ireturn, 1) := by decide +kernel
theorem dX10_about_55 : decode cX10_about 55 = .ok (.aload_n 0, 1) := by decide +kernel
theorem dX10_about_56 : decode cX10_about 56 = .ok (.iload_n 1, 1) := by decide +kernel
theorem dX10_about_57 : decode cX10_about 57 = .ok (.invokevirtual 179, 3) := by decide +kernel
theorem dX10_about_60 : decode cX10_about 60 = .ok (.aload_n 0, 1) := by decide +kernel
theorem dX10_about_61 : decode cX10_about 61 = .ok (.getfield 176, 3) := by decide +kernel
theorem dX10_about_64 : decode cX10_about 64 = .ok (.ireturn, 1) := by decide +kernel
theorem dX10_about_65 : decode cX10_about 65 = .ok (.aload_n 0, 1) := by decide +kernel
theorem dX10_about_66 : decode cX10_about 66 = .ok (.getfield 37, 3) := by decide +kernel
theorem dX10_about_69 : decode cX10_about 69 = .ok (.iload_n 1, 1) := by decide +kernel
theorem dX10_about_70 : decode cX10_about 70 = .ok (.iaload, 1) := by decide +kernel
theorem dX10_about_71 : decode cX10_about 71 = .ok (.ireturn, 1) := by decide +kernel
theorem dX10_about_72 : decode cX10_about 72 = .ok (.aload_n 0, 1) := by decide +kernel
theorem dX10_about_73 : decode cX10_about 73 = .ok (.getfield 40, 3) := by decide +kernel
theorem dX10_about_76 : decode cX10_about 76 = .ok (.iload_n 1, 1) := by decide +kernel
theorem dX10_about_77 : decode cX10_about 77 = .ok (.iaload, 1) := by decide +kernel
theorem dX10_about_78 : decode cX10_about 78 = .ok (.ireturn, 1) := by decide +kernel
theorem dX10_about_79 : decode cX10_about 79 = .ok (.aload_n 0, 1) := by decide +kernel
theorem dX10_about_80 : decode cX10_about 80 = .ok (.iload_n 1, 1) := by decide +kernel
theorem dX10_about_81 : decode cX10_about 81 = .ok (.invokevirtual 189, 3) := by decide +kernel
theorem dX10_about_84 : decode cX10_about 84 = .ok (.pop, 1) := by decide +kernel
theorem dX10_about_85 : decode cX10_about 85 = .ok (.aload_n 0, 1) := by decide +kernel
theorem dX10_about_86 : decode cX10_about 86 = .ok (.invokevirtual 193, 3) := by decide +kernel
theorem dX10_about_89 : decode cX10_about 89 = .ok (.ireturn, 1) := by decide +kernel
theorem dX10_about_90 : decode cX10_about 90 = .ok (.aload_n 0, 1) := by decide +kernel
theorem dX10_about_91 : decode cX10_about 91 = .ok (.iload_n 1, 1) := by decide +kernel
theorem dX10_about_92 : decode cX10_about 92 = .ok (.invokevirtual 189, 3) := by decide +kernel
theorem dX10_about_95 : decode cX10_about 95 = .ok (.ireturn, 1) := by decide +kernel
theorem dX10_about_96 : decode cX10_about 96 = .ok (.bipush (-2), 2) := by decide +kernel
theorem dX10_about_98 : decode cX10_about 98 = .ok (.ireturn, 1) := by decide +kernel
theorem dX10_word_0 : decode cX10_word 0 = .ok (.aload_n 0, 1) := by decide +kernel
theorem dX10_word_1 : decode cX10_word 1 = .ok (.iload_n 1, 1) := by decide +kernel
theorem dX10_word_2 : decode cX10_word 2 = .ok (.invokevirtual 186, 3) := by decide +kernel
theorem dX10_word_5 : decode cX10_word 5 = .ok (.ifCond .ne 5, 3) := by decide +kernel
theorem dX10_word_8 : decode cX10_word 8 = .ok (.iconst (-1), 1) := by decide +kernel
theorem dX10_word_9 : decode cX10_word 9 = .ok (.ireturn, 1) := by decide +kernel
theorem dX10_word_10 : decode cX10_word 10 = .ok (.aload_n 0, 1) := by decide +kernel
theorem dX10_word_11 : decode cX10_word 11 = .ok (.iload_n 1, 1) := by decide +kernel
theorem dX10_word_12 : decode cX10_word 12 = .ok (.invokevirtual 179, 3) := by decide +kernel
theorem dX10_word_15 : decode cX10_word 15 = .ok (.iload_n 2, 1) := by decide +kernel
theorem dX10_word_16 : decode cX10_word 16 = .ok (.i2l, 1) := by decide +kernel
theorem dX10_word_17 : decode cX10_word 17 = .ok (.lconst 0, 1) := by decide +kernel
theorem dX10_word_18 : decode cX10_word 18 = .ok (.aload_n 0, 1) := by decide +kernel
theorem dX10_word_19 : decode cX10_word 19 = .ok (.getfield 176, 3) := by decide +kernel
theorem dX10_word_22 : decode cX10_word 22 = .ok (.iconst 1, 1) := by decide +kernel
theorem dX10_word_23 : decode cX10_word 23 = .ok (.isub, 1) := by decide +kernel
theorem dX10_word_24 : decode cX10_word 24 = .ok (.i2l, 1) := by decide +kernel
theorem dX10_word_25 : decode cX10_word 25 = .ok (.invokestatic 139, 3) := by decide +kernel
theorem dX10_word_28 : decode cX10_word 28 = .ok (.ifCond .eq 12, 3) := by decide +kernel
theorem dX10_word_31 : decode cX10_word 31 = .ok (.aload_n 0, 1) := by decide +kernel
theorem dX10_word_32 : decode cX10_word 32 = .ok (.getfield 46, 3) := by decide +kernel
theorem dX10_word_35 : decode cX10_word 35 = .ok (.iload_n 2, 1) := by decide +kernel
theorem dX10_word_36 : decode cX10_word 36 = .ok (.iaload, 1) := by decide +kernel
theorem dX10_word_37 : decode cX10_word 37 = .ok (.goto 5, 3) := by decide +kernel
theorem dX10_word_40 : decode cX10_word 40 = .ok (.bipush (-6), 2) := by decide +kernel
theorem dX10_word_42 : decode cX10_word 42 = .ok (.ireturn, 1) := by decide +kernel
theorem dX10_doClash_0 : decode cX10_doClash 0 = .ok (.aload_n 0, 1) := by decide +kernel
theorem dX10_doClash_1 : decode cX10_doClash 1 = .ok (.getfield 22, 3) := by decide +kernel
theorem dX10_doClash_4 : decode cX10_doClash 4 = .ok (.iload_n 1, 1) := by decide +kernel
theorem dX10_doClash_5 : decode cX10_doClash 5 = .ok (.iaload, 1) := by decide +kernel
theorem dX10_doClash_6 : decode cX10_doClash 6 = .ok (.aload_n 0, 1) := by decide +kernel
theorem dX10_doClash_7 : decode cX10_doClash 7 = .ok (.getfield 22, 3) := by decide +kernel
theorem dX10_doClash_10 : decode cX10_doClash 10 = .ok (.iload_n 2, 1) := by decide +kernel
theorem dX10_doClash_11 : decode cX10_doClash 11 = .ok (.iaload, 1) := by decide +kernel
theorem dX10_doClash_12 : decode cX10_doClash 12 = .ok (.if_icmp .ne 7, 3) := by decide +kernel
theorem dX10_doClash_15 : decode cX10_doClash 15 = .ok (.iconst 1, 1) := by decide +kernel
theorem dX10_doClash_16 : decode cX10_doClash 16 = .ok (.goto 4, 3) := by decide +kernel
theorem dX10_doClash_19 : decode cX10_doClash 19 = .ok (.iconst 0, 1) := by decide +kernel
theorem dX10_doClash_20 : decode cX10_doClash 20 = .ok (.istore_n 3, 1) := by decide +kernel
theorem dX10_doClash_21 : decode cX10_doClash 21 = .ok (.iload_n 3, 1) := by decide +kernel
theorem dX10_doClash_22 : decode cX10_doClash 22 = .ok (.ifCond .ne 25, 3) := by decide +kernel
theorem dX10_doClash_25 : decode cX10_doClash 25 = .ok (.aload_n 0, 1) := by decide +kernel
theorem dX10_doClash_26 : decode cX10_doClash 26 = .ok (.getfield 19, 3) := by decide +kernel
theorem dX10_doClash_29 : decode cX10_doClash 29 = .ok (.aload_n 0, 1) := by decide +kernel
theorem dX10_doClash_30 : decode cX10_doClash 30 = .ok (.getfield 22, 3) := by decide +kernel
theorem dX10_doClash_33 : decode cX10_doClash 33 = .ok (.iload_n 1, 1) := by decide +kernel
theorem dX10_doClash_34 : decode cX10_doClash 34 = .ok (.iaload, 1) := by decide +kernel
theorem dX10_doClash_35 : decode cX10_doClash 35 = .ok (.iaload, 1) := by decide +kernel
theorem dX10_doClash_36 : decode cX10_doClash 36 = .ok (.aload_n 0, 1) := by decide +kernel
theorem dX10_doClash_37 : decode cX10_doClash 37 = .ok (.getfield 22, 3) := by decide +kernel
theorem dX10_doClash_40 : decode cX10_doClash 40 = .ok (.iload_n 2, 1) := by decide +kernel
theorem dX10_doClash_41 : decode cX10_doClash 41 = .ok (.iaload, 1) := by decide +kernel
theorem dX10_doClash_42 : decode cX10_doClash 42 = .ok (.if_icmp .eq 5, 3) := by decide +kernel
theorem dX10_doClash_45 : decode cX10_doClash 45 = .ok (.iconst 0, 1) := by decide +kernel
theorem dX10_doClash_46 : decode cX10_doClash 46 = .ok (.ireturn, 1) := by decide +kernel
theorem dX10_doClash_47 : decode cX10_doClash 47 = .ok (.iload_n 3, 1) := by decide +kernel
theorem dX10_doClash_48 : decode cX10_doClash 48 = .ok (.ifCond .eq 12, 3) := by decide +kernel
theorem dX10_doClash_51 : decode cX10_doClash 51 = .ok (.aload_n 0, 1) := by decide +kernel
theorem dX10_doClash_52 : decode cX10_doClash 52 = .ok (.getfield 31, 3) := by decide +kernel
theorem dX10_doClash_55 : decode cX10_doClash 55 = .ok (.iload_n 2, 1) := by decide +kernel
theorem dX10_doClash_56 : decode cX10_doClash 56 = .ok (.iaload, 1) := by decide +kernel
theorem dX10_doClash_57 : decode cX10_doClash 57 = .ok (.goto 12, 3) := by decide +kernel
theorem dX10_doClash_60 : decode cX10_doClash 60 = .ok (.bipush 9, 2) := by decide +kernel
theorem dX10_doClash_62 : decode cX10_doClash 62 = .ok (.aload_n 0, 1) := by decide +kernel
theorem dX10_doClash_63 : decode cX10_doClash 63 = .ok (.getfield 34, 3) := by decide +kernel
theorem dX10_doClash_66 : decode cX10_doClash 66 = .ok (.iload_n 2, 1) := by decide +kernel
theorem dX10_doClash_67 : decode cX10_doClash 67 = .ok (.iaload, 1) := by decide +kernel
theorem dX10_doClash_68 : decode cX10_doClash 68 = .ok (.isub, 1) := by decide +kernel
theorem dX10_doClash_69 : decode cX10_doClash 69 = .ok (.istore 4, 2) := by decide +kernel
theorem dX10_doClash_71 : decode cX10_doClash 71 = .ok (.iload_n 3, 1) := by decide +kernel
theorem dX10_doClash_72 : decode cX10_doClash 72 = .ok (.ifCond .eq 12, 3) := by decide +kernel
theorem dX10_doClash_75 : decode cX10_doClash 75 = .ok (.aload_n 0, 1) := by decide +kernel
theorem dX10_doClash_76 : decode cX10_doClash 76 = .ok (.getfield 34, 3) := by decide +kernel
theorem dX10_doClash_79 : decode cX10_doClash 79 = .ok (.iload_n 2, 1) := by decide +kernel
theorem dX10_doClash_80 : decode cX10_doClash 80 = .ok (.iaload, 1) := by decide +kernel
theorem dX10_doClash_81 : decode cX10_doClash 81 = .ok (.goto 12, 3) := by decide +kernel
theorem dX10_doClash_84 : decode cX10_doClash 84 = .ok (.bipush 9, 2) := by decide +kernel
theorem dX10_doClash_86 : decode cX10_doClash 86 = .ok (.aload_n 0, 1) := by decide +kernel
theorem dX10_doClash_87 : decode cX10_doClash 87 = .ok (.getfield 31, 3) := by decide +kernel
theorem dX10_doClash_90 : decode cX10_doClash 90 = .ok (.iload_n 2, 1) := by decide +kernel
theorem dX10_doClash_91 : decode cX10_doClash 91 = .ok (.iaload, 1) := by decide +kernel
theorem dX10_doClash_92 : decode cX10_doClash 92 = .ok (.isub, 1) := by decide +kernel
theorem dX10_doClash_93 : decode cX10_doClash 93 = .ok (.istore 5, 2) := by decide +kernel
theorem dX10_doClash_95 : decode cX10_doClash 95 = .ok (.aload_n 0, 1) := by decide +kernel
theorem dX10_doClash_96 : decode cX10_doClash 96 = .ok (.getfield 25, 3) := by decide +kernel
theorem dX10_doClash_99 : decode cX10_doClash 99 = .ok (.iload_n 1, 1) := by decide +kernel
theorem dX10_doClash_100 : decode cX10_doClash 100 = .ok (.iaload, 1) := by decide +kernel
theorem dX10_doClash_101 : decode cX10_doClash 101 = .ok (.aload_n 0, 1) := by decide +kernel
theorem dX10_doClash_102 : decode cX10_doClash 102 = .ok (.getfield 28, 3) := by decide +kernel
theorem dX10_doClash_105 : decode cX10_doClash 105 = .ok (.iload_n 2, 1) := by decide +kernel
theorem dX10_doClash_106 : decode cX10_doClash 106 = .ok (.iaload, 1) := by decide +kernel
theorem dX10_doClash_107 : decode cX10_doClash 107 = .ok (.if_icmp .gt 44, 3) := by decide +kernel
theorem dX10_doClash_110 : decode cX10_doClash 110 = .ok (.aload_n 0, 1) := by decide +kernel
theorem dX10_doClash_111 : decode cX10_doClash 111 = .ok (.getfield 25, 3) := by decide +kernel
theorem dX10_doClash_114 : decode cX10_doClash 114 = .ok (.iload_n 2, 1) := by decide +kernel
theorem dX10_doClash_115 : decode cX10_doClash 115 = .ok (.iaload, 1) := by decide +kernel
theorem dX10_doClash_116 : decode cX10_doClash 116 = .ok (.aload_n 0, 1) := by decide +kernel
theorem dX10_doClash_117 : decode cX10_doClash 117 = .ok (.getfield 28, 3) := by decide +kernel
theorem dX10_doClash_120 : decode cX10_doClash 120 = .ok (.iload_n 1, 1) := by decide +kernel
theorem dX10_doClash_121 : decode cX10_doClash 121 = .ok (.iaload, 1) := by decide +kernel
theorem dX10_doClash_122 : decode cX10_doClash 122 = .ok (.if_icmp .gt 29, 3) := by decide +kernel
theorem dX10_doClash_125 : decode cX10_doClash 125 = .ok (.aload_n 0, 1) := by decide +kernel
theorem dX10_doClash_126 : decode cX10_doClash 126 = .ok (.getfield 31, 3) := by decide +kernel
theorem dX10_doClash_129 : decode cX10_doClash 129 = .ok (.iload_n 1, 1) := by decide +kernel
theorem dX10_doClash_130 : decode cX10_doClash 130 = .ok (.iaload, 1) := by decide +kernel
theorem dX10_doClash_131 : decode cX10_doClash 131 = .ok (.iload 5, 2) := by decide +kernel
theorem dX10_doClash_133 : decode cX10_doClash 133 = .ok (.if_icmp .gt 18, 3) := by decide +kernel
theorem dX10_doClash_136 : decode cX10_doClash 136 = .ok (.iload 4, 2) := by decide +kernel
theorem dX10_doClash_138 : decode cX10_doClash 138 = .ok (.aload_n 0, 1) := by decide +kernel
theorem dX10_doClash_139 : decode cX10_doClash 139 = .ok (.getfield 34, 3) := by decide +kernel
theorem dX10_doClash_142 : decode cX10_doClash 142 = .ok (.iload_n 1, 1) := by decide +kernel
theorem dX10_doClash_143 : decode cX10_doClash 143 = .ok (.iaload, 1) := by decide +kernel
theorem dX10_doClash_144 : decode cX10_doClash 144 = .ok (.if_icmp .gt 7, 3) := by decide +kernel
theorem dX10_doClash_147 : decode cX10_doClash 147 = .ok (.iconst 1, 1) := by decide +kernel
theorem dX10_doClash_148 : decode cX10_doClash 148 = .ok (.goto 4, 3) := by decide +kernel
theorem dX10_doClash_151 : decode cX10_doClash 151 = .ok (.iconst 0, 1) := by decide +kernel
theorem dX10_doClash_152 : decode cX10_doClash 152 = .ok (.ireturn, 1) := by decide +kernel
theorem dX10_clash_0 : decode cX10_clash 0 = .ok (.aload_n 0, 1) := by decide +kernel
theorem dX10_clash_1 : decode cX10_clash 1 = .ok (.iload_n 1, 1) := by decide +kernel
theorem dX10_clash_2 : decode cX10_clash 2 = .ok (.invokevirtual 186, 3) := by decide +kernel
theorem dX10_clash_5 : decode cX10_clash 5 = .ok (.ifCond .eq 28, 3) := by decide +kernel
theorem dX10_clash_8 : decode cX10_clash 8 = .ok (.aload_n 0, 1) := by decide +kernel
theorem dX10_clash_9 : decode cX10_clash 9 = .ok (.iload_n 2, 1) := by decide +kernel
theorem dX10_clash_10 : decode cX10_clash 10 = .ok (.invokevirtual 186, 3) := by decide +kernel
theorem dX10_clash_13 : decode cX10_clash 13 = .ok (.ifCond .eq 20, 3) := by decide +kernel
theorem dX10_clash_16 : decode cX10_clash 16 = .ok (.aload_n 0, 1) := by decide +kernel
theorem dX10_clash_17 : decode cX10_clash 17 = .ok (.iload_n 1, 1) := by decide +kernel
theorem dX10_clash_18 : decode cX10_clash 18 = .ok (.iload_n 2, 1) := by decide +kernel
theorem dX10_clash_19 : decode cX10_clash 19 = .ok (.invokevirtual 197, 3) := by decide +kernel
theorem dX10_clash_22 : decode cX10_clash 22 = .ok (.ifCond .eq 7, 3) := by decide +kernel
theorem dX10_clash_25 : decode cX10_clash 25 = .ok (.iconst 1, 1) := by decide +kernel
theorem dX10_clash_26 : decode cX10_clash 26 = .ok (.goto 8, 3) := by decide +kernel
theorem dX10_clash_29 : decode cX10_clash 29 = .ok (.iconst 0, 1) := by decide +kernel
theorem dX10_clash_30 : decode cX10_clash 30 = .ok (.goto 4, 3) := by decide +kernel
theorem dX10_clash_33 : decode cX10_clash 33 = .ok (.iconst (-1), 1) := by decide +kernel
theorem dX10_clash_34 : decode cX10_clash 34 = .ok (.ireturn, 1) := by decide +kernel
theorem dX10_say_0 : decode cX10_say 0 = .ok (.iload_n 1, 1) := by decide +kernel
theorem dX10_say_1 : decode cX10_say 1 = .ok (.i2l, 1) := by decide +kernel
theorem dX10_say_2 : decode cX10_say 2 = .ok (.ldc2_w 201, 3) := by decide +kernel
theorem dX10_say_5 : decode cX10_say 5 = .ok (.ldc2_w 203, 3) := by decide +kernel
theorem dX10_say_8 : decode cX10_say 8 = .ok (.invokestatic 139, 3) := by decide +kernel
theorem dX10_say_11 : decode cX10_say 11 = .ok (.ifCond .ne 6, 3) := by decide +kernel
theorem dX10_say_14 : decode cX10_say 14 = .ok (.bipush (-2), 2) := by decide +kernel
theorem dX10_say_16 : decode cX10_say 16 = .ok (.ireturn, 1) := by decide +kernel
theorem dX10_say_17 : decode cX10_say 17 = .ok (.aload_n 0, 1) := by decide +kernel
theorem dX10_say_18 : decode cX10_say 18 = .ok (.getfield 55, 3) := by decide +kernel
theorem dX10_say_21 : decode cX10_say 21 = .ok (.bipush 10, 2) := by decide +kernel
theorem dX10_say_23 : decode cX10_say 23 = .ok (.iaload, 1) := by decide +kernel
theorem dX10_say_24 : decode cX10_say 24 = .ok (.bipush 40, 2) := by decide +kernel
theorem dX10_say_26 : decode cX10_say 26 = .ok (.if_icmp .ne 6, 3) := by decide +kernel
theorem dX10_say_29 : decode cX10_say 29 = .ok (.bipush (-4), 2) := by decide +kernel
theorem dX10_say_31 : decode cX10_say 31 = .ok (.ireturn, 1) := by decide +kernel
theorem dX10_say_32 : decode cX10_say 32 = .ok (.aload_n 0, 1) := by decide +kernel
theorem dX10_say_33 : decode cX10_say 33 = .ok (.getfield 52, 3) := by decide +kernel
theorem dX10_say_36 : decode cX10_say 36 = .ok (.sipush 400, 3) := by decide +kernel
theorem dX10_say_39 : decode cX10_say 39 = .ok (.aload_n 0, 1) := by decide +kernel
theorem dX10_say_40 : decode cX10_say 40 = .ok (.getfield 55, 3) := by decide +kernel
theorem dX10_say_43 : decode cX10_say 43 = .ok (.bipush 10, 2) := by decide +kernel
theorem dX10_say_45 : decode cX10_say 45 = .ok (.iaload, 1) := by decide +kernel
theorem dX10_say_46 : decode cX10_say 46 = .ok (.iadd, 1) := by decide +kernel
theorem dX10_say_47 : decode cX10_say 47 = .ok (.iload_n 1, 1) := by decide +kernel
theorem dX10_say_48 : decode cX10_say 48 = .ok (.iastore, 1) := by decide +kernel
theorem dX10_say_49 : decode cX10_say 49 = .ok (.aload_n 0, 1) := by decide +kernel
theorem dX10_say_50 : decode cX10_say 50 = .ok (.getfield 55, 3) := by decide +kernel
theorem dX10_say_53 : decode cX10_say 53 = .ok (.bipush 10, 2) := by decide +kernel
theorem dX10_say_55 : decode cX10_say 55 = .ok (.dup2, 1) := by decide +kernel
theorem dX10_say_56 : decode cX10_say 56 = .ok (.iaload, 1) := by decide +kernel
theorem dX10_say_57 : decode cX10_say 57 = .ok (.iconst 1, 1) := by decide +kernel
theorem dX10_say_58 : decode cX10_say 58 = .ok (.iadd, 1) := by decide +kernel
theorem dX10_say_59 : decode cX10_say 59 = .ok (.iastore, 1) := by decide +kernel
theorem dX10_say_60 : decode cX10_say 60 = .ok (.aload_n 0, 1) := by decide +kernel
theorem dX10_say_61 : decode cX10_say 61 = .ok (.getfield 55, 3) := by decide +kernel
theorem dX10_say_64 : decode cX10_say 64 = .ok (.bipush 10, 2) := by decide +kernel
theorem dX10_say_66 : decode cX10_say 66 = .ok (.iaload, 1) := by decide +kernel
theorem dX10_say_67 : decode cX10_say 67 = .ok (.ireturn, 1) := by decide +kernel
theorem dX10_wipe_0 : decode cX10_wipe 0 = .ok (.aload_n 0, 1) := by decide +kernel
theorem dX10_wipe_1 : decode cX10_wipe 1 = .ok (.getfield 55, 3) := by decide +kernel
theorem dX10_wipe_4 : decode cX10_wipe 4 = .ok (.bipush 10, 2) := by decide +kernel
theorem dX10_wipe_6 : decode cX10_wipe 6 = .ok (.iaload, 1) := by decide +kernel
theorem dX10_wipe_7 : decode cX10_wipe 7 = .ok (.istore_n 1, 1) := by decide +kernel
theorem dX10_wipe_8 : decode cX10_wipe 8 = .ok (.aload_n 0, 1) := by decide +kernel
theorem dX10_wipe_9 : decode cX10_wipe 9 = .ok (.getfield 55, 3) := by decide +kernel
theorem dX10_wipe_12 : decode cX10_wipe 12 = .ok (.bipush 10, 2) := by decide +kernel
theorem dX10_wipe_14 : decode cX10_wipe 14 = .ok (.iconst 0, 1) := by decide +kernel
theorem dX10_wipe_15 : decode cX10_wipe 15 = .ok (.iastore, 1) := by decide +kernel
theorem dX10_wipe_16 : decode cX10_wipe 16 = .ok (.iload_n 1, 1) := by decide +kernel
theorem dX10_wipe_17 : decode cX10_wipe 17 = .ok (.ireturn, 1) := by decide +kernel
theorem dX10_isDigit_0 : decode cX10_isDigit 0 = .ok (.iload_n 0, 1) := by decide +kernel
theorem dX10_isDigit_1 : decode cX10_isDigit 1 = .ok (.i2l, 1) := by decide +kernel
theorem dX10_isDigit_2 : decode cX10_isDigit 2 = .ok (.ldc2_w 205, 3) := by decide +kernel
theorem dX10_isDigit_5 : decode cX10_isDigit 5 = .ok (.ldc2_w 207, 3) := by decide +kernel
theorem dX10_isDigit_8 : decode cX10_isDigit 8 = .ok (.invokestatic 139, 3) := by decide +kernel
theorem dX10_isDigit_11 : decode cX10_isDigit 11 = .ok (.ireturn, 1) := by decide +kernel
theorem dX10_stepOf_0 : decode cX10_stepOf 0 = .ok (.iload_n 1, 1) := by decide +kernel
theorem dX10_stepOf_1 : decode cX10_stepOf 1 = .ok (.invokestatic 209, 3) := by decide +kernel
theorem dX10_stepOf_4 : decode cX10_stepOf 4 = .ok (.istore_n 3, 1) := by decide +kernel
theorem dX10_stepOf_5 : decode cX10_stepOf 5 = .ok (.iload_n 0, 1) := by decide +kernel
theorem dX10_stepOf_6 : decode cX10_stepOf 6 = .ok (.tableswitch 119 0 6 #[42, 119, 119, 74, 84, 97, 108], 42) := by decide +kernel
theorem dX10_stepOf_48 : decode cX10_stepOf 48 = .ok (.iload_n 3, 1) := by decide +kernel
theorem dX10_stepOf_49 : decode cX10_stepOf 49 = .ok (.ifCond .eq 7, 3) := by decide +kernel
theorem dX10_stepOf_52 : decode cX10_stepOf 52 = .ok (.iconst 1, 1) := by decide +kernel
theorem dX10_stepOf_53 : decode cX10_stepOf 53 = .ok (.goto 26, 3) := by decide +kernel
theorem dX10_stepOf_56 : decode cX10_stepOf 56 = .ok (.iload_n 1, 1) := by decide +kernel
theorem dX10_stepOf_57 : decode cX10_stepOf 57 = .ok (.bipush 33, 2) := by decide +kernel
theorem dX10_stepOf_59 : decode cX10_stepOf 59 = .ok (.if_icmp .eq 15, 3) := by decide +kernel
theorem dX10_stepOf_62 : decode cX10_stepOf 62 = .ok (.iload_n 1, 1) := by decide +kernel
theorem dX10_stepOf_63 : decode cX10_stepOf 63 = .ok (.bipush 40, 2) := by decide +kernel
theorem dX10_stepOf_65 : decode cX10_stepOf 65 = .ok (.if_icmp .ne 13, 3) := by decide +kernel
theorem dX10_stepOf_68 : decode cX10_stepOf 68 = .ok (.iload_n 2, 1) := by decide +kernel
theorem dX10_stepOf_69 : decode cX10_stepOf 69 = .ok (.bipush 8, 2) := by decide +kernel
theorem dX10_stepOf_71 : decode cX10_stepOf 71 = .ok (.if_icmp .ge 7, 3) := by decide +kernel
theorem dX10_stepOf_74 : decode cX10_stepOf 74 = .ok (.iconst 0, 1) := by decide +kernel
theorem dX10_stepOf_75 : decode cX10_stepOf 75 = .ok (.goto 4, 3) := by decide +kernel
theorem dX10_stepOf_78 : decode cX10_stepOf 78 = .ok (.iconst (-1), 1) := by decide +kernel
theorem dX10_stepOf_79 : decode cX10_stepOf 79 = .ok (.ireturn, 1) := by decide +kernel
theorem dX10_stepOf_80 : decode cX10_stepOf 80 = .ok (.iload_n 3, 1) := by decide +kernel
theorem dX10_stepOf_81 : decode cX10_stepOf 81 = .ok (.ifCond .eq 7, 3) := by decide +kernel
theorem dX10_stepOf_84 : decode cX10_stepOf 84 = .ok (.iconst 4, 1) := by decide +kernel
theorem dX10_stepOf_85 : decode cX10_stepOf 85 = .ok (.goto 4, 3) := by decide +kernel
theorem dX10_stepOf_88 : decode cX10_stepOf 88 = .ok (.iconst (-1), 1) := by decide +kernel
theorem dX10_stepOf_89 : decode cX10_stepOf 89 = .ok (.ireturn, 1) := by decide +kernel
theorem dX10_stepOf_90 : decode cX10_stepOf 90 = .ok (.iload_n 1, 1) := by decide +kernel
theorem dX10_stepOf_91 : decode cX10_stepOf 91 = .ok (.bipush 58, 2) := by decide +kernel
theorem dX10_stepOf_93 : decode cX10_stepOf 93 = .ok (.if_icmp .ne 8, 3) := by decide +kernel
theorem dX10_stepOf_96 : decode cX10_stepOf 96 = .ok (.bipush 6, 2) := by decide +kernel
theorem dX10_stepOf_98 : decode cX10_stepOf 98 = .ok (.goto 4, 3) := by decide +kernel
theorem dX10_stepOf_101 : decode cX10_stepOf 101 = .ok (.iconst (-1), 1) := by decide +kernel
theorem dX10_stepOf_102 : decode cX10_stepOf 102 = .ok (.ireturn, 1) := by decide +kernel
theorem dX10_stepOf_103 : decode cX10_stepOf 103 = .ok (.iload_n 3, 1) := by decide +kernel
theorem dX10_stepOf_104 : decode cX10_stepOf 104 = .ok (.ifCond .eq 8, 3) := by decide +kernel
theorem dX10_stepOf_107 : decode cX10_stepOf 107 = .ok (.bipush 8, 2) := by decide +kernel
theorem dX10_stepOf_109 : decode cX10_stepOf 109 = .ok (.goto 4, 3) := by decide +kernel
theorem dX10_stepOf_112 : decode cX10_stepOf 112 = .ok (.iconst (-1), 1) := by decide +kernel
theorem dX10_stepOf_113 : decode cX10_stepOf 113 = .ok (.ireturn, 1) := by decide +kernel
theorem dX10_stepOf_114 : decode cX10_stepOf 114 = .ok (.iload_n 3, 1) := by decide +kernel
theorem dX10_stepOf_115 : decode cX10_stepOf 115 = .ok (.ifCond .eq 8, 3) := by decide +kernel
theorem dX10_stepOf_118 : decode cX10_stepOf 118 = .ok (.bipush 7, 2) := by decide +kernel
theorem dX10_stepOf_120 : decode cX10_stepOf 120 = .ok (.goto 4, 3) := by decide +kernel
theorem dX10_stepOf_123 : decode cX10_stepOf 123 = .ok (.iconst (-1), 1) := by decide +kernel
theorem dX10_stepOf_124 : decode cX10_stepOf 124 = .ok (.ireturn, 1) := by decide +kernel
theorem dX10_stepOf_125 : decode cX10_stepOf 125 = .ok (.iload_n 3, 1) := by decide +kernel
theorem dX10_stepOf_126 : decode cX10_stepOf 126 = .ok (.ifCond .eq 26, 3) := by decide +kernel
theorem dX10_stepOf_129 : decode cX10_stepOf 129 = .ok (.iload_n 0, 1) := by decide +kernel
theorem dX10_stepOf_130 : decode cX10_stepOf 130 = .ok (.iconst 1, 1) := by decide +kernel
theorem dX10_stepOf_131 : decode cX10_stepOf 131 = .ok (.if_icmp .eq 9, 3) := by decide +kernel
theorem dX10_stepOf_134 : decode cX10_stepOf 134 = .ok (.iload_n 0, 1) := by decide +kernel
theorem dX10_stepOf_135 : decode cX10_stepOf 135 = .ok (.bipush 7, 2) := by decide +kernel
theorem dX10_stepOf_137 : decode cX10_stepOf 137 = .ok (.if_icmp .ne 15, 3) := by decide +kernel
theorem dX10_stepOf_140 : decode cX10_stepOf 140 = .ok (.iload_n 0, 1) := by decide +kernel
theorem dX10_stepOf_141 : decode cX10_stepOf 141 = .ok (.iconst 1, 1) := by decide +kernel
theorem dX10_stepOf_142 : decode cX10_stepOf 142 = .ok (.if_icmp .ne 7, 3) := by decide +kernel
theorem dX10_stepOf_145 : decode cX10_stepOf 145 = .ok (.iconst 2, 1) := by decide +kernel
theorem dX10_stepOf_146 : decode cX10_stepOf 146 = .ok (.goto 5, 3) := by decide +kernel
theorem dX10_stepOf_149 : decode cX10_stepOf 149 = .ok (.bipush 8, 2) := by decide +kernel
theorem dX10_stepOf_151 : decode cX10_stepOf 151 = .ok (.ireturn, 1) := by decide +kernel
theorem dX10_stepOf_152 : decode cX10_stepOf 152 = .ok (.iload_n 0, 1) := by decide +kernel
theorem dX10_stepOf_153 : decode cX10_stepOf 153 = .ok (.iconst 3, 1) := by decide +kernel
theorem dX10_stepOf_154 : decode cX10_stepOf 154 = .ok (.if_icmp .ge 27, 3) := by decide +kernel
theorem dX10_stepOf_157 : decode cX10_stepOf 157 = .ok (.iload_n 1, 1) := by decide +kernel
theorem dX10_stepOf_158 : decode cX10_stepOf 158 = .ok (.bipush 126, 2) := by decide +kernel
theorem dX10_stepOf_160 : decode cX10_stepOf 160 = .ok (.if_icmp .eq 9, 3) := by decide +kernel
theorem dX10_stepOf_163 : decode cX10_stepOf 163 = .ok (.iload_n 1, 1) := by decide +kernel
theorem dX10_stepOf_164 : decode cX10_stepOf 164 = .ok (.bipush 62, 2) := by decide +kernel
theorem dX10_stepOf_166 : decode cX10_stepOf 166 = .ok (.if_icmp .ne 15, 3) := by decide +kernel
theorem dX10_stepOf_169 : decode cX10_stepOf 169 = .ok (.iload_n 1, 1) := by decide +kernel
theorem dX10_stepOf_170 : decode cX10_stepOf 170 = .ok (.bipush 126, 2) := by decide +kernel
theorem dX10_stepOf_172 : decode cX10_stepOf 172 = .ok (.if_icmp .ne 7, 3) := by decide +kernel
theorem dX10_stepOf_175 : decode cX10_stepOf 175 = .ok (.iconst 3, 1) := by decide +kernel
theorem dX10_stepOf_176 : decode cX10_stepOf 176 = .ok (.goto 4, 3) := by decide +kernel
theorem dX10_stepOf_179 : decode cX10_stepOf 179 = .ok (.iconst 5, 1) := by decide +kernel
theorem dX10_stepOf_180 : decode cX10_stepOf 180 = .ok (.ireturn, 1) := by decide +kernel
theorem dX10_stepOf_181 : decode cX10_stepOf 181 = .ok (.iload_n 1, 1) := by decide +kernel
theorem dX10_stepOf_182 : decode cX10_stepOf 182 = .ok (.bipush 38, 2) := by decide +kernel
theorem dX10_stepOf_184 : decode cX10_stepOf 184 = .ok (.if_icmp .eq 9, 3) := by decide +kernel
theorem dX10_stepOf_187 : decode cX10_stepOf 187 = .ok (.iload_n 1, 1) := by decide +kernel
theorem dX10_stepOf_188 : decode cX10_stepOf 188 = .ok (.bipush 124, 2) := by decide +kernel
theorem dX10_stepOf_190 : decode cX10_stepOf 190 = .ok (.if_icmp .ne 7, 3) := by decide +kernel
theorem dX10_stepOf_193 : decode cX10_stepOf 193 = .ok (.iconst 0, 1) := by decide +kernel
theorem dX10_stepOf_194 : decode cX10_stepOf 194 = .ok (.goto 19, 3) := by decide +kernel
theorem dX10_stepOf_197 : decode cX10_stepOf 197 = .ok (.iload_n 1, 1) := by decide +kernel
theorem dX10_stepOf_198 : decode cX10_stepOf 198 = .ok (.bipush 41, 2) := by decide +kernel
theorem dX10_stepOf_200 : decode cX10_stepOf 200 = .ok (.if_icmp .ne 12, 3) := by decide +kernel
theorem dX10_stepOf_203 : decode cX10_stepOf 203 = .ok (.iload_n 2, 1) := by decide +kernel
theorem dX10_stepOf_204 : decode cX10_stepOf 204 = .ok (.ifCond .le 8, 3) := by decide +kernel
theorem dX10_stepOf_207 : decode cX10_stepOf 207 = .ok (.bipush 8, 2) := by decide +kernel
theorem dX10_stepOf_209 : decode cX10_stepOf 209 = .ok (.goto 4, 3) := by decide +kernel
theorem dX10_stepOf_212 : decode cX10_stepOf 212 = .ok (.iconst (-1), 1) := by decide +kernel
theorem dX10_stepOf_213 : decode cX10_stepOf 213 = .ok (.ireturn, 1) := by decide +kernel
theorem dX10_fault_0 : decode cX10_fault 0 = .ok (.iconst 0, 1) := by decide +kernel
theorem dX10_fault_1 : decode cX10_fault 1 = .ok (.istore_n 1, 1) := by decide +kernel
theorem dX10_fault_2 : decode cX10_fault 2 = .ok (.iconst 0, 1) := by decide +kernel
theorem dX10_fault_3 : decode cX10_fault 3 = .ok (.istore_n 2, 1) := by decide +kernel
theorem dX10_fault_4 : decode cX10_fault 4 = .ok (.iconst 0, 1) := by decide +kernel
theorem dX10_fault_5 : decode cX10_fault 5 = .ok (.istore_n 3, 1) := by decide +kernel
theorem dX10_fault_6 : decode cX10_fault 6 = .ok (.iload_n 3, 1) := by decide +kernel
theorem dX10_fault_7 : decode cX10_fault 7 = .ok (.aload_n 0, 1) := by decide +kernel
theorem dX10_fault_8 : decode cX10_fault 8 = .ok (.getfield 55, 3) := by decide +kernel
theorem dX10_fault_11 : decode cX10_fault 11 = .ok (.bipush 10, 2) := by decide +kernel
theorem dX10_fault_13 : decode cX10_fault 13 = .ok (.iaload, 1) := by decide +kernel
theorem dX10_fault_14 : decode cX10_fault 14 = .ok (.if_icmp .ge 61, 3) := by decide +kernel
theorem dX10_fault_17 : decode cX10_fault 17 = .ok (.aload_n 0, 1) := by decide +kernel
theorem dX10_fault_18 : decode cX10_fault 18 = .ok (.getfield 52, 3) := by decide +kernel
theorem dX10_fault_21 : decode cX10_fault 21 = .ok (.sipush 400, 3) := by decide +kernel
theorem dX10_fault_24 : decode cX10_fault 24 = .ok (.iload_n 3, 1) := by decide +kernel
theorem dX10_fault_25 : decode cX10_fault 25 = .ok (.iadd, 1) := by decide +kernel
theorem dX10_fault_26 : decode cX10_fault 26 = .ok (.iaload, 1) := by decide +kernel
theorem dX10_fault_27 : decode cX10_fault 27 = .ok (.istore 4, 2) := by decide +kernel
theorem dX10_fault_29 : decode cX10_fault 29 = .ok (.iload_n 1, 1) := by decide +kernel
theorem dX10_fault_30 : decode cX10_fault 30 = .ok (.iload 4, 2) := by decide +kernel
theorem dX10_fault_32 : decode cX10_fault 32 = .ok (.iload_n 2, 1) := by decide +kernel
theorem dX10_fault_33 : decode cX10_fault 33 = .ok (.invokestatic 212, 3) := by decide +kernel
theorem dX10_fault_36 : decode cX10_fault 36 = .ok (.istore_n 1, 1) := by decide +kernel
theorem dX10_fault_37 : decode cX10_fault 37 = .ok (.iload_n 1, 1) := by decide +kernel
theorem dX10_fault_38 : decode cX10_fault 38 = .ok (.ifCond .ge 5, 3) := by decide +kernel
theorem dX10_fault_41 : decode cX10_fault 41 = .ok (.iload_n 3, 1) := by decide +kernel
theorem dX10_fault_42 : decode cX10_fault 42 = .ok (.ireturn, 1) := by decide +kernel
theorem dX10_fault_43 : decode cX10_fault 43 = .ok (.iload_n 2, 1) := by decide +kernel
theorem dX10_fault_44 : decode cX10_fault 44 = .ok (.iload 4, 2) := by decide +kernel
theorem dX10_fault_46 : decode cX10_fault 46 = .ok (.bipush 40, 2) := by decide +kernel
theorem dX10_fault_48 : decode cX10_fault 48 = .ok (.if_icmp .ne 7, 3) := by decide +kernel
theorem dX10_fault_51 : decode cX10_fault 51 = .ok (.iconst 1, 1) := by decide +kernel
theorem dX10_fault_52 : decode cX10_fault 52 = .ok (.goto 15, 3) := by decide +kernel
theorem dX10_fault_55 : decode cX10_fault 55 = .ok (.iload 4, 2) := by decide +kernel
theorem dX10_fault_57 : decode cX10_fault 57 = .ok (.bipush 41, 2) := by decide +kernel
theorem dX10_fault_59 : decode cX10_fault 59 = .ok (.if_icmp .ne 7, 3) := by decide +kernel
theorem dX10_fault_62 : decode cX10_fault 62 = .ok (.iconst (-1), 1) := by decide +kernel
theorem dX10_fault_63 : decode cX10_fault 63 = .ok (.goto 4, 3) := by decide +kernel
theorem dX10_fault_66 : decode cX10_fault 66 = .ok (.iconst 0, 1) := by decide +kernel
theorem dX10_fault_67 : decode cX10_fault 67 = .ok (.iadd, 1) := by decide +kernel
theorem dX10_fault_68 : decode cX10_fault 68 = .ok (.istore_n 2, 1) := by decide +kernel
theorem dX10_fault_69 : decode cX10_fault 69 = .ok (.iinc 3 1, 3) := by decide +kernel
theorem dX10_fault_72 : decode cX10_fault 72 = .ok (.goto (-66), 3) := by decide +kernel
theorem dX10_fault_75 : decode cX10_fault 75 = .ok (.iload_n 1, 1) := by decide +kernel
theorem dX10_fault_76 : decode cX10_fault 76 = .ok (.iconst 1, 1) := by decide +kernel
theorem dX10_fault_77 : decode cX10_fault 77 = .ok (.if_icmp .eq 20, 3) := by decide +kernel
theorem dX10_fault_80 : decode cX10_fault 80 = .ok (.iload_n 1, 1) := by decide +kernel
theorem dX10_fault_81 : decode cX10_fault 81 = .ok (.iconst 2, 1) := by decide +kernel
theorem dX10_fault_82 : decode cX10_fault 82 = .ok (.if_icmp .eq 15, 3) := by decide +kernel
theorem dX10_fault_85 : decode cX10_fault 85 = .ok (.iload_n 1, 1) := by decide +kernel
theorem dX10_fault_86 : decode cX10_fault 86 = .ok (.bipush 7, 2) := by decide +kernel
theorem dX10_fault_88 : decode cX10_fault 88 = .ok (.if_icmp .eq 9, 3) := by decide +kernel
theorem dX10_fault_91 : decode cX10_fault 91 = .ok (.iload_n 1, 1) := by decide +kernel
theorem dX10_fault_92 : decode cX10_fault 92 = .ok (.bipush 8, 2) := by decide +kernel
theorem dX10_fault_94 : decode cX10_fault 94 = .ok (.if_icmp .ne 7, 3) := by decide +kernel
theorem dX10_fault_97 : decode cX10_fault 97 = .ok (.iconst 1, 1) := by decide +kernel
theorem dX10_fault_98 : decode cX10_fault 98 = .ok (.goto 4, 3) := by decide +kernel
theorem dX10_fault_101 : decode cX10_fault 101 = .ok (.iconst 0, 1) := by decide +kernel
theorem dX10_fault_102 : decode cX10_fault 102 = .ok (.istore_n 3, 1) := by decide +kernel
theorem dX10_fault_103 : decode cX10_fault 103 = .ok (.iload_n 3, 1) := by decide +kernel
theorem dX10_fault_104 : decode cX10_fault 104 = .ok (.ifCond .eq 12, 3) := by decide +kernel
theorem dX10_fault_107 : decode cX10_fault 107 = .ok (.iload_n 2, 1) := by decide +kernel
theorem dX10_fault_108 : decode cX10_fault 108 = .ok (.ifCond .ne 8, 3) := by decide +kernel
theorem dX10_fault_111 : decode cX10_fault 111 = .ok (.bipush (-6), 2) := by decide +kernel
theorem dX10_fault_113 : decode cX10_fault 113 = .ok (.goto 10, 3) := by decide +kernel
theorem dX10_fault_116 : decode cX10_fault 116 = .ok (.aload_n 0, 1) := by decide +kernel
theorem dX10_fault_117 : decode cX10_fault 117 = .ok (.getfield 55, 3) := by decide +kernel
theorem dX10_fault_120 : decode cX10_fault 120 = .ok (.bipush 10, 2) := by decide +kernel
theorem dX10_fault_122 : decode cX10_fault 122 = .ok (.iaload, 1) := by decide +kernel
theorem dX10_fault_123 : decode cX10_fault 123 = .ok (.ireturn, 1) := by decide +kernel
theorem dX10_order_0 : decode cX10_order 0 = .ok (.iload_n 1, 1) := by decide +kernel
theorem dX10_order_1 : decode cX10_order 1 = .ok (.i2l, 1) := by decide +kernel
theorem dX10_order_2 : decode cX10_order 2 = .ok (.lconst 0, 1) := by decide +kernel
theorem dX10_order_3 : decode cX10_order 3 = .ok (.ldc2_w 174, 3) := by decide +kernel
theorem dX10_order_6 : decode cX10_order 6 = .ok (.invokestatic 139, 3) := by decide +kernel
theorem dX10_order_9 : decode cX10_order 9 = .ok (.ifCond .eq 49, 3) := by decide +kernel
theorem dX10_order_12 : decode cX10_order 12 = .ok (.iload_n 2, 1) := by decide +kernel
theorem dX10_order_13 : decode cX10_order 13 = .ok (.i2l, 1) := by decide +kernel
theorem dX10_order_14 : decode cX10_order 14 = .ok (.lconst 0, 1) := by decide +kernel
theorem dX10_order_15 : decode cX10_order 15 = .ok (.ldc2_w 216, 3) := by decide +kernel
theorem dX10_order_18 : decode cX10_order 18 = .ok (.invokestatic 139, 3) := by decide +kernel
theorem dX10_order_21 : decode cX10_order 21 = .ok (.ifCond .eq 37, 3) := by decide +kernel
theorem dX10_order_24 : decode cX10_order 24 = .ok (.iload_n 3, 1) := by decide +kernel
theorem dX10_order_25 : decode cX10_order 25 = .ok (.invokestatic 152, 3) := by decide +kernel
theorem dX10_order_28 : decode cX10_order 28 = .ok (.ifCond .eq 30, 3) := by decide +kernel
theorem dX10_order_31 : decode cX10_order 31 = .ok (.iload 4, 2) := by decide +kernel
theorem dX10_order_33 : decode cX10_order 33 = .ok (.invokestatic 152, 3) := by decide +kernel
theorem dX10_order_36 : decode cX10_order 36 = .ok (.ifCond .eq 22, 3) := by decide +kernel
theorem dX10_order_39 : decode cX10_order 39 = .ok (.iload_n 3, 1) := by decide +kernel
theorem dX10_order_40 : decode cX10_order 40 = .ok (.iload 4, 2) := by decide +kernel
theorem dX10_order_42 : decode cX10_order 42 = .ok (.if_icmp .gt 16, 3) := by decide +kernel
theorem dX10_order_45 : decode cX10_order 45 = .ok (.iload 5, 2) := by decide +kernel
theorem dX10_order_47 : decode cX10_order 47 = .ok (.i2l, 1) := by decide +kernel
theorem dX10_order_48 : decode cX10_order 48 = .ok (.lconst 0, 1) := by decide +kernel
theorem dX10_order_49 : decode cX10_order 49 = .ok (.ldc2_w 218, 3) := by decide +kernel
theorem dX10_order_52 : decode cX10_order 52 = .ok (.invokestatic 139, 3) := by decide +kernel
theorem dX10_order_55 : decode cX10_order 55 = .ok (.ifCond .ne 6, 3) := by decide +kernel
theorem dX10_order_58 : decode cX10_order 58 = .ok (.bipush (-2), 2) := by decide +kernel
theorem dX10_order_60 : decode cX10_order 60 = .ok (.ireturn, 1) := by decide +kernel
theorem dX10_order_61 : decode cX10_order 61 = .ok (.aload_n 0, 1) := by decide +kernel
theorem dX10_order_62 : decode cX10_order 62 = .ok (.getfield 220, 3) := by decide +kernel
theorem dX10_order_65 : decode cX10_order 65 = .ok (.bipush 10, 2) := by decide +kernel
theorem dX10_order_67 : decode cX10_order 67 = .ok (.if_icmp .ne 6, 3) := by decide +kernel
theorem dX10_order_70 : decode cX10_order 70 = .ok (.bipush (-4), 2) := by decide +kernel
theorem dX10_order_72 : decode cX10_order 72 = .ok (.ireturn, 1) := by decide +kernel
theorem dX10_order_73 : decode cX10_order 73 = .ok (.aload_n 0, 1) := by decide +kernel
theorem dX10_order_74 : decode cX10_order 74 = .ok (.invokevirtual 223, 3) := by decide +kernel
theorem dX10_order_77 : decode cX10_order 77 = .ok (.ifCond .lt 6, 3) := by decide +kernel
theorem dX10_order_80 : decode cX10_order 80 = .ok (.bipush (-5), 2) := by decide +kernel
theorem dX10_order_82 : decode cX10_order 82 = .ok (.ireturn, 1) := by decide +kernel
theorem dX10_order_83 : decode cX10_order 83 = .ok (.iconst 0, 1) := by decide +kernel
theorem dX10_order_84 : decode cX10_order 84 = .ok (.istore 7, 2) := by decide +kernel
theorem dX10_order_86 : decode cX10_order 86 = .ok (.iload 7, 2) := by decide +kernel
theorem dX10_order_88 : decode cX10_order 88 = .ok (.aload_n 0, 1) := by decide +kernel
theorem dX10_order_89 : decode cX10_order 89 = .ok (.getfield 55, 3) := by decide +kernel
theorem dX10_order_92 : decode cX10_order 92 = .ok (.bipush 10, 2) := by decide +kernel
theorem dX10_order_94 : decode cX10_order 94 = .ok (.iaload, 1) := by decide +kernel
theorem dX10_order_95 : decode cX10_order 95 = .ok (.if_icmp .ge 35, 3) := by decide +kernel
theorem dX10_order_98 : decode cX10_order 98 = .ok (.aload_n 0, 1) := by decide +kernel
theorem dX10_order_99 : decode cX10_order 99 = .ok (.getfield 52, 3) := by decide +kernel
theorem dX10_order_102 : decode cX10_order 102 = .ok (.bipush 40, 2) := by decide +kernel
theorem dX10_order_104 : decode cX10_order 104 = .ok (.aload_n 0, 1) := by decide +kernel
theorem dX10_order_105 : decode cX10_order 105 = .ok (.getfield 220, 3) := by decide +kernel
theorem dX10_order_108 : decode cX10_order 108 = .ok (.imul, 1) := by decide +kernel
theorem dX10_order_109 : decode cX10_order 109 = .ok (.iload 7, 2) := by decide +kernel
theorem dX10_order_111 : decode cX10_order 111 = .ok (.iadd, 1) := by decide +kernel
theorem dX10_order_112 : decode cX10_order 112 = .ok (.aload_n 0, 1) := by decide +kernel
theorem dX10_order_113 : decode cX10_order 113 = .ok (.getfield 52, 3) := by decide +kernel
theorem dX10_order_116 : decode cX10_order 116 = .ok (.sipush 400, 3) := by decide +kernel
theorem dX10_order_119 : decode cX10_order 119 = .ok (.iload 7, 2) := by decide +kernel
theorem dX10_order_121 : decode cX10_order 121 = .ok (.iadd, 1) := by decide +kernel
theorem dX10_order_122 : decode cX10_order 122 = .ok (.iaload, 1) := by decide +kernel
theorem dX10_order_123 : decode cX10_order 123 = .ok (.iastore, 1) := by decide +kernel
theorem dX10_order_124 : decode cX10_order 124 = .ok (.iinc 7 1, 3) := by decide +kernel
theorem dX10_order_127 : decode cX10_order 127 = .ok (.goto (-41), 3) := by decide +kernel
theorem dX10_order_130 : decode cX10_order 130 = .ok (.aload_n 0, 1) := by decide +kernel
theorem dX10_order_131 : decode cX10_order 131 = .ok (.getfield 55, 3) := by decide +kernel
theorem dX10_order_134 : decode cX10_order 134 = .ok (.aload_n 0, 1) := by decide +kernel
theorem dX10_order_135 : decode cX10_order 135 = .ok (.getfield 220, 3) := by decide +kernel
theorem dX10_order_138 : decode cX10_order 138 = .ok (.aload_n 0, 1) := by decide +kernel
theorem dX10_order_139 : decode cX10_order 139 = .ok (.getfield 55, 3) := by decide +kernel
theorem dX10_order_142 : decode cX10_order 142 = .ok (.bipush 10, 2) := by decide +kernel
theorem dX10_order_144 : decode cX10_order 144 = .ok (.iaload, 1) := by decide +kernel
theorem dX10_order_145 : decode cX10_order 145 = .ok (.iastore, 1) := by decide +kernel
theorem dX10_order_146 : decode cX10_order 146 = .ok (.aload_n 0, 1) := by decide +kernel
theorem dX10_order_147 : decode cX10_order 147 = .ok (.getfield 55, 3) := by decide +kernel
theorem dX10_order_150 : decode cX10_order 150 = .ok (.bipush 10, 2) := by decide +kernel
theorem dX10_order_152 : decode cX10_order 152 = .ok (.iconst 0, 1) := by decide +kernel
theorem dX10_order_153 : decode cX10_order 153 = .ok (.iastore, 1) := by decide +kernel
theorem dX10_order_154 : decode cX10_order 154 = .ok (.aload_n 0, 1) := by decide +kernel
theorem dX10_order_155 : decode cX10_order 155 = .ok (.getfield 58, 3) := by decide +kernel
theorem dX10_order_158 : decode cX10_order 158 = .ok (.aload_n 0, 1) := by decide +kernel
theorem dX10_order_159 : decode cX10_order 159 = .ok (.getfield 220, 3) := by decide +kernel
theorem dX10_order_162 : decode cX10_order 162 = .ok (.iload_n 1, 1) := by decide +kernel
theorem dX10_order_163 : decode cX10_order 163 = .ok (.iastore, 1) := by decide +kernel
theorem dX10_order_164 : decode cX10_order 164 = .ok (.aload_n 0, 1) := by decide +kernel
theorem dX10_order_165 : decode cX10_order 165 = .ok (.getfield 61, 3) := by decide +kernel
theorem dX10_order_168 : decode cX10_order 168 = .ok (.aload_n 0, 1) := by decide +kernel
theorem dX10_order_169 : decode cX10_order 169 = .ok (.getfield 220, 3) := by decide +kernel
theorem dX10_order_172 : decode cX10_order 172 = .ok (.iload_n 2, 1) := by decide +kernel
theorem dX10_order_173 : decode cX10_order 173 = .ok (.iastore, 1) := by decide +kernel
theorem dX10_order_174 : decode cX10_order 174 = .ok (.aload_n 0, 1) := by decide +kernel
theorem dX10_order_175 : decode cX10_order 175 = .ok (.getfield 64, 3) := by decide +kernel
theorem dX10_order_178 : decode cX10_order 178 = .ok (.aload_n 0, 1) := by decide +kernel
theorem dX10_order_179 : decode cX10_order 179 = .ok (.getfield 220, 3) := by decide +kernel
theorem dX10_order_182 : decode cX10_order 182 = .ok (.iload_n 3, 1) := by decide +kernel
theorem dX10_order_183 : decode cX10_order 183 = .ok (.iastore, 1) := by decide +kernel
theorem dX10_order_184 : decode cX10_order 184 = .ok (.aload_n 0, 1) := by decide +kernel
theorem dX10_order_185 : decode cX10_order 185 = .ok (.getfield 67, 3) := by decide +kernel
theorem dX10_order_188 : decode cX10_order 188 = .ok (.aload_n 0, 1) := by decide +kernel
theorem dX10_order_189 : decode cX10_order 189 = .ok (.getfield 220, 3) := by decide +kernel
theorem dX10_order_192 : decode cX10_order 192 = .ok (.iload 4, 2) := by decide +kernel
theorem dX10_order_194 : decode cX10_order 194 = .ok (.iastore, 1) := by decide +kernel
theorem dX10_order_195 : decode cX10_order 195 = .ok (.aload_n 0, 1) := by decide +kernel
theorem dX10_order_196 : decode cX10_order 196 = .ok (.getfield 70, 3) := by decide +kernel
theorem dX10_order_199 : decode cX10_order 199 = .ok (.aload_n 0, 1) := by decide +kernel
theorem dX10_order_200 : decode cX10_order 200 = .ok (.getfield 220, 3) := by decide +kernel
theorem dX10_order_203 : decode cX10_order 203 = .ok (.iload 5, 2) := by decide +kernel
theorem dX10_order_205 : decode cX10_order 205 = .ok (.iastore, 1) := by decide +kernel
theorem dX10_order_206 : decode cX10_order 206 = .ok (.aload_n 0, 1) := by decide +kernel
theorem dX10_order_207 : decode cX10_order 207 = .ok (.getfield 73, 3) := by decide +kernel
theorem dX10_order_210 : decode cX10_order 210 = .ok (.aload_n 0, 1) := by decide +kernel
theorem dX10_order_211 : decode cX10_order 211 = .ok (.getfield 220, 3) := by decide +kernel
theorem dX10_order_214 : decode cX10_order 214 = .ok (.iload 6, 2) := by decide +kernel
theorem dX10_order_216 : decode cX10_order 216 = .ok (.bastore, 1) := by decide +kernel
theorem dX10_order_217 : decode cX10_order 217 = .ok (.aload_n 0, 1) := by decide +kernel
theorem dX10_order_218 : decode cX10_order 218 = .ok (.dup, 1) := by decide +kernel
theorem dX10_order_219 : decode cX10_order 219 = .ok (.getfield 220, 3) := by decide +kernel
theorem dX10_order_222 : decode cX10_order 222 = .ok (.iconst 1, 1) := by decide +kernel
theorem dX10_order_223 : decode cX10_order 223 = .ok (.iadd, 1) := by decide +kernel
theorem dX10_order_224 : decode cX10_order 224 = .ok (.putfield 220, 3) := by decide +kernel
theorem dX10_order_227 : decode cX10_order 227 = .ok (.aload_n 0, 1) := by decide +kernel
theorem dX10_order_228 : decode cX10_order 228 = .ok (.getfield 220, 3) := by decide +kernel
theorem dX10_order_231 : decode cX10_order 231 = .ok (.iconst 1, 1) := by decide +kernel
theorem dX10_order_232 : decode cX10_order 232 = .ok (.isub, 1) := by decide +kernel
theorem dX10_order_233 : decode cX10_order 233 = .ok (.ireturn, 1) := by decide +kernel
theorem dX10_timesOf_0 : decode cX10_timesOf 0 = .ok (.iconst 0, 1) := by decide +kernel
theorem dX10_timesOf_1 : decode cX10_timesOf 1 = .ok (.istore_n 2, 1) := by decide +kernel
theorem dX10_timesOf_2 : decode cX10_timesOf 2 = .ok (.iconst 0, 1) := by decide +kernel
theorem dX10_timesOf_3 : decode cX10_timesOf 3 = .ok (.istore_n 3, 1) := by decide +kernel
theorem dX10_timesOf_4 : decode cX10_timesOf 4 = .ok (.iload_n 3, 1) := by decide +kernel
theorem dX10_timesOf_5 : decode cX10_timesOf 5 = .ok (.aload_n 0, 1) := by decide +kernel
theorem dX10_timesOf_6 : decode cX10_timesOf 6 = .ok (.getfield 176, 3) := by decide +kernel
theorem dX10_timesOf_9 : decode cX10_timesOf 9 = .ok (.if_icmp .ge 27, 3) := by decide +kernel
theorem dX10_timesOf_12 : decode cX10_timesOf 12 = .ok (.iload_n 2, 1) := by decide +kernel
theorem dX10_timesOf_13 : decode cX10_timesOf 13 = .ok (.aload_n 0, 1) := by decide +kernel
theorem dX10_timesOf_14 : decode cX10_timesOf 14 = .ok (.getfield 46, 3) := by decide +kernel
theorem dX10_timesOf_17 : decode cX10_timesOf 17 = .ok (.iload_n 3, 1) := by decide +kernel
theorem dX10_timesOf_18 : decode cX10_timesOf 18 = .ok (.iaload, 1) := by decide +kernel
theorem dX10_timesOf_19 : decode cX10_timesOf 19 = .ok (.iload_n 1, 1) := by decide +kernel
theorem dX10_timesOf_20 : decode cX10_timesOf 20 = .ok (.if_icmp .ne 7, 3) := by decide +kernel
theorem dX10_timesOf_23 : decode cX10_timesOf 23 = .ok (.iconst 1, 1) := by decide +kernel
theorem dX10_timesOf_24 : decode cX10_timesOf 24 = .ok (.goto 4, 3) := by decide +kernel
theorem dX10_timesOf_27 : decode cX10_timesOf 27 = .ok (.iconst 0, 1) := by decide +kernel
theorem dX10_timesOf_28 : decode cX10_timesOf 28 = .ok (.iadd, 1) := by decide +kernel
theorem dX10_timesOf_29 : decode cX10_timesOf 29 = .ok (.istore_n 2, 1) := by decide +kernel
theorem dX10_timesOf_30 : decode cX10_timesOf 30 = .ok (.iinc 3 1, 3) := by decide +kernel
theorem dX10_timesOf_33 : decode cX10_timesOf 33 = .ok (.goto (-29), 3) := by decide +kernel
theorem dX10_timesOf_36 : decode cX10_timesOf 36 = .ok (.iload_n 2, 1) := by decide +kernel
theorem dX10_timesOf_37 : decode cX10_timesOf 37 = .ok (.ireturn, 1) := by decide +kernel
theorem dX10_areNear_0 : decode cX10_areNear 0 = .ok (.iconst 0, 1) := by decide +kernel
theorem dX10_areNear_1 : decode cX10_areNear 1 = .ok (.istore 4, 2) := by decide +kernel
theorem dX10_areNear_3 : decode cX10_areNear 3 = .ok (.iconst 0, 1) := by decide +kernel
theorem dX10_areNear_4 : decode cX10_areNear 4 = .ok (.istore 5, 2) := by decide +kernel
theorem dX10_areNear_6 : decode cX10_areNear 6 = .ok (.iload 5, 2) := by decide +kernel
theorem dX10_areNear_8 : decode cX10_areNear 8 = .ok (.aload_n 0, 1) := by decide +kernel
theorem dX10_areNear_9 : decode cX10_areNear 9 = .ok (.getfield 176, 3) := by decide +kernel
theorem dX10_areNear_12 : decode cX10_areNear 12 = .ok (.if_icmp .ge 94, 3) := by decide +kernel
theorem dX10_areNear_15 : decode cX10_areNear 15 = .ok (.iconst 0, 1) := by decide +kernel
theorem dX10_areNear_16 : decode cX10_areNear 16 = .ok (.istore 6, 2) := by decide +kernel
theorem dX10_areNear_18 : decode cX10_areNear 18 = .ok (.iload 6, 2) := by decide +kernel
theorem dX10_areNear_20 : decode cX10_areNear 20 = .ok (.aload_n 0, 1) := by decide +kernel
theorem dX10_areNear_21 : decode cX10_areNear 21 = .ok (.getfield 176, 3) := by decide +kernel
theorem dX10_areNear_24 : decode cX10_areNear 24 = .ok (.if_icmp .ge 76, 3) := by decide +kernel
theorem dX10_areNear_27 : decode cX10_areNear 27 = .ok (.iload 5, 2) := by decide +kernel
theorem dX10_areNear_29 : decode cX10_areNear 29 = .ok (.iload 6, 2) := by decide +kernel
theorem dX10_areNear_31 : decode cX10_areNear 31 = .ok (.if_icmp .ge 11, 3) := by decide +kernel
theorem dX10_areNear_34 : decode cX10_areNear 34 = .ok (.iload 6, 2) := by decide +kernel
theorem dX10_areNear_36 : decode cX10_areNear 36 = .ok (.iload 5, 2) := by decide +kernel
theorem dX10_areNear_38 : decode cX10_areNear 38 = .ok (.isub, 1) := by decide +kernel
theorem dX10_areNear_39 : decode cX10_areNear 39 = .ok (.goto 8, 3) := by decide +kernel
theorem dX10_areNear_42 : decode cX10_areNear 42 = .ok (.iload 5, 2) := by decide +kernel
theorem dX10_areNear_44 : decode cX10_areNear 44 = .ok (.iload 6, 2) := by decide +kernel
theorem dX10_areNear_46 : decode cX10_areNear 46 = .ok (.isub, 1) := by decide +kernel
theorem dX10_areNear_47 : decode cX10_areNear 47 = .ok (.istore 7, 2) := by decide +kernel
theorem dX10_areNear_49 : decode cX10_areNear 49 = .ok (.iload 4, 2) := by decide +kernel
theorem dX10_areNear_51 : decode cX10_areNear 51 = .ok (.ifCond .ne 36, 3) := by decide +kernel
theorem dX10_areNear_54 : decode cX10_areNear 54 = .ok (.aload_n 0, 1) := by decide +kernel
theorem dX10_areNear_55 : decode cX10_areNear 55 = .ok (.getfield 46, 3) := by decide +kernel
theorem dX10_areNear_58 : decode cX10_areNear 58 = .ok (.iload 5, 2) := by decide +kernel
theorem dX10_areNear_60 : decode cX10_areNear 60 = .ok (.iaload, 1) := by decide +kernel
theorem dX10_areNear_61 : decode cX10_areNear 61 = .ok (.iload_n 1, 1) := by decide +kernel
theorem dX10_areNear_62 : decode cX10_areNear 62 = .ok (.if_icmp .ne 29, 3) := by decide +kernel
theorem dX10_areNear_65 : decode cX10_areNear 65 = .ok (.aload_n 0, 1) := by decide +kernel
theorem dX10_areNear_66 : decode cX10_areNear 66 = .ok (.getfield 46, 3) := by decide +kernel
theorem dX10_areNear_69 : decode cX10_areNear 69 = .ok (.iload 6, 2) := by decide +kernel
theorem dX10_areNear_71 : decode cX10_areNear 71 = .ok (.iaload, 1) := by decide +kernel
theorem dX10_areNear_72 : decode cX10_areNear 72 = .ok (.iload_n 2, 1) := by decide +kernel
theorem dX10_areNear_73 : decode cX10_areNear 73 = .ok (.if_icmp .ne 18, 3) := by decide +kernel
theorem dX10_areNear_76 : decode cX10_areNear 76 = .ok (.iload 7, 2) := by decide +kernel
theorem dX10_areNear_78 : decode cX10_areNear 78 = .ok (.ifCond .le 13, 3) := by decide +kernel
theorem dX10_areNear_81 : decode cX10_areNear 81 = .ok (.iload 7, 2) := by decide +kernel
theorem dX10_areNear_83 : decode cX10_areNear 83 = .ok (.iload_n 3, 1) := by decide +kernel
theorem dX10_areNear_84 : decode cX10_areNear 84 = .ok (.if_icmp .gt 7, 3) := by decide +kernel
theorem dX10_areNear_87 : decode cX10_areNear 87 = .ok (.iconst 1, 1) := by decide +kernel
theorem dX10_areNear_88 : decode cX10_areNear 88 = .ok (.goto 4, 3) := by decide +kernel
theorem dX10_areNear_91 : decode cX10_areNear 91 = .ok (.iconst 0, 1) := by decide +kernel
theorem dX10_areNear_92 : decode cX10_areNear 92 = .ok (.istore 4, 2) := by decide +kernel
theorem dX10_areNear_94 : decode cX10_areNear 94 = .ok (.iinc 6 1, 3) := by decide +kernel
theorem dX10_areNear_97 : decode cX10_areNear 97 = .ok (.goto (-79), 3) := by decide +kernel
theorem dX10_areNear_100 : decode cX10_areNear 100 = .ok (.iinc 5 1, 3) := by decide +kernel
theorem dX10_areNear_103 : decode cX10_areNear 103 = .ok (.goto (-97), 3) := by decide +kernel
theorem dX10_areNear_106 : decode cX10_areNear 106 = .ok (.iload 4, 2) := by decide +kernel
theorem dX10_areNear_108 : decode cX10_areNear 108 = .ok (.ireturn, 1) := by decide +kernel
theorem dX10_begin_0 : decode cX10_begin 0 = .ok (.aload_n 0, 1) := by decide +kernel
theorem dX10_begin_1 : decode cX10_begin 1 = .ok (.getfield 77, 3) := by decide +kernel
theorem dX10_begin_4 : decode cX10_begin 4 = .ok (.iload_n 1, 1) := by decide +kernel
theorem dX10_begin_5 : decode cX10_begin 5 = .ok (.iconst 0, 1) := by decide +kernel
theorem dX10_begin_6 : decode cX10_begin 6 = .ok (.bastore, 1) := by decide +kernel
theorem dX10_begin_7 : decode cX10_begin 7 = .ok (.aload_n 0, 1) := by decide +kernel
theorem dX10_begin_8 : decode cX10_begin 8 = .ok (.getfield 80, 3) := by decide +kernel
theorem dX10_begin_11 : decode cX10_begin 11 = .ok (.iload_n 1, 1) := by decide +kernel
theorem dX10_begin_12 : decode cX10_begin 12 = .ok (.iconst 1, 1) := by decide +kernel
theorem dX10_begin_13 : decode cX10_begin 13 = .ok (.bastore, 1) := by decide +kernel
theorem dX10_begin_14 : decode cX10_begin 14 = .ok (.aload_n 0, 1) := by decide +kernel
theorem dX10_begin_15 : decode cX10_begin 15 = .ok (.getfield 83, 3) := by decide +kernel
theorem dX10_begin_18 : decode cX10_begin 18 = .ok (.iload_n 1, 1) := by decide +kernel
theorem dX10_begin_19 : decode cX10_begin 19 = .ok (.iconst 0, 1) := by decide +kernel
theorem dX10_begin_20 : decode cX10_begin 20 = .ok (.bastore, 1) := by decide +kernel
theorem dX10_begin_21 : decode cX10_begin 21 = .ok (.return_, 1) := by decide +kernel
theorem dX10_join_0 : decode cX10_join 0 = .ok (.aload_n 0, 1) := by decide +kernel
theorem dX10_join_1 : decode cX10_join 1 = .ok (.getfield 80, 3) := by decide +kernel
theorem dX10_join_4 : decode cX10_join 4 = .ok (.iload_n 1, 1) := by decide +kernel
theorem dX10_join_5 : decode cX10_join 5 = .ok (.aload_n 0, 1) := by decide +kernel
theorem dX10_join_6 : decode cX10_join 6 = .ok (.getfield 80, 3) := by decide +kernel
theorem dX10_join_9 : decode cX10_join 9 = .ok (.iload_n 1, 1) := by decide +kernel
theorem dX10_join_10 : decode cX10_join 10 = .ok (.baload, 1) := by decide +kernel
theorem dX10_join_11 : decode cX10_join 11 = .ok (.ifCond .eq 17, 3) := by decide +kernel
theorem dX10_join_14 : decode cX10_join 14 = .ok (.iload_n 2, 1) := by decide +kernel
theorem dX10_join_15 : decode cX10_join 15 = .ok (.aload_n 0, 1) := by decide +kernel
theorem dX10_join_16 : decode cX10_join 16 = .ok (.getfield 83, 3) := by decide +kernel
theorem dX10_join_19 : decode cX10_join 19 = .ok (.iload_n 1, 1) := by decide +kernel
theorem dX10_join_20 : decode cX10_join 20 = .ok (.baload, 1) := by decide +kernel
theorem dX10_join_21 : decode cX10_join 21 = .ok (.if_icmp .eq 7, 3) := by decide +kernel
theorem dX10_join_24 : decode cX10_join 24 = .ok (.iconst 1, 1) := by decide +kernel
theorem dX10_join_25 : decode cX10_join 25 = .ok (.goto 4, 3) := by decide +kernel
theorem dX10_join_28 : decode cX10_join 28 = .ok (.iconst 0, 1) := by decide +kernel
theorem dX10_join_29 : decode cX10_join 29 = .ok (.bastore, 1) := by decide +kernel
theorem dX10_join_30 : decode cX10_join 30 = .ok (.aload_n 0, 1) := by decide +kernel
theorem dX10_join_31 : decode cX10_join 31 = .ok (.getfield 83, 3) := by decide +kernel
theorem dX10_join_34 : decode cX10_join 34 = .ok (.iload_n 1, 1) := by decide +kernel
theorem dX10_join_35 : decode cX10_join 35 = .ok (.iconst 0, 1) := by decide +kernel
theorem dX10_join_36 : decode cX10_join 36 = .ok (.bastore, 1) := by decide +kernel
theorem dX10_join_37 : decode cX10_join 37 = .ok (.return_, 1) := by decide +kernel
theorem dX10_number_0 : decode cX10_number 0 = .ok (.iconst 0, 1) := by decide +kernel
theorem dX10_number_1 : decode cX10_number 1 = .ok (.istore_n 2, 1) := by decide +kernel
theorem dX10_number_2 : decode cX10_number 2 = .ok (.aload_n 0, 1) := by decide +kernel
theorem dX10_number_3 : decode cX10_number 3 = .ok (.getfield 226, 3) := by decide +kernel
theorem dX10_number_6 : decode cX10_number 6 = .ok (.iload_n 1, 1) := by decide +kernel
theorem dX10_number_7 : decode cX10_number 7 = .ok (.if_icmp .ge 49, 3) := by decide +kernel
theorem dX10_number_10 : decode cX10_number 10 = .ok (.aload_n 0, 1) := by decide +kernel
theorem dX10_number_11 : decode cX10_number 11 = .ok (.getfield 52, 3) := by decide +kernel
theorem dX10_number_14 : decode cX10_number 14 = .ok (.aload_n 0, 1) := by decide +kernel
theorem dX10_number_15 : decode cX10_number 15 = .ok (.getfield 226, 3) := by decide +kernel
theorem dX10_number_18 : decode cX10_number 18 = .ok (.iaload, 1) := by decide +kernel
theorem dX10_number_19 : decode cX10_number 19 = .ok (.invokestatic 209, 3) := by decide +kernel
theorem dX10_number_22 : decode cX10_number 22 = .ok (.ifCond .eq 34, 3) := by decide +kernel
theorem dX10_number_25 : decode cX10_number 25 = .ok (.bipush 10, 2) := by decide +kernel
theorem dX10_number_27 : decode cX10_number 27 = .ok (.iload_n 2, 1) := by decide +kernel
theorem dX10_number_28 : decode cX10_number 28 = .ok (.imul, 1) := by decide +kernel
theorem dX10_number_29 : decode cX10_number 29 = .ok (.aload_n 0, 1) := by decide +kernel
theorem dX10_number_30 : decode cX10_number 30 = .ok (.getfield 52, 3) := by decide +kernel
theorem dX10_number_33 : decode cX10_number 33 = .ok (.aload_n 0, 1) := by decide +kernel
theorem dX10_number_34 : decode cX10_number 34 = .ok (.getfield 226, 3) := by decide +kernel
theorem dX10_number_37 : decode cX10_number 37 = .ok (.iaload, 1) := by decide +kernel
theorem dX10_number_38 : decode cX10_number 38 = .ok (.iadd, 1) := by decide +kernel
theorem dX10_number_39 : decode cX10_number 39 = .ok (.bipush 48, 2) := by decide +kernel
theorem dX10_number_41 : decode cX10_number 41 = .ok (.isub, 1) := by decide +kernel
theorem dX10_number_42 : decode cX10_number 42 = .ok (.istore_n 2, 1) := by decide +kernel
theorem dX10_number_43 : decode cX10_number 43 = .ok (.aload_n 0, 1) := by decide +kernel
theorem dX10_number_44 : decode cX10_number 44 = .ok (.dup, 1) := by decide +kernel
theorem dX10_number_45 : decode cX10_number 45 = .ok (.getfield 226, 3) := by decide +kernel
theorem dX10_number_48 : decode cX10_number 48 = .ok (.iconst 1, 1) := by decide +kernel
theorem dX10_number_49 : decode cX10_number 49 = .ok (.iadd, 1) := by decide +kernel
theorem dX10_number_50 : decode cX10_number 50 = .ok (.putfield 226, 3) := by decide +kernel
theorem dX10_number_53 : decode cX10_number 53 = .ok (.goto (-51), 3) := by decide +kernel
theorem dX10_number_56 : decode cX10_number 56 = .ok (.iload_n 2, 1) := by decide +kernel
theorem dX10_number_57 : decode cX10_number 57 = .ok (.ireturn, 1) := by decide +kernel
theorem dX10_isItem_0 : decode cX10_isItem 0 = .ok (.aload_n 0, 1) := by decide +kernel
theorem dX10_isItem_1 : decode cX10_isItem 1 = .ok (.iload_n 1, 1) := by decide +kernel
theorem dX10_isItem_2 : decode cX10_isItem 2 = .ok (.invokevirtual 229, 3) := by decide +kernel
theorem dX10_isItem_5 : decode cX10_isItem 5 = .ok (.istore_n 2, 1) := by decide +kernel
theorem dX10_isItem_6 : decode cX10_isItem 6 = .ok (.aload_n 0, 1) := by decide +kernel
theorem dX10_isItem_7 : decode cX10_isItem 7 = .ok (.getfield 226, 3) := by decide +kernel
theorem dX10_isItem_10 : decode cX10_isItem 10 = .ok (.iload_n 1, 1) := by decide +kernel
theorem dX10_isItem_11 : decode cX10_isItem 11 = .ok (.if_icmp .ge 46, 3) := by decide +kernel
theorem dX10_isItem_14 : decode cX10_isItem 14 = .ok (.aload_n 0, 1) := by decide +kernel
theorem dX10_isItem_15 : decode cX10_isItem 15 = .ok (.getfield 52, 3) := by decide +kernel
theorem dX10_isItem_18 : decode cX10_isItem 18 = .ok (.aload_n 0, 1) := by decide +kernel
theorem dX10_isItem_19 : decode cX10_isItem 19 = .ok (.getfield 226, 3) := by decide +kernel
theorem dX10_isItem_22 : decode cX10_isItem 22 = .ok (.iaload, 1) := by decide +kernel
theorem dX10_isItem_23 : decode cX10_isItem 23 = .ok (.bipush 62, 2) := by decide +kernel
theorem dX10_isItem_25 : decode cX10_isItem 25 = .ok (.if_icmp .ne 32, 3) := by decide +kernel
theorem dX10_isItem_28 : decode cX10_isItem 28 = .ok (.aload_n 0, 1) := by decide +kernel
theorem dX10_isItem_29 : decode cX10_isItem 29 = .ok (.dup, 1) := by decide +kernel
theorem dX10_isItem_30 : decode cX10_isItem 30 = .ok (.getfield 226, 3) := by decide +kernel
theorem dX10_isItem_33 : decode cX10_isItem 33 = .ok (.iconst 1, 1) := by decide +kernel
theorem dX10_isItem_34 : decode cX10_isItem 34 = .ok (.iadd, 1) := by decide +kernel
theorem dX10_isItem_35 : decode cX10_isItem 35 = .ok (.putfield 226, 3) := by decide +kernel
theorem dX10_isItem_38 : decode cX10_isItem 38 = .ok (.aload_n 0, 1) := by decide +kernel
theorem dX10_isItem_39 : decode cX10_isItem 39 = .ok (.iload_n 2, 1) := by decide +kernel
theorem dX10_isItem_40 : decode cX10_isItem 40 = .ok (.invokevirtual 232, 3) := by decide +kernel
theorem dX10_isItem_43 : decode cX10_isItem 43 = .ok (.aload_n 0, 1) := by decide +kernel
theorem dX10_isItem_44 : decode cX10_isItem 44 = .ok (.iload_n 1, 1) := by decide +kernel
theorem dX10_isItem_45 : decode cX10_isItem 45 = .ok (.invokevirtual 229, 3) := by decide +kernel
theorem dX10_isItem_48 : decode cX10_isItem 48 = .ok (.if_icmp .le 7, 3) := by decide +kernel
theorem dX10_isItem_51 : decode cX10_isItem 51 = .ok (.iconst 1, 1) := by decide +kernel
theorem dX10_isItem_52 : decode cX10_isItem 52 = .ok (.goto 4, 3) := by decide +kernel
theorem dX10_isItem_55 : decode cX10_isItem 55 = .ok (.iconst 0, 1) := by decide +kernel
theorem dX10_isItem_56 : decode cX10_isItem 56 = .ok (.ireturn, 1) := by decide +kernel
theorem dX10_isItem_57 : decode cX10_isItem 57 = .ok (.aload_n 0, 1) := by decide +kernel
theorem dX10_isItem_58 : decode cX10_isItem 58 = .ok (.getfield 226, 3) := by decide +kernel
theorem dX10_isItem_61 : decode cX10_isItem 61 = .ok (.iload_n 1, 1) := by decide +kernel
theorem dX10_isItem_62 : decode cX10_isItem 62 = .ok (.if_icmp .ge 54, 3) := by decide +kernel
theorem dX10_isItem_65 : decode cX10_isItem 65 = .ok (.aload_n 0, 1) := by decide +kernel
theorem dX10_isItem_66 : decode cX10_isItem 66 = .ok (.getfield 52, 3) := by decide +kernel
theorem dX10_isItem_69 : decode cX10_isItem 69 = .ok (.aload_n 0, 1) := by decide +kernel
theorem dX10_isItem_70 : decode cX10_isItem 70 = .ok (.getfield 226, 3) := by decide +kernel
theorem dX10_isItem_73 : decode cX10_isItem 73 = .ok (.iaload, 1) := by decide +kernel
theorem dX10_isItem_74 : decode cX10_isItem 74 = .ok (.bipush 126, 2) := by decide +kernel
theorem dX10_isItem_76 : decode cX10_isItem 76 = .ok (.if_icmp .ne 40, 3) := by decide +kernel
theorem dX10_isItem_79 : decode cX10_isItem 79 = .ok (.aload_n 0, 1) := by decide +kernel
theorem dX10_isItem_80 : decode cX10_isItem 80 = .ok (.getfield 52, 3) := by decide +kernel
theorem dX10_isItem_83 : decode cX10_isItem 83 = .ok (.aload_n 0, 1) := by decide +kernel
theorem dX10_isItem_84 : decode cX10_isItem 84 = .ok (.getfield 226, 3) := by decide +kernel
theorem dX10_isItem_87 : decode cX10_isItem 87 = .ok (.iconst 1, 1) := by decide +kernel
theorem dX10_isItem_88 : decode cX10_isItem 88 = .ok (.iadd, 1) := by decide +kernel
theorem dX10_isItem_89 : decode cX10_isItem 89 = .ok (.iaload, 1) := by decide +kernel
theorem dX10_isItem_90 : decode cX10_isItem 90 = .ok (.bipush 48, 2) := by decide +kernel
theorem dX10_isItem_92 : decode cX10_isItem 92 = .ok (.isub, 1) := by decide +kernel
theorem dX10_isItem_93 : decode cX10_isItem 93 = .ok (.istore_n 3, 1) := by decide +kernel
theorem dX10_isItem_94 : decode cX10_isItem 94 = .ok (.aload_n 0, 1) := by decide +kernel
theorem dX10_isItem_95 : decode cX10_isItem 95 = .ok (.dup, 1) := by decide +kernel
theorem dX10_isItem_96 : decode cX10_isItem 96 = .ok (.getfield 226, 3) := by decide +kernel
theorem dX10_isItem_99 : decode cX10_isItem 99 = .ok (.iconst 3, 1) := by decide +kernel
theorem dX10_isItem_100 : decode cX10_isItem 100 = .ok (.iadd, 1) := by decide +kernel
theorem dX10_isItem_101 : decode cX10_isItem 101 = .ok (.putfield 226, 3) := by decide +kernel
theorem dX10_isItem_104 : decode cX10_isItem 104 = .ok (.aload_n 0, 1) := by decide +kernel
theorem dX10_isItem_105 : decode cX10_isItem 105 = .ok (.iload_n 2, 1) := by decide +kernel
theorem dX10_isItem_106 : decode cX10_isItem 106 = .ok (.aload_n 0, 1) := by decide +kernel
theorem dX10_isItem_107 : decode cX10_isItem 107 = .ok (.iload_n 1, 1) := by decide +kernel
theorem dX10_isItem_108 : decode cX10_isItem 108 = .ok (.invokevirtual 229, 3) := by decide +kernel
theorem dX10_isItem_111 : decode cX10_isItem 111 = .ok (.iload_n 3, 1) := by decide +kernel
theorem dX10_isItem_112 : decode cX10_isItem 112 = .ok (.invokevirtual 235, 3) := by decide +kernel
theorem dX10_isItem_115 : decode cX10_isItem 115 = .ok (.ireturn, 1) := by decide +kernel
theorem dX10_isItem_116 : decode cX10_isItem 116 = .ok (.aload_n 0, 1) := by decide +kernel
theorem dX10_isItem_117 : decode cX10_isItem 117 = .ok (.iload_n 2, 1) := by decide +kernel
theorem dX10_isItem_118 : decode cX10_isItem 118 = .ok (.invokevirtual 232, 3) := by decide +kernel
theorem dX10_isItem_121 : decode cX10_isItem 121 = .ok (.ifCond .le 7, 3) := by decide +kernel
theorem dX10_isItem_124 : decode cX10_isItem 124 = .ok (.iconst 1, 1) := by decide +kernel
theorem dX10_isItem_125 : decode cX10_isItem 125 = .ok (.goto 4, 3) := by decide +kernel
theorem dX10_isItem_128 : decode cX10_isItem 128 = .ok (.iconst 0, 1) := by decide +kernel
theorem dX10_isItem_129 : decode cX10_isItem 129 = .ok (.ireturn, 1) := by decide +kernel
theorem dX10_isRule_0 : decode cX10_isRule 0 = .ok (.aload_n 0, 1) := by decide +kernel
theorem dX10_isRule_1 : decode cX10_isRule 1 = .ok (.iload_n 2, 1) := by decide +kernel
theorem dX10_isRule_2 : decode cX10_isRule 2 = .ok (.invokevirtual 179, 3) := by decide +kernel
theorem dX10_isRule_5 : decode cX10_isRule 5 = .ok (.iconst 0, 1) := by decide +kernel
theorem dX10_isRule_6 : decode cX10_isRule 6 = .ok (.istore_n 3, 1) := by decide +kernel
theorem dX10_isRule_7 : decode cX10_isRule 7 = .ok (.aload_n 0, 1) := by decide +kernel
theorem dX10_isRule_8 : decode cX10_isRule 8 = .ok (.iconst 0, 1) := by decide +kernel
theorem dX10_isRule_9 : decode cX10_isRule 9 = .ok (.invokevirtual 239, 3) := by decide +kernel
theorem dX10_isRule_12 : decode cX10_isRule 12 = .ok (.aload_n 0, 1) := by decide +kernel
theorem dX10_isRule_13 : decode cX10_isRule 13 = .ok (.bipush 40, 2) := by decide +kernel
theorem dX10_isRule_15 : decode cX10_isRule 15 = .ok (.iload_n 1, 1) := by decide +kernel
theorem dX10_isRule_16 : decode cX10_isRule 16 = .ok (.imul, 1) := by decide +kernel
theorem dX10_isRule_17 : decode cX10_isRule 17 = .ok (.putfield 226, 3) := by decide +kernel
theorem dX10_isRule_20 : decode cX10_isRule 20 = .ok (.aload_n 0, 1) := by decide +kernel
theorem dX10_isRule_21 : decode cX10_isRule 21 = .ok (.getfield 226, 3) := by decide +kernel
theorem dX10_isRule_24 : decode cX10_isRule 24 = .ok (.aload_n 0, 1) := by decide +kernel
theorem dX10_isRule_25 : decode cX10_isRule 25 = .ok (.getfield 55, 3) := by decide +kernel
theorem dX10_isRule_28 : decode cX10_isRule 28 = .ok (.iload_n 1, 1) := by decide +kernel
theorem dX10_isRule_29 : decode cX10_isRule 29 = .ok (.iaload, 1) := by decide +kernel
theorem dX10_isRule_30 : decode cX10_isRule 30 = .ok (.iadd, 1) := by decide +kernel
theorem dX10_isRule_31 : decode cX10_isRule 31 = .ok (.istore 4, 2) := by decide +kernel
theorem dX10_isRule_33 : decode cX10_isRule 33 = .ok (.aload_n 0, 1) := by decide +kernel
theorem dX10_isRule_34 : decode cX10_isRule 34 = .ok (.getfield 226, 3) := by decide +kernel
theorem dX10_isRule_37 : decode cX10_isRule 37 = .ok (.iload 4, 2) := by decide +kernel
theorem dX10_isRule_39 : decode cX10_isRule 39 = .ok (.if_icmp .ge 185, 3) := by decide +kernel
theorem dX10_isRule_42 : decode cX10_isRule 42 = .ok (.aload_n 0, 1) := by decide +kernel
theorem dX10_isRule_43 : decode cX10_isRule 43 = .ok (.getfield 52, 3) := by decide +kernel
theorem dX10_isRule_46 : decode cX10_isRule 46 = .ok (.aload_n 0, 1) := by decide +kernel
theorem dX10_isRule_47 : decode cX10_isRule 47 = .ok (.getfield 226, 3) := by decide +kernel
theorem dX10_isRule_50 : decode cX10_isRule 50 = .ok (.iaload, 1) := by decide +kernel
theorem dX10_isRule_51 : decode cX10_isRule 51 = .ok (.istore 5, 2) := by decide +kernel
theorem dX10_isRule_53 : decode cX10_isRule 53 = .ok (.iload 5, 2) := by decide +kernel
theorem dX10_isRule_55 : decode cX10_isRule 55 = .ok (.invokestatic 209, 3) := by decide +kernel
theorem dX10_isRule_58 : decode cX10_isRule 58 = .ok (.ifCond .eq 17, 3) := by decide +kernel
theorem dX10_isRule_61 : decode cX10_isRule 61 = .ok (.aload_n 0, 1) := by decide +kernel
theorem dX10_isRule_62 : decode cX10_isRule 62 = .ok (.iload_n 3, 1) := by decide +kernel
theorem dX10_isRule_63 : decode cX10_isRule 63 = .ok (.aload_n 0, 1) := by decide +kernel
theorem dX10_isRule_64 : decode cX10_isRule 64 = .ok (.iload 4, 2) := by decide +kernel
theorem dX10_isRule_66 : decode cX10_isRule 66 = .ok (.invokevirtual 242, 3) := by decide +kernel
theorem dX10_isRule_69 : decode cX10_isRule 69 = .ok (.invokevirtual 245, 3) := by decide +kernel
theorem dX10_isRule_72 : decode cX10_isRule 72 = .ok (.goto 149, 3) := by decide +kernel
theorem dX10_isRule_75 : decode cX10_isRule 75 = .ok (.aload_n 0, 1) := by decide +kernel
theorem dX10_isRule_76 : decode cX10_isRule 76 = .ok (.dup, 1) := by decide +kernel
theorem dX10_isRule_77 : decode cX10_isRule 77 = .ok (.getfield 226, 3) := by decide +kernel
theorem dX10_isRule_80 : decode cX10_isRule 80 = .ok (.iconst 1, 1) := by decide +kernel
theorem dX10_isRule_81 : decode cX10_isRule 81 = .ok (.iadd, 1) := by decide +kernel
theorem dX10_isRule_82 : decode cX10_isRule 82 = .ok (.putfield 226, 3) := by decide +kernel
theorem dX10_isRule_85 : decode cX10_isRule 85 = .ok (.iload 5, 2) := by decide +kernel
theorem dX10_isRule_87 : decode cX10_isRule 87 = .ok (.bipush 33, 2) := by decide +kernel
theorem dX10_isRule_89 : decode cX10_isRule 89 = .ok (.if_icmp .ne 26, 3) := by decide +kernel
theorem dX10_isRule_92 : decode cX10_isRule 92 = .ok (.aload_n 0, 1) := by decide +kernel
theorem dX10_isRule_93 : decode cX10_isRule 93 = .ok (.getfield 83, 3) := by decide +kernel
theorem dX10_isRule_96 : decode cX10_isRule 96 = .ok (.iload_n 3, 1) := by decide +kernel
theorem dX10_isRule_97 : decode cX10_isRule 97 = .ok (.aload_n 0, 1) := by decide +kernel
theorem dX10_isRule_98 : decode cX10_isRule 98 = .ok (.getfield 83, 3) := by decide +kernel
theorem dX10_isRule_101 : decode cX10_isRule 101 = .ok (.iload_n 3, 1) := by decide +kernel
theorem dX10_isRule_102 : decode cX10_isRule 102 = .ok (.baload, 1) := by decide +kernel
theorem dX10_isRule_103 : decode cX10_isRule 103 = .ok (.ifCond .ne 7, 3) := by decide +kernel
theorem dX10_isRule_106 : decode cX10_isRule 106 = .ok (.iconst 1, 1) := by decide +kernel
theorem dX10_isRule_107 : decode cX10_isRule 107 = .ok (.goto 4, 3) := by decide +kernel
theorem dX10_isRule_110 : decode cX10_isRule 110 = .ok (.iconst 0, 1) := by decide +kernel
theorem dX10_isRule_111 : decode cX10_isRule 111 = .ok (.bastore, 1) := by decide +kernel
theorem dX10_isRule_112 : decode cX10_isRule 112 = .ok (.goto 109, 3) := by decide +kernel
theorem dX10_isRule_115 : decode cX10_isRule 115 = .ok (.iload 5, 2) := by decide +kernel
theorem dX10_isRule_117 : decode cX10_isRule 117 = .ok (.bipush 40, 2) := by decide +kernel
theorem dX10_isRule_119 : decode cX10_isRule 119 = .ok (.if_icmp .ne 14, 3) := by decide +kernel
theorem dX10_isRule_122 : decode cX10_isRule 122 = .ok (.iinc 3 1, 3) := by decide +kernel
theorem dX10_isRule_125 : decode cX10_isRule 125 = .ok (.aload_n 0, 1) := by decide +kernel
theorem dX10_isRule_126 : decode cX10_isRule 126 = .ok (.iload_n 3, 1) := by decide +kernel
theorem dX10_isRule_127 : decode cX10_isRule 127 = .ok (.invokevirtual 239, 3) := by decide +kernel
theorem dX10_isRule_130 : decode cX10_isRule 130 = .ok (.goto 91, 3) := by decide +kernel
theorem dX10_isRule_133 : decode cX10_isRule 133 = .ok (.iload 5, 2) := by decide +kernel
theorem dX10_isRule_135 : decode cX10_isRule 135 = .ok (.bipush 41, 2) := by decide +kernel
theorem dX10_isRule_137 : decode cX10_isRule 137 = .ok (.if_icmp .ne 41, 3) := by decide +kernel
theorem dX10_isRule_140 : decode cX10_isRule 140 = .ok (.iinc 3 (-1), 3) := by decide +kernel
theorem dX10_isRule_143 : decode cX10_isRule 143 = .ok (.aload_n 0, 1) := by decide +kernel
theorem dX10_isRule_144 : decode cX10_isRule 144 = .ok (.iload_n 3, 1) := by decide +kernel
theorem dX10_isRule_145 : decode cX10_isRule 145 = .ok (.aload_n 0, 1) := by decide +kernel
theorem dX10_isRule_146 : decode cX10_isRule 146 = .ok (.getfield 77, 3) := by decide +kernel
theorem dX10_isRule_149 : decode cX10_isRule 149 = .ok (.iload_n 3, 1) := by decide +kernel
theorem dX10_isRule_150 : decode cX10_isRule 150 = .ok (.iconst 1, 1) := by decide +kernel
theorem dX10_isRule_151 : decode cX10_isRule 151 = .ok (.iadd, 1) := by decide +kernel
theorem dX10_isRule_152 : decode cX10_isRule 152 = .ok (.baload, 1) := by decide +kernel
theorem dX10_isRule_153 : decode cX10_isRule 153 = .ok (.ifCond .ne 14, 3) := by decide +kernel
theorem dX10_isRule_156 : decode cX10_isRule 156 = .ok (.aload_n 0, 1) := by decide +kernel
theorem dX10_isRule_157 : decode cX10_isRule 157 = .ok (.getfield 80, 3) := by decide +kernel
theorem dX10_isRule_160 : decode cX10_isRule 160 = .ok (.iload_n 3, 1) := by decide +kernel
theorem dX10_isRule_161 : decode cX10_isRule 161 = .ok (.iconst 1, 1) := by decide +kernel
theorem dX10_isRule_162 : decode cX10_isRule 162 = .ok (.iadd, 1) := by decide +kernel
theorem dX10_isRule_163 : decode cX10_isRule 163 = .ok (.baload, 1) := by decide +kernel
theorem dX10_isRule_164 : decode cX10_isRule 164 = .ok (.ifCond .eq 7, 3) := by decide +kernel
theorem dX10_isRule_167 : decode cX10_isRule 167 = .ok (.iconst 1, 1) := by decide +kernel
theorem dX10_isRule_168 : decode cX10_isRule 168 = .ok (.goto 4, 3) := by decide +kernel
theorem dX10_isRule_171 : decode cX10_isRule 171 = .ok (.iconst 0, 1) := by decide +kernel
theorem dX10_isRule_172 : decode cX10_isRule 172 = .ok (.invokevirtual 245, 3) := by decide +kernel
theorem dX10_isRule_175 : decode cX10_isRule 175 = .ok (.goto 46, 3) := by decide +kernel
theorem dX10_isRule_178 : decode cX10_isRule 178 = .ok (.iload 5, 2) := by decide +kernel
theorem dX10_isRule_180 : decode cX10_isRule 180 = .ok (.bipush 124, 2) := by decide +kernel
theorem dX10_isRule_182 : decode cX10_isRule 182 = .ok (.if_icmp .ne 39, 3) := by decide +kernel
theorem dX10_isRule_185 : decode cX10_isRule 185 = .ok (.aload_n 0, 1) := by decide +kernel
theorem dX10_isRule_186 : decode cX10_isRule 186 = .ok (.getfield 77, 3) := by decide +kernel
theorem dX10_isRule_189 : decode cX10_isRule 189 = .ok (.iload_n 3, 1) := by decide +kernel
theorem dX10_isRule_190 : decode cX10_isRule 190 = .ok (.aload_n 0, 1) := by decide +kernel
theorem dX10_isRule_191 : decode cX10_isRule 191 = .ok (.getfield 77, 3) := by decide +kernel
theorem dX10_isRule_194 : decode cX10_isRule 194 = .ok (.iload_n 3, 1) := by decide +kernel
theorem dX10_isRule_195 : decode cX10_isRule 195 = .ok (.baload, 1) := by decide +kernel
theorem dX10_isRule_196 : decode cX10_isRule 196 = .ok (.ifCond .ne 12, 3) := by decide +kernel
theorem dX10_isRule_199 : decode cX10_isRule 199 = .ok (.aload_n 0, 1) := by decide +kernel
theorem dX10_isRule_200 : decode cX10_isRule 200 = .ok (.getfield 80, 3) := by decide +kernel
theorem dX10_isRule_203 : decode cX10_isRule 203 = .ok (.iload_n 3, 1) := by decide +kernel
theorem dX10_isRule_204 : decode cX10_isRule 204 = .ok (.baload, 1) := by decide +kernel
theorem dX10_isRule_205 : decode cX10_isRule 205 = .ok (.ifCond .eq 7, 3) := by decide +kernel
theorem dX10_isRule_208 : decode cX10_isRule 208 = .ok (.iconst 1, 1) := by decide +kernel
theorem dX10_isRule_209 : decode cX10_isRule 209 = .ok (.goto 4, 3) := by decide +kernel
theorem dX10_isRule_212 : decode cX10_isRule 212 = .ok (.iconst 0, 1) := by decide +kernel
theorem dX10_isRule_213 : decode cX10_isRule 213 = .ok (.bastore, 1) := by decide +kernel
theorem dX10_isRule_214 : decode cX10_isRule 214 = .ok (.aload_n 0, 1) := by decide +kernel
theorem dX10_isRule_215 : decode cX10_isRule 215 = .ok (.getfield 80, 3) := by decide +kernel
theorem dX10_isRule_218 : decode cX10_isRule 218 = .ok (.iload_n 3, 1) := by decide +kernel
theorem dX10_isRule_219 : decode cX10_isRule 219 = .ok (.iconst 1, 1) := by decide +kernel
theorem dX10_isRule_220 : decode cX10_isRule 220 = .ok (.bastore, 1) := by decide +kernel
theorem dX10_isRule_221 : decode cX10_isRule 221 = .ok (.goto (-188), 3) := by decide +kernel
theorem dX10_isRule_224 : decode cX10_isRule 224 = .ok (.aload_n 0, 1) := by decide +kernel
theorem dX10_isRule_225 : decode cX10_isRule 225 = .ok (.getfield 77, 3) := by decide +kernel
theorem dX10_isRule_228 : decode cX10_isRule 228 = .ok (.iconst 0, 1) := by decide +kernel
theorem dX10_isRule_229 : decode cX10_isRule 229 = .ok (.baload, 1) := by decide +kernel
theorem dX10_isRule_230 : decode cX10_isRule 230 = .ok (.ifCond .ne 12, 3) := by decide +kernel
theorem dX10_isRule_233 : decode cX10_isRule 233 = .ok (.aload_n 0, 1) := by decide +kernel
theorem dX10_isRule_234 : decode cX10_isRule 234 = .ok (.getfield 80, 3) := by decide +kernel
theorem dX10_isRule_237 : decode cX10_isRule 237 = .ok (.iconst 0, 1) := by decide +kernel
theorem dX10_isRule_238 : decode cX10_isRule 238 = .ok (.baload, 1) := by decide +kernel
theorem dX10_isRule_239 : decode cX10_isRule 239 = .ok (.ifCond .eq 7, 3) := by decide +kernel
theorem dX10_isRule_242 : decode cX10_isRule 242 = .ok (.iconst 1, 1) := by decide +kernel
theorem dX10_isRule_243 : decode cX10_isRule 243 = .ok (.goto 4, 3) := by decide +kernel
theorem dX10_isRule_246 : decode cX10_isRule 246 = .ok (.iconst 0, 1) := by decide +kernel
theorem dX10_isRule_247 : decode cX10_isRule 247 = .ok (.ireturn, 1) := by decide +kernel
theorem dX10_doesWant_0 : decode cX10_doesWant 0 = .ok (.aload_n 0, 1) := by decide +kernel
theorem dX10_doesWant_1 : decode cX10_doesWant 1 = .ok (.getfield 22, 3) := by decide +kernel
theorem dX10_doesWant_4 : decode cX10_doesWant 4 = .ok (.iload_n 2, 1) := by decide +kernel
theorem dX10_doesWant_5 : decode cX10_doesWant 5 = .ok (.iaload, 1) := by decide +kernel
theorem dX10_doesWant_6 : decode cX10_doesWant 6 = .ok (.istore_n 3, 1) := by decide +kernel
theorem dX10_doesWant_7 : decode cX10_doesWant 7 = .ok (.aload_n 0, 1) := by decide +kernel
theorem dX10_doesWant_8 : decode cX10_doesWant 8 = .ok (.getfield 61, 3) := by decide +kernel
theorem dX10_doesWant_11 : decode cX10_doesWant 11 = .ok (.iload_n 1, 1) := by decide +kernel
theorem dX10_doesWant_12 : decode cX10_doesWant 12 = .ok (.iaload, 1) := by decide +kernel
theorem dX10_doesWant_13 : decode cX10_doesWant 13 = .ok (.aload_n 0, 1) := by decide +kernel
theorem dX10_doesWant_14 : decode cX10_doesWant 14 = .ok (.getfield 13, 3) := by decide +kernel
theorem dX10_doesWant_17 : decode cX10_doesWant 17 = .ok (.iload_n 3, 1) := by decide +kernel
theorem dX10_doesWant_18 : decode cX10_doesWant 18 = .ok (.iaload, 1) := by decide +kernel
theorem dX10_doesWant_19 : decode cX10_doesWant 19 = .ok (.ishr, 1) := by decide +kernel
theorem dX10_doesWant_20 : decode cX10_doesWant 20 = .ok (.iconst 1, 1) := by decide +kernel
theorem dX10_doesWant_21 : decode cX10_doesWant 21 = .ok (.iand, 1) := by decide +kernel
theorem dX10_doesWant_22 : decode cX10_doesWant 22 = .ok (.iconst 1, 1) := by decide +kernel
theorem dX10_doesWant_23 : decode cX10_doesWant 23 = .ok (.if_icmp .ne 43, 3) := by decide +kernel
theorem dX10_doesWant_26 : decode cX10_doesWant 26 = .ok (.aload_n 0, 1) := by decide +kernel
theorem dX10_doesWant_27 : decode cX10_doesWant 27 = .ok (.getfield 16, 3) := by decide +kernel
theorem dX10_doesWant_30 : decode cX10_doesWant 30 = .ok (.iload_n 3, 1) := by decide +kernel
theorem dX10_doesWant_31 : decode cX10_doesWant 31 = .ok (.iaload, 1) := by decide +kernel
theorem dX10_doesWant_32 : decode cX10_doesWant 32 = .ok (.i2l, 1) := by decide +kernel
theorem dX10_doesWant_33 : decode cX10_doesWant 33 = .ok (.aload_n 0, 1) := by decide +kernel
theorem dX10_doesWant_34 : decode cX10_doesWant 34 = .ok (.getfield 64, 3) := by decide +kernel
theorem dX10_doesWant_37 : decode cX10_doesWant 37 = .ok (.iload_n 1, 1) := by decide +kernel
theorem dX10_doesWant_38 : decode cX10_doesWant 38 = .ok (.iaload, 1) := by decide +kernel
theorem dX10_doesWant_39 : decode cX10_doesWant 39 = .ok (.i2l, 1) := by decide +kernel
theorem dX10_doesWant_40 : decode cX10_doesWant 40 = .ok (.aload_n 0, 1) := by decide +kernel
theorem dX10_doesWant_41 : decode cX10_doesWant 41 = .ok (.getfield 67, 3) := by decide +kernel
theorem dX10_doesWant_44 : decode cX10_doesWant 44 = .ok (.iload_n 1, 1) := by decide +kernel
theorem dX10_doesWant_45 : decode cX10_doesWant 45 = .ok (.iaload, 1) := by decide +kernel
theorem dX10_doesWant_46 : decode cX10_doesWant 46 = .ok (.i2l, 1) := by decide +kernel
theorem dX10_doesWant_47 : decode cX10_doesWant 47 = .ok (.invokestatic 139, 3) := by decide +kernel
theorem dX10_doesWant_50 : decode cX10_doesWant 50 = .ok (.ifCond .eq 16, 3) := by decide +kernel
theorem dX10_doesWant_53 : decode cX10_doesWant 53 = .ok (.aload_n 0, 1) := by decide +kernel
theorem dX10_doesWant_54 : decode cX10_doesWant 54 = .ok (.iload_n 1, 1) := by decide +kernel
theorem dX10_doesWant_55 : decode cX10_doesWant 55 = .ok (.iload_n 2, 1) := by decide +kernel
theorem dX10_doesWant_56 : decode cX10_doesWant 56 = .ok (.invokevirtual 249, 3) := by decide +kernel
theorem dX10_doesWant_59 : decode cX10_doesWant 59 = .ok (.ifCond .eq 7, 3) := by decide +kernel
theorem dX10_doesWant_62 : decode cX10_doesWant 62 = .ok (.iconst 1, 1) := by decide +kernel
theorem dX10_doesWant_63 : decode cX10_doesWant 63 = .ok (.goto 4, 3) := by decide +kernel
theorem dX10_doesWant_66 : decode cX10_doesWant 66 = .ok (.iconst 0, 1) := by decide +kernel
theorem dX10_doesWant_67 : decode cX10_doesWant 67 = .ok (.ireturn, 1) := by decide +kernel
theorem dX10_isOrder_0 : decode cX10_isOrder 0 = .ok (.iload_n 1, 1) := by decide +kernel
theorem dX10_isOrder_1 : decode cX10_isOrder 1 = .ok (.i2l, 1) := by decide +kernel
theorem dX10_isOrder_2 : decode cX10_isOrder 2 = .ok (.lconst 0, 1) := by decide +kernel
theorem dX10_isOrder_3 : decode cX10_isOrder 3 = .ok (.aload_n 0, 1) := by decide +kernel
theorem dX10_isOrder_4 : decode cX10_isOrder 4 = .ok (.getfield 220, 3) := by decide +kernel
theorem dX10_isOrder_7 : decode cX10_isOrder 7 = .ok (.iconst 1, 1) := by decide +kernel
theorem dX10_isOrder_8 : decode cX10_isOrder 8 = .ok (.isub, 1) := by decide +kernel
theorem dX10_isOrder_9 : decode cX10_isOrder 9 = .ok (.i2l, 1) := by decide +kernel
theorem dX10_isOrder_10 : decode cX10_isOrder 10 = .ok (.invokestatic 139, 3) := by decide +kernel
theorem dX10_isOrder_13 : decode cX10_isOrder 13 = .ok (.ireturn, 1) := by decide +kernel
theorem dX10_wants_0 : decode cX10_wants 0 = .ok (.aload_n 0, 1) := by decide +kernel
theorem dX10_wants_1 : decode cX10_wants 1 = .ok (.iload_n 1, 1) := by decide +kernel
theorem dX10_wants_2 : decode cX10_wants 2 = .ok (.invokevirtual 252, 3) := by decide +kernel
theorem dX10_wants_5 : decode cX10_wants 5 = .ok (.ifCond .eq 11, 3) := by decide +kernel
theorem dX10_wants_8 : decode cX10_wants 8 = .ok (.aload_n 0, 1) := by decide +kernel
theorem dX10_wants_9 : decode cX10_wants 9 = .ok (.iload_n 2, 1) := by decide +kernel
theorem dX10_wants_10 : decode cX10_wants 10 = .ok (.invokevirtual 186, 3) := by decide +kernel
theorem dX10_wants_13 : decode cX10_wants 13 = .ok (.ifCond .ne 5, 3) := by decide +kernel
theorem dX10_wants_16 : decode cX10_wants 16 = .ok (.iconst (-1), 1) := by decide +kernel
theorem dX10_wants_17 : decode cX10_wants 17 = .ok (.ireturn, 1) := by decide +kernel
theorem dX10_wants_18 : decode cX10_wants 18 = .ok (.iload_n 3, 1) := by decide +kernel
theorem dX10_wants_19 : decode cX10_wants 19 = .ok (.i2l, 1) := by decide +kernel
theorem dX10_wants_20 : decode cX10_wants 20 = .ok (.lconst 0, 1) := by decide +kernel
theorem dX10_wants_21 : decode cX10_wants 21 = .ok (.lconst 1, 1) := by decide +kernel
theorem dX10_wants_22 : decode cX10_wants 22 = .ok (.invokestatic 139, 3) := by decide +kernel
theorem dX10_wants_25 : decode cX10_wants 25 = .ok (.ifCond .ne 6, 3) := by decide +kernel
theorem dX10_wants_28 : decode cX10_wants 28 = .ok (.bipush (-2), 2) := by decide +kernel
theorem dX10_wants_30 : decode cX10_wants 30 = .ok (.ireturn, 1) := by decide +kernel
theorem dX10_wants_31 : decode cX10_wants 31 = .ok (.iload_n 3, 1) := by decide +kernel
theorem dX10_wants_32 : decode cX10_wants 32 = .ok (.ifCond .ne 12, 3) := by decide +kernel
theorem dX10_wants_35 : decode cX10_wants 35 = .ok (.aload_n 0, 1) := by decide +kernel
theorem dX10_wants_36 : decode cX10_wants 36 = .ok (.iload_n 1, 1) := by decide +kernel
theorem dX10_wants_37 : decode cX10_wants 37 = .ok (.iload_n 2, 1) := by decide +kernel
theorem dX10_wants_38 : decode cX10_wants 38 = .ok (.invokevirtual 255, 3) := by decide +kernel
theorem dX10_wants_41 : decode cX10_wants 41 = .ok (.goto 9, 3) := by decide +kernel
theorem dX10_wants_44 : decode cX10_wants 44 = .ok (.aload_n 0, 1) := by decide +kernel
theorem dX10_wants_45 : decode cX10_wants 45 = .ok (.iload_n 1, 1) := by decide +kernel
theorem dX10_wants_46 : decode cX10_wants 46 = .ok (.iload_n 2, 1) := by decide +kernel
theorem dX10_wants_47 : decode cX10_wants 47 = .ok (.invokevirtual 249, 3) := by decide +kernel
theorem dX10_wants_50 : decode cX10_wants 50 = .ok (.istore 4, 2) := by decide +kernel
theorem dX10_wants_52 : decode cX10_wants 52 = .ok (.iload 4, 2) := by decide +kernel
theorem dX10_wants_54 : decode cX10_wants 54 = .ok (.ifCond .eq 7, 3) := by decide +kernel
theorem dX10_wants_57 : decode cX10_wants 57 = .ok (.iconst 1, 1) := by decide +kernel
theorem dX10_wants_58 : decode cX10_wants 58 = .ok (.goto 4, 3) := by decide +kernel
theorem dX10_wants_61 : decode cX10_wants 61 = .ok (.iconst 0, 1) := by decide +kernel
theorem dX10_wants_62 : decode cX10_wants 62 = .ok (.ireturn, 1) := by decide +kernel
theorem dX10_changes_0 : decode cX10_changes 0 = .ok (.aload_n 0, 1) := by decide +kernel
theorem dX10_changes_1 : decode cX10_changes 1 = .ok (.iload_n 1, 1) := by decide +kernel
theorem dX10_changes_2 : decode cX10_changes 2 = .ok (.invokevirtual 186, 3) := by decide +kernel
theorem dX10_changes_5 : decode cX10_changes 5 = .ok (.ifCond .eq 20, 3) := by decide +kernel
theorem dX10_changes_8 : decode cX10_changes 8 = .ok (.aload_n 0, 1) := by decide +kernel
theorem dX10_changes_9 : decode cX10_changes 9 = .ok (.iload_n 2, 1) := by decide +kernel
theorem dX10_changes_10 : decode cX10_changes 10 = .ok (.invokevirtual 186, 3) := by decide +kernel
theorem dX10_changes_13 : decode cX10_changes 13 = .ok (.ifCond .eq 12, 3) := by decide +kernel
theorem dX10_changes_16 : decode cX10_changes 16 = .ok (.aload_n 0, 1) := by decide +kernel
theorem dX10_changes_17 : decode cX10_changes 17 = .ok (.iload_n 1, 1) := by decide +kernel
theorem dX10_changes_18 : decode cX10_changes 18 = .ok (.iload_n 2, 1) := by decide +kernel
theorem dX10_changes_19 : decode cX10_changes 19 = .ok (.invokevirtual 262, 3) := by decide +kernel
theorem dX10_changes_22 : decode cX10_changes 22 = .ok (.goto 4, 3) := by decide +kernel
theorem dX10_changes_25 : decode cX10_changes 25 = .ok (.iconst (-1), 1) := by decide +kernel
theorem dX10_changes_26 : decode cX10_changes 26 = .ok (.ireturn, 1) := by decide +kernel
theorem dX10_leastOf_0 : decode cX10_leastOf 0 = .ok (.iload_n 0, 1) := by decide +kernel
theorem dX10_leastOf_1 : decode cX10_leastOf 1 = .ok (.iconst 2, 1) := by decide +kernel
theorem dX10_leastOf_2 : decode cX10_leastOf 2 = .ok (.if_icmp .eq 8, 3) := by decide +kernel
theorem dX10_leastOf_5 : decode cX10_leastOf 5 = .ok (.iload_n 0, 1) := by decide +kernel
theorem dX10_leastOf_6 : decode cX10_leastOf 6 = .ok (.iconst 4, 1) := by decide +kernel
theorem dX10_leastOf_7 : decode cX10_leastOf 7 = .ok (.if_icmp .ne 7, 3) := by decide +kernel
theorem dX10_leastOf_10 : decode cX10_leastOf 10 = .ok (.iconst 1, 1) := by decide +kernel
theorem dX10_leastOf_11 : decode cX10_leastOf 11 = .ok (.goto 4, 3) := by decide +kernel
theorem dX10_leastOf_14 : decode cX10_leastOf 14 = .ok (.iconst 0, 1) := by decide +kernel
theorem dX10_leastOf_15 : decode cX10_leastOf 15 = .ok (.ireturn, 1) := by decide +kernel
theorem dX10_greatestOf_0 : decode cX10_greatestOf 0 = .ok (.iload_n 0, 1) := by decide +kernel
theorem dX10_greatestOf_1 : decode cX10_greatestOf 1 = .ok (.ifCond .eq 8, 3) := by decide +kernel
theorem dX10_greatestOf_4 : decode cX10_greatestOf 4 = .ok (.iload_n 0, 1) := by decide +kernel
theorem dX10_greatestOf_5 : decode cX10_greatestOf 5 = .ok (.iconst 4, 1) := by decide +kernel
theorem dX10_greatestOf_6 : decode cX10_greatestOf 6 = .ok (.if_icmp .ne 8, 3) := by decide +kernel
theorem dX10_greatestOf_9 : decode cX10_greatestOf 9 = .ok (.bipush 100, 2) := by decide +kernel
theorem dX10_greatestOf_11 : decode cX10_greatestOf 11 = .ok (.goto 16, 3) := by decide +kernel
theorem dX10_greatestOf_14 : decode cX10_greatestOf 14 = .ok (.iload_n 0, 1) := by decide +kernel
theorem dX10_greatestOf_15 : decode cX10_greatestOf 15 = .ok (.iconst 1, 1) := by decide +kernel
theorem dX10_greatestOf_16 : decode cX10_greatestOf 16 = .ok (.if_icmp .ne 8, 3) := by decide +kernel
theorem dX10_greatestOf_19 : decode cX10_greatestOf 19 = .ok (.bipush 20, 2) := by decide +kernel
theorem dX10_greatestOf_21 : decode cX10_greatestOf 21 = .ok (.goto 6, 3) := by decide +kernel
theorem dX10_greatestOf_24 : decode cX10_greatestOf 24 = .ok (.sipush 1000, 3) := by decide +kernel
theorem dX10_greatestOf_27 : decode cX10_greatestOf 27 = .ok (.ireturn, 1) := by decide +kernel
theorem dX10_set_0 : decode cX10_set 0 = .ok (.iload_n 1, 1) := by decide +kernel
theorem dX10_set_1 : decode cX10_set 1 = .ok (.i2l, 1) := by decide +kernel
theorem dX10_set_2 : decode cX10_set 2 = .ok (.lconst 0, 1) := by decide +kernel
theorem dX10_set_3 : decode cX10_set 3 = .ok (.ldc2_w 275, 3) := by decide +kernel
theorem dX10_set_6 : decode cX10_set 6 = .ok (.invokestatic 139, 3) := by decide +kernel
theorem dX10_set_9 : decode cX10_set 9 = .ok (.ifCond .eq 21, 3) := by decide +kernel
theorem dX10_set_12 : decode cX10_set 12 = .ok (.iload_n 2, 1) := by decide +kernel
theorem dX10_set_13 : decode cX10_set 13 = .ok (.i2l, 1) := by decide +kernel
theorem dX10_set_14 : decode cX10_set 14 = .ok (.iload_n 1, 1) := by decide +kernel
theorem dX10_set_15 : decode cX10_set 15 = .ok (.invokestatic 277, 3) := by decide +kernel
theorem dX10_set_18 : decode cX10_set 18 = .ok (.i2l, 1) := by decide +kernel
theorem dX10_set_19 : decode cX10_set 19 = .ok (.iload_n 1, 1) := by decide +kernel
theorem dX10_set_20 : decode cX10_set 20 = .ok (.invokestatic 280, 3) := by decide +kernel
theorem dX10_set_23 : decode cX10_set 23 = .ok (.i2l, 1) := by decide +kernel
theorem dX10_set_24 : decode cX10_set 24 = .ok (.invokestatic 139, 3) := by decide +kernel
theorem dX10_set_27 : decode cX10_set 27 = .ok (.ifCond .ne 6, 3) := by decide +kernel
theorem dX10_set_30 : decode cX10_set 30 = .ok (.bipush (-2), 2) := by decide +kernel
theorem dX10_set_32 : decode cX10_set 32 = .ok (.ireturn, 1) := by decide +kernel
theorem dX10_set_33 : decode cX10_set 33 = .ok (.aload_n 0, 1) := by decide +kernel
theorem dX10_set_34 : decode cX10_set 34 = .ok (.getfield 43, 3) := by decide +kernel
theorem dX10_set_37 : decode cX10_set 37 = .ok (.iload_n 1, 1) := by decide +kernel
theorem dX10_set_38 : decode cX10_set 38 = .ok (.iaload, 1) := by decide +kernel
theorem dX10_set_39 : decode cX10_set 39 = .ok (.istore_n 3, 1) := by decide +kernel
theorem dX10_set_40 : decode cX10_set 40 = .ok (.aload_n 0, 1) := by decide +kernel
theorem dX10_set_41 : decode cX10_set 41 = .ok (.getfield 43, 3) := by decide +kernel
theorem dX10_set_44 : decode cX10_set 44 = .ok (.iload_n 1, 1) := by decide +kernel
theorem dX10_set_45 : decode cX10_set 45 = .ok (.iload_n 2, 1) := by decide +kernel
theorem dX10_set_46 : decode cX10_set 46 = .ok (.iastore, 1) := by decide +kernel
theorem dX10_set_47 : decode cX10_set 47 = .ok (.aload_n 0, 1) := by decide +kernel
theorem dX10_set_48 : decode cX10_set 48 = .ok (.iconst 0, 1) := by decide +kernel
theorem dX10_set_49 : decode cX10_set 49 = .ok (.putfield 166, 3) := by decide +kernel
theorem dX10_set_52 : decode cX10_set 52 = .ok (.iload_n 3, 1) := by decide +kernel
theorem dX10_set_53 : decode cX10_set 53 = .ok (.ireturn, 1) := by decide +kernel
theorem dX10_isDoubled_0 : decode cX10_isDoubled 0 = .ok (.aload_n 0, 1) := by decide +kernel
theorem dX10_isDoubled_1 : decode cX10_isDoubled 1 = .ok (.iload_n 1, 1) := by decide +kernel
theorem dX10_isDoubled_2 : decode cX10_isDoubled 2 = .ok (.invokevirtual 189, 3) := by decide +kernel
theorem dX10_isDoubled_5 : decode cX10_isDoubled 5 = .ok (.pop, 1) := by decide +kernel
theorem dX10_isDoubled_6 : decode cX10_isDoubled 6 = .ok (.iconst 0, 1) := by decide +kernel
theorem dX10_isDoubled_7 : decode cX10_isDoubled 7 = .ok (.istore_n 2, 1) := by decide +kernel
theorem dX10_isDoubled_8 : decode cX10_isDoubled 8 = .ok (.iconst 0, 1) := by decide +kernel
theorem dX10_isDoubled_9 : decode cX10_isDoubled 9 = .ok (.istore_n 3, 1) := by decide +kernel
theorem dX10_isDoubled_10 : decode cX10_isDoubled 10 = .ok (.iload_n 3, 1) := by decide +kernel
theorem dX10_isDoubled_11 : decode cX10_isDoubled 11 = .ok (.aload_n 0, 1) := by decide +kernel
theorem dX10_isDoubled_12 : decode cX10_isDoubled 12 = .ok (.getfield 147, 3) := by decide +kernel
theorem dX10_isDoubled_15 : decode cX10_isDoubled 15 = .ok (.if_icmp .ge 51, 3) := by decide +kernel
theorem dX10_isDoubled_18 : decode cX10_isDoubled 18 = .ok (.iload_n 2, 1) := by decide +kernel
theorem dX10_isDoubled_19 : decode cX10_isDoubled 19 = .ok (.ifCond .ne 35, 3) := by decide +kernel
theorem dX10_isDoubled_22 : decode cX10_isDoubled 22 = .ok (.aload_n 0, 1) := by decide +kernel
theorem dX10_isDoubled_23 : decode cX10_isDoubled 23 = .ok (.getfield 89, 3) := by decide +kernel
theorem dX10_isDoubled_26 : decode cX10_isDoubled 26 = .ok (.iload_n 3, 1) := by decide +kernel
theorem dX10_isDoubled_27 : decode cX10_isDoubled 27 = .ok (.baload, 1) := by decide +kernel
theorem dX10_isDoubled_28 : decode cX10_isDoubled 28 = .ok (.ifCond .eq 30, 3) := by decide +kernel
theorem dX10_isDoubled_31 : decode cX10_isDoubled 31 = .ok (.iload_n 3, 1) := by decide +kernel
theorem dX10_isDoubled_32 : decode cX10_isDoubled 32 = .ok (.iload_n 1, 1) := by decide +kernel
theorem dX10_isDoubled_33 : decode cX10_isDoubled 33 = .ok (.if_icmp .eq 25, 3) := by decide +kernel
theorem dX10_isDoubled_36 : decode cX10_isDoubled 36 = .ok (.aload_n 0, 1) := by decide +kernel
theorem dX10_isDoubled_37 : decode cX10_isDoubled 37 = .ok (.iload_n 3, 1) := by decide +kernel
theorem dX10_isDoubled_38 : decode cX10_isDoubled 38 = .ok (.iload_n 1, 1) := by decide +kernel
theorem dX10_isDoubled_39 : decode cX10_isDoubled 39 = .ok (.invokevirtual 272, 3) := by decide +kernel
theorem dX10_isDoubled_42 : decode cX10_isDoubled 42 = .ok (.ifCond .eq 16, 3) := by decide +kernel
theorem dX10_isDoubled_45 : decode cX10_isDoubled 45 = .ok (.aload_n 0, 1) := by decide +kernel
theorem dX10_isDoubled_46 : decode cX10_isDoubled 46 = .ok (.getfield 98, 3) := by decide +kernel
theorem dX10_isDoubled_49 : decode cX10_isDoubled 49 = .ok (.iload_n 3, 1) := by decide +kernel
theorem dX10_isDoubled_50 : decode cX10_isDoubled 50 = .ok (.baload, 1) := by decide +kernel
theorem dX10_isDoubled_51 : decode cX10_isDoubled 51 = .ok (.ifCond .eq 7, 3) := by decide +kernel
theorem dX10_isDoubled_54 : decode cX10_isDoubled 54 = .ok (.iconst 1, 1) := by decide +kernel
theorem dX10_isDoubled_55 : decode cX10_isDoubled 55 = .ok (.goto 4, 3) := by decide +kernel
theorem dX10_isDoubled_58 : decode cX10_isDoubled 58 = .ok (.iconst 0, 1) := by decide +kernel
theorem dX10_isDoubled_59 : decode cX10_isDoubled 59 = .ok (.istore_n 2, 1) := by decide +kernel
theorem dX10_isDoubled_60 : decode cX10_isDoubled 60 = .ok (.iinc 3 1, 3) := by decide +kernel
theorem dX10_isDoubled_63 : decode cX10_isDoubled 63 = .ok (.goto (-53), 3) := by decide +kernel
theorem dX10_isDoubled_66 : decode cX10_isDoubled 66 = .ok (.iload_n 2, 1) := by decide +kernel
theorem dX10_isDoubled_67 : decode cX10_isDoubled 67 = .ok (.ireturn, 1) := by decide +kernel
theorem dX10_findList_0 : decode cX10_findList 0 = .ok (.aload_n 0, 1) := by decide +kernel
theorem dX10_findList_1 : decode cX10_findList 1 = .ok (.iconst 0, 1) := by decide +kernel
theorem dX10_findList_2 : decode cX10_findList 2 = .ok (.putfield 283, 3) := by decide +kernel
theorem dX10_findList_5 : decode cX10_findList 5 = .ok (.iconst 0, 1) := by decide +kernel
theorem dX10_findList_6 : decode cX10_findList 6 = .ok (.istore_n 3, 1) := by decide +kernel
theorem dX10_findList_7 : decode cX10_findList 7 = .ok (.iload_n 3, 1) := by decide +kernel
theorem dX10_findList_8 : decode cX10_findList 8 = .ok (.aload_n 0, 1) := by decide +kernel
theorem dX10_findList_9 : decode cX10_findList 9 = .ok (.getfield 147, 3) := by decide +kernel
theorem dX10_findList_12 : decode cX10_findList 12 = .ok (.if_icmp .ge 53, 3) := by decide +kernel
theorem dX10_findList_15 : decode cX10_findList 15 = .ok (.aload_n 0, 1) := by decide +kernel
theorem dX10_findList_16 : decode cX10_findList 16 = .ok (.getfield 98, 3) := by decide +kernel
theorem dX10_findList_19 : decode cX10_findList 19 = .ok (.iload_n 3, 1) := by decide +kernel
theorem dX10_findList_20 : decode cX10_findList 20 = .ok (.aload_n 0, 1) := by decide +kernel
theorem dX10_findList_21 : decode cX10_findList 21 = .ok (.getfield 73, 3) := by decide +kernel
theorem dX10_findList_24 : decode cX10_findList 24 = .ok (.iload_n 1, 1) := by decide +kernel
theorem dX10_findList_25 : decode cX10_findList 25 = .ok (.baload, 1) := by decide +kernel
theorem dX10_findList_26 : decode cX10_findList 26 = .ok (.ifCond .ne 18, 3) := by decide +kernel
theorem dX10_findList_29 : decode cX10_findList 29 = .ok (.aload_n 0, 1) := by decide +kernel
theorem dX10_findList_30 : decode cX10_findList 30 = .ok (.getfield 16, 3) := by decide +kernel
theorem dX10_findList_33 : decode cX10_findList 33 = .ok (.aload_n 0, 1) := by decide +kernel
theorem dX10_findList_34 : decode cX10_findList 34 = .ok (.getfield 22, 3) := by decide +kernel
theorem dX10_findList_37 : decode cX10_findList 37 = .ok (.iload_n 3, 1) := by decide +kernel
theorem dX10_findList_38 : decode cX10_findList 38 = .ok (.iaload, 1) := by decide +kernel
theorem dX10_findList_39 : decode cX10_findList 39 = .ok (.iaload, 1) := by decide +kernel
theorem dX10_findList_40 : decode cX10_findList 40 = .ok (.iload_n 2, 1) := by decide +kernel
theorem dX10_findList_41 : decode cX10_findList 41 = .ok (.if_icmp .ne 16, 3) := by decide +kernel
theorem dX10_findList_44 : decode cX10_findList 44 = .ok (.aload_n 0, 1) := by decide +kernel
theorem dX10_findList_45 : decode cX10_findList 45 = .ok (.iload_n 1, 1) := by decide +kernel
theorem dX10_findList_46 : decode cX10_findList 46 = .ok (.iload_n 3, 1) := by decide +kernel
theorem dX10_findList_47 : decode cX10_findList 47 = .ok (.invokevirtual 255, 3) := by decide +kernel
theorem dX10_findList_50 : decode cX10_findList 50 = .ok (.ifCond .eq 7, 3) := by decide +kernel
theorem dX10_findList_53 : decode cX10_findList 53 = .ok (.iconst 1, 1) := by decide +kernel
theorem dX10_findList_54 : decode cX10_findList 54 = .ok (.goto 4, 3) := by decide +kernel
theorem dX10_findList_57 : decode cX10_findList 57 = .ok (.iconst 0, 1) := by decide +kernel
theorem dX10_findList_58 : decode cX10_findList 58 = .ok (.bastore, 1) := by decide +kernel
theorem dX10_findList_59 : decode cX10_findList 59 = .ok (.iinc 3 1, 3) := by decide +kernel
theorem dX10_findList_62 : decode cX10_findList 62 = .ok (.goto (-55), 3) := by decide +kernel
theorem dX10_findList_65 : decode cX10_findList 65 = .ok (.iconst 0, 1) := by decide +kernel
theorem dX10_findList_66 : decode cX10_findList 66 = .ok (.istore_n 3, 1) := by decide +kernel
theorem dX10_findList_67 : decode cX10_findList 67 = .ok (.iload_n 3, 1) := by decide +kernel
theorem dX10_findList_68 : decode cX10_findList 68 = .ok (.bipush 10, 2) := by decide +kernel
theorem dX10_findList_70 : decode cX10_findList 70 = .ok (.if_icmp .ge 133, 3) := by decide +kernel
theorem dX10_findList_73 : decode cX10_findList 73 = .ok (.iconst 0, 1) := by decide +kernel
theorem dX10_findList_74 : decode cX10_findList 74 = .ok (.istore 4, 2) := by decide +kernel
theorem dX10_findList_76 : decode cX10_findList 76 = .ok (.iload 4, 2) := by decide +kernel
theorem dX10_findList_78 : decode cX10_findList 78 = .ok (.aload_n 0, 1) := by decide +kernel
theorem dX10_findList_79 : decode cX10_findList 79 = .ok (.getfield 147, 3) := by decide +kernel
theorem dX10_findList_82 : decode cX10_findList 82 = .ok (.if_icmp .ge 115, 3) := by decide +kernel
theorem dX10_findList_85 : decode cX10_findList 85 = .ok (.aload_n 0, 1) := by decide +kernel
theorem dX10_findList_86 : decode cX10_findList 86 = .ok (.getfield 16, 3) := by decide +kernel
theorem dX10_findList_89 : decode cX10_findList 89 = .ok (.aload_n 0, 1) := by decide +kernel
theorem dX10_findList_90 : decode cX10_findList 90 = .ok (.getfield 22, 3) := by decide +kernel
theorem dX10_findList_93 : decode cX10_findList 93 = .ok (.iload 4, 2) := by decide +kernel
theorem dX10_findList_95 : decode cX10_findList 95 = .ok (.iaload, 1) := by decide +kernel
theorem dX10_findList_96 : decode cX10_findList 96 = .ok (.iaload, 1) := by decide +kernel
theorem dX10_findList_97 : decode cX10_findList 97 = .ok (.iload_n 2, 1) := by decide +kernel
theorem dX10_findList_98 : decode cX10_findList 98 = .ok (.if_icmp .ne 36, 3) := by decide +kernel
theorem dX10_findList_101 : decode cX10_findList 101 = .ok (.aload_n 0, 1) := by decide +kernel
theorem dX10_findList_102 : decode cX10_findList 102 = .ok (.getfield 13, 3) := by decide +kernel
theorem dX10_findList_105 : decode cX10_findList 105 = .ok (.aload_n 0, 1) := by decide +kernel
theorem dX10_findList_106 : decode cX10_findList 106 = .ok (.getfield 22, 3) := by decide +kernel
theorem dX10_findList_109 : decode cX10_findList 109 = .ok (.iload 4, 2) := by decide +kernel
theorem dX10_findList_111 : decode cX10_findList 111 = .ok (.iaload, 1) := by decide +kernel
theorem dX10_findList_112 : decode cX10_findList 112 = .ok (.iaload, 1) := by decide +kernel
theorem dX10_findList_113 : decode cX10_findList 113 = .ok (.iload_n 3, 1) := by decide +kernel
theorem dX10_findList_114 : decode cX10_findList 114 = .ok (.if_icmp .ne 20, 3) := by decide +kernel
theorem dX10_findList_117 : decode cX10_findList 117 = .ok (.aload_n 0, 1) := by decide +kernel
theorem dX10_findList_118 : decode cX10_findList 118 = .ok (.getfield 283, 3) := by decide +kernel
theorem dX10_findList_121 : decode cX10_findList 121 = .ok (.aload_n 0, 1) := by decide +kernel
theorem dX10_findList_122 : decode cX10_findList 122 = .ok (.getfield 70, 3) := by decide +kernel
theorem dX10_findList_125 : decode cX10_findList 125 = .ok (.iload_n 1, 1) := by decide +kernel
theorem dX10_findList_126 : decode cX10_findList 126 = .ok (.iaload, 1) := by decide +kernel
theorem dX10_findList_127 : decode cX10_findList 127 = .ok (.if_icmp .ge 7, 3) := by decide +kernel
theorem dX10_findList_130 : decode cX10_findList 130 = .ok (.iconst 1, 1) := by decide +kernel
theorem dX10_findList_131 : decode cX10_findList 131 = .ok (.goto 4, 3) := by decide +kernel
theorem dX10_findList_134 : decode cX10_findList 134 = .ok (.iconst 0, 1) := by decide +kernel
theorem dX10_findList_135 : decode cX10_findList 135 = .ok (.istore 5, 2) := by decide +kernel
theorem dX10_findList_137 : decode cX10_findList 137 = .ok (.iload 5, 2) := by decide +kernel
theorem dX10_findList_139 : decode cX10_findList 139 = .ok (.ifCond .eq 52, 3) := by decide +kernel
theorem dX10_findList_142 : decode cX10_findList 142 = .ok (.aload_n 0, 1) := by decide +kernel
theorem dX10_findList_143 : decode cX10_findList 143 = .ok (.getfield 98, 3) := by decide +kernel
theorem dX10_findList_146 : decode cX10_findList 146 = .ok (.iload 4, 2) := by decide +kernel
theorem dX10_findList_148 : decode cX10_findList 148 = .ok (.baload, 1) := by decide +kernel
theorem dX10_findList_149 : decode cX10_findList 149 = .ok (.ifCond .eq 42, 3) := by decide +kernel
theorem dX10_findList_152 : decode cX10_findList 152 = .ok (.aload_n 0, 1) := by decide +kernel
theorem dX10_findList_153 : decode cX10_findList 153 = .ok (.getfield 73, 3) := by decide +kernel
theorem dX10_findList_156 : decode cX10_findList 156 = .ok (.iload_n 1, 1) := by decide +kernel
theorem dX10_findList_157 : decode cX10_findList 157 = .ok (.baload, 1) := by decide +kernel
theorem dX10_findList_158 : decode cX10_findList 158 = .ok (.ifCond .eq 12, 3) := by decide +kernel
theorem dX10_findList_161 : decode cX10_findList 161 = .ok (.aload_n 0, 1) := by decide +kernel
theorem dX10_findList_162 : decode cX10_findList 162 = .ok (.iload 4, 2) := by decide +kernel
theorem dX10_findList_164 : decode cX10_findList 164 = .ok (.invokevirtual 286, 3) := by decide +kernel
theorem dX10_findList_167 : decode cX10_findList 167 = .ok (.ifCond .ne 24, 3) := by decide +kernel
theorem dX10_findList_170 : decode cX10_findList 170 = .ok (.aload_n 0, 1) := by decide +kernel
theorem dX10_findList_171 : decode cX10_findList 171 = .ok (.getfield 95, 3) := by decide +kernel
theorem dX10_findList_174 : decode cX10_findList 174 = .ok (.aload_n 0, 1) := by decide +kernel
theorem dX10_findList_175 : decode cX10_findList 175 = .ok (.getfield 283, 3) := by decide +kernel
theorem dX10_findList_178 : decode cX10_findList 178 = .ok (.iload 4, 2) := by decide +kernel
theorem dX10_findList_180 : decode cX10_findList 180 = .ok (.iastore, 1) := by decide +kernel
theorem dX10_findList_181 : decode cX10_findList 181 = .ok (.aload_n 0, 1) := by decide +kernel
theorem dX10_findList_182 : decode cX10_findList 182 = .ok (.dup, 1) := by decide +kernel
theorem dX10_findList_183 : decode cX10_findList 183 = .ok (.getfield 283, 3) := by decide +kernel
theorem dX10_findList_186 : decode cX10_findList 186 = .ok (.iconst 1, 1) := by decide +kernel
theorem dX10_findList_187 : decode cX10_findList 187 = .ok (.iadd, 1) := by decide +kernel
theorem dX10_findList_188 : decode cX10_findList 188 = .ok (.putfield 283, 3) := by decide +kernel
theorem dX10_findList_191 : decode cX10_findList 191 = .ok (.iinc 4 1, 3) := by decide +kernel
theorem dX10_findList_194 : decode cX10_findList 194 = .ok (.goto (-118), 3) := by decide +kernel
theorem dX10_findList_197 : decode cX10_findList 197 = .ok (.iinc 3 1, 3) := by decide +kernel
theorem dX10_findList_200 : decode cX10_findList 200 = .ok (.goto (-133), 3) := by decide +kernel
theorem dX10_findList_203 : decode cX10_findList 203 = .ok (.return_, 1) := by decide +kernel
theorem dX10_list_0 : decode cX10_list 0 = .ok (.aload_n 0, 1) := by decide +kernel
theorem dX10_list_1 : decode cX10_list 1 = .ok (.iload_n 1, 1) := by decide +kernel
theorem dX10_list_2 : decode cX10_list 2 = .ok (.invokevirtual 252, 3) := by decide +kernel
theorem dX10_list_5 : decode cX10_list 5 = .ok (.ifCond .ne 5, 3) := by decide +kernel
theorem dX10_list_8 : decode cX10_list 8 = .ok (.iconst (-1), 1) := by decide +kernel
theorem dX10_list_9 : decode cX10_list 9 = .ok (.ireturn, 1) := by decide +kernel
theorem dX10_list_10 : decode cX10_list 10 = .ok (.iload_n 2, 1) := by decide +kernel
theorem dX10_list_11 : decode cX10_list 11 = .ok (.invokestatic 152, 3) := by decide +kernel
theorem dX10_list_14 : decode cX10_list 14 = .ok (.ifCond .ne 6, 3) := by decide +kernel
theorem dX10_list_17 : decode cX10_list 17 = .ok (.bipush (-2), 2) := by decide +kernel
theorem dX10_list_19 : decode cX10_list 19 = .ok (.ireturn, 1) := by decide +kernel
theorem dX10_list_20 : decode cX10_list 20 = .ok (.aload_n 0, 1) := by decide +kernel
theorem dX10_list_21 : decode cX10_list 21 = .ok (.iload_n 1, 1) := by decide +kernel
theorem dX10_list_22 : decode cX10_list 22 = .ok (.iload_n 2, 1) := by decide +kernel
theorem dX10_list_23 : decode cX10_list 23 = .ok (.invokevirtual 289, 3) := by decide +kernel
theorem dX10_list_26 : decode cX10_list 26 = .ok (.iload_n 3, 1) := by decide +kernel
theorem dX10_list_27 : decode cX10_list 27 = .ok (.iconst (-1), 1) := by decide +kernel
theorem dX10_list_28 : decode cX10_list 28 = .ok (.if_icmp .ne 10, 3) := by decide +kernel
theorem dX10_list_31 : decode cX10_list 31 = .ok (.aload_n 0, 1) := by decide +kernel
theorem dX10_list_32 : decode cX10_list 32 = .ok (.getfield 283, 3) := by decide +kernel
theorem dX10_list_35 : decode cX10_list 35 = .ok (.goto 30, 3) := by decide +kernel
theorem dX10_list_38 : decode cX10_list 38 = .ok (.iload_n 3, 1) := by decide +kernel
theorem dX10_list_39 : decode cX10_list 39 = .ok (.i2l, 1) := by decide +kernel
theorem dX10_list_40 : decode cX10_list 40 = .ok (.lconst 0, 1) := by decide +kernel
theorem dX10_list_41 : decode cX10_list 41 = .ok (.aload_n 0, 1) := by decide +kernel
theorem dX10_list_42 : decode cX10_list 42 = .ok (.getfield 283, 3) := by decide +kernel
theorem dX10_list_45 : decode cX10_list 45 = .ok (.iconst 1, 1) := by decide +kernel
theorem dX10_list_46 : decode cX10_list 46 = .ok (.isub, 1) := by decide +kernel
theorem dX10_list_47 : decode cX10_list 47 = .ok (.i2l, 1) := by decide +kernel
theorem dX10_list_48 : decode cX10_list 48 = .ok (.invokestatic 139, 3) := by decide +kernel
theorem dX10_list_51 : decode cX10_list 51 = .ok (.ifCond .eq 12, 3) := by decide +kernel
theorem dX10_list_54 : decode cX10_list 54 = .ok (.aload_n 0, 1) := by decide +kernel
theorem dX10_list_55 : decode cX10_list 55 = .ok (.getfield 95, 3) := by decide +kernel
theorem dX10_list_58 : decode cX10_list 58 = .ok (.iload_n 3, 1) := by decide +kernel
theorem dX10_list_59 : decode cX10_list 59 = .ok (.iaload, 1) := by decide +kernel
theorem dX10_list_60 : decode cX10_list 60 = .ok (.goto 5, 3) := by decide +kernel
theorem dX10_list_63 : decode cX10_list 63 = .ok (.bipush (-6), 2) := by decide +kernel
theorem dX10_list_65 : decode cX10_list 65 = .ok (.ireturn, 1) := by decide +kernel
theorem dX10_isName_0 : decode cX10_isName 0 = .ok (.iload_n 0, 1) := by decide +kernel
theorem dX10_isName_1 : decode cX10_isName 1 = .ok (.i2l, 1) := by decide +kernel
theorem dX10_isName_2 : decode cX10_isName 2 = .ok (.lconst 0, 1) := by decide +kernel
theorem dX10_isName_3 : decode cX10_isName 3 = .ok (.ldc2_w 292, 3) := by decide +kernel
theorem dX10_isName_6 : decode cX10_isName 6 = .ok (.invokestatic 139, 3) := by decide +kernel
theorem dX10_isName_9 : decode cX10_isName 9 = .ok (.ireturn, 1) := by decide +kernel
theorem dX10_name_0 : decode cX10_name 0 = .ok (.iload_n 1, 1) := by decide +kernel
theorem dX10_name_1 : decode cX10_name 1 = .ok (.invokestatic 294, 3) := by decide +kernel
theorem dX10_name_4 : decode cX10_name 4 = .ok (.ifCond .ne 5, 3) := by decide +kernel
theorem dX10_name_7 : decode cX10_name 7 = .ok (.iconst (-1), 1) := by decide +kernel
theorem dX10_name_8 : decode cX10_name 8 = .ok (.ireturn, 1) := by decide +kernel
theorem dX10_name_9 : decode cX10_name 9 = .ok (.iload_n 2, 1) := by decide +kernel
theorem dX10_name_10 : decode cX10_name 10 = .ok (.i2l, 1) := by decide +kernel
theorem dX10_name_11 : decode cX10_name 11 = .ok (.ldc2_w 161, 3) := by decide +kernel
theorem dX10_name_14 : decode cX10_name 14 = .ok (.ldc2_w 137, 3) := by decide +kernel
theorem dX10_name_17 : decode cX10_name 17 = .ok (.invokestatic 139, 3) := by decide +kernel
theorem dX10_name_20 : decode cX10_name 20 = .ok (.ifCond .ne 6, 3) := by decide +kernel
theorem dX10_name_23 : decode cX10_name 23 = .ok (.bipush (-2), 2) := by decide +kernel
theorem dX10_name_25 : decode cX10_name 25 = .ok (.ireturn, 1) := by decide +kernel
theorem dX10_name_26 : decode cX10_name 26 = .ok (.aload_n 0, 1) := by decide +kernel
theorem dX10_name_27 : decode cX10_name 27 = .ok (.getfield 101, 3) := by decide +kernel
theorem dX10_name_30 : decode cX10_name 30 = .ok (.iload_n 1, 1) := by decide +kernel
theorem dX10_name_31 : decode cX10_name 31 = .ok (.iaload, 1) := by decide +kernel
theorem dX10_name_32 : decode cX10_name 32 = .ok (.istore_n 3, 1) := by decide +kernel
theorem dX10_name_33 : decode cX10_name 33 = .ok (.aload_n 0, 1) := by decide +kernel
theorem dX10_name_34 : decode cX10_name 34 = .ok (.getfield 101, 3) := by decide +kernel
theorem dX10_name_37 : decode cX10_name 37 = .ok (.iload_n 1, 1) := by decide +kernel
theorem dX10_name_38 : decode cX10_name 38 = .ok (.iload_n 2, 1) := by decide +kernel
theorem dX10_name_39 : decode cX10_name 39 = .ok (.ifCond .ge 8, 3) := by decide +kernel
theorem dX10_name_42 : decode cX10_name 42 = .ok (.bipush (-6), 2) := by decide +kernel
theorem dX10_name_44 : decode cX10_name 44 = .ok (.goto 4, 3) := by decide +kernel
theorem dX10_name_47 : decode cX10_name 47 = .ok (.iload_n 2, 1) := by decide +kernel
theorem dX10_name_48 : decode cX10_name 48 = .ok (.iastore, 1) := by decide +kernel
theorem dX10_name_49 : decode cX10_name 49 = .ok (.iload_n 3, 1) := by decide +kernel
theorem dX10_name_50 : decode cX10_name 50 = .ok (.ireturn, 1) := by decide +kernel
theorem dX10_counts_0 : decode cX10_counts 0 = .ok (.iload_n 1, 1) := by decide +kernel
theorem dX10_counts_1 : decode cX10_counts 1 = .ok (.invokestatic 294, 3) := by decide +kernel
theorem dX10_counts_4 : decode cX10_counts 4 = .ok (.ifCond .ne 5, 3) := by decide +kernel
theorem dX10_counts_7 : decode cX10_counts 7 = .ok (.iconst (-1), 1) := by decide +kernel
theorem dX10_counts_8 : decode cX10_counts 8 = .ok (.ireturn, 1) := by decide +kernel
theorem dX10_counts_9 : decode cX10_counts 9 = .ok (.iload_n 2, 1) := by decide +kernel
theorem dX10_counts_10 : decode cX10_counts 10 = .ok (.i2l, 1) := by decide +kernel
theorem dX10_counts_11 : decode cX10_counts 11 = .ok (.lconst 0, 1) := by decide +kernel
theorem dX10_counts_12 : decode cX10_counts 12 = .ok (.ldc2_w 137, 3) := by decide +kernel
theorem dX10_counts_15 : decode cX10_counts 15 = .ok (.invokestatic 139, 3) := by decide +kernel
theorem dX10_counts_18 : decode cX10_counts 18 = .ok (.ifCond .eq 17, 3) := by decide +kernel
theorem dX10_counts_21 : decode cX10_counts 21 = .ok (.iload_n 3, 1) := by decide +kernel
theorem dX10_counts_22 : decode cX10_counts 22 = .ok (.i2l, 1) := by decide +kernel
theorem dX10_counts_23 : decode cX10_counts 23 = .ok (.ldc2_w 297, 3) := by decide +kernel
theorem dX10_counts_26 : decode cX10_counts 26 = .ok (.ldc2_w 170, 3) := by decide +kernel
theorem dX10_counts_29 : decode cX10_counts 29 = .ok (.invokestatic 139, 3) := by decide +kernel
theorem dX10_counts_32 : decode cX10_counts 32 = .ok (.ifCond .ne 6, 3) := by decide +kernel
theorem dX10_counts_35 : decode cX10_counts 35 = .ok (.bipush (-2), 2) := by decide +kernel
theorem dX10_counts_37 : decode cX10_counts 37 = .ok (.ireturn, 1) := by decide +kernel
theorem dX10_counts_38 : decode cX10_counts 38 = .ok (.aload_n 0, 1) := by decide +kernel
theorem dX10_counts_39 : decode cX10_counts 39 = .ok (.getfield 104, 3) := by decide +kernel
theorem dX10_counts_42 : decode cX10_counts 42 = .ok (.bipush 100, 2) := by decide +kernel
theorem dX10_counts_44 : decode cX10_counts 44 = .ok (.iload_n 1, 1) := by decide +kernel
theorem dX10_counts_45 : decode cX10_counts 45 = .ok (.imul, 1) := by decide +kernel
theorem dX10_counts_46 : decode cX10_counts 46 = .ok (.iload_n 2, 1) := by decide +kernel
theorem dX10_counts_47 : decode cX10_counts 47 = .ok (.iadd, 1) := by decide +kernel
theorem dX10_counts_48 : decode cX10_counts 48 = .ok (.iaload, 1) := by decide +kernel
theorem dX10_counts_49 : decode cX10_counts 49 = .ok (.istore 4, 2) := by decide +kernel
theorem dX10_counts_51 : decode cX10_counts 51 = .ok (.aload_n 0, 1) := by decide +kernel
theorem dX10_counts_52 : decode cX10_counts 52 = .ok (.getfield 104, 3) := by decide +kernel
theorem dX10_counts_55 : decode cX10_counts 55 = .ok (.bipush 100, 2) := by decide +kernel
theorem dX10_counts_57 : decode cX10_counts 57 = .ok (.iload_n 1, 1) := by decide +kernel
theorem dX10_counts_58 : decode cX10_counts 58 = .ok (.imul, 1) := by decide +kernel
theorem dX10_counts_59 : decode cX10_counts 59 = .ok (.iload_n 2, 1) := by decide +kernel
theorem dX10_counts_60 : decode cX10_counts 60 = .ok (.iadd, 1) := by decide +kernel
theorem dX10_counts_61 : decode cX10_counts 61 = .ok (.iload_n 3, 1) := by decide +kernel
theorem dX10_counts_62 : decode cX10_counts 62 = .ok (.iastore, 1) := by decide +kernel
theorem dX10_counts_63 : decode cX10_counts 63 = .ok (.iload 4, 2) := by decide +kernel
theorem dX10_counts_65 : decode cX10_counts 65 = .ok (.ireturn, 1) := by decide +kernel
theorem dX10_sumAt_0 : decode cX10_sumAt 0 = .ok (.iconst 0, 1) := by decide +kernel
theorem dX10_sumAt_1 : decode cX10_sumAt 1 = .ok (.istore_n 3, 1) := by decide +kernel
theorem dX10_sumAt_2 : decode cX10_sumAt 2 = .ok (.iconst 0, 1) := by decide +kernel
theorem dX10_sumAt_3 : decode cX10_sumAt 3 = .ok (.istore 4, 2) := by decide +kernel
theorem dX10_sumAt_5 : decode cX10_sumAt 5 = .ok (.iload 4, 2) := by decide +kernel
theorem dX10_sumAt_7 : decode cX10_sumAt 7 = .ok (.aload_n 0, 1) := by decide +kernel
theorem dX10_sumAt_8 : decode cX10_sumAt 8 = .ok (.getfield 176, 3) := by decide +kernel
theorem dX10_sumAt_11 : decode cX10_sumAt 11 = .ok (.if_icmp .ge 68, 3) := by decide +kernel
theorem dX10_sumAt_14 : decode cX10_sumAt 14 = .ok (.iload_n 2, 1) := by decide +kernel
theorem dX10_sumAt_15 : decode cX10_sumAt 15 = .ok (.iload 4, 2) := by decide +kernel
theorem dX10_sumAt_17 : decode cX10_sumAt 17 = .ok (.if_icmp .ge 10, 3) := by decide +kernel
theorem dX10_sumAt_20 : decode cX10_sumAt 20 = .ok (.iload 4, 2) := by decide +kernel
theorem dX10_sumAt_22 : decode cX10_sumAt 22 = .ok (.iload_n 2, 1) := by decide +kernel
theorem dX10_sumAt_23 : decode cX10_sumAt 23 = .ok (.isub, 1) := by decide +kernel
theorem dX10_sumAt_24 : decode cX10_sumAt 24 = .ok (.goto 7, 3) := by decide +kernel
theorem dX10_sumAt_27 : decode cX10_sumAt 27 = .ok (.iload_n 2, 1) := by decide +kernel
theorem dX10_sumAt_28 : decode cX10_sumAt 28 = .ok (.iload 4, 2) := by decide +kernel
theorem dX10_sumAt_30 : decode cX10_sumAt 30 = .ok (.isub, 1) := by decide +kernel
theorem dX10_sumAt_31 : decode cX10_sumAt 31 = .ok (.istore 5, 2) := by decide +kernel
theorem dX10_sumAt_33 : decode cX10_sumAt 33 = .ok (.iload_n 3, 1) := by decide +kernel
theorem dX10_sumAt_34 : decode cX10_sumAt 34 = .ok (.iload 5, 2) := by decide +kernel
theorem dX10_sumAt_36 : decode cX10_sumAt 36 = .ok (.ifCond .le 34, 3) := by decide +kernel
theorem dX10_sumAt_39 : decode cX10_sumAt 39 = .ok (.iload 5, 2) := by decide +kernel
theorem dX10_sumAt_41 : decode cX10_sumAt 41 = .ok (.aload_n 0, 1) := by decide +kernel
theorem dX10_sumAt_42 : decode cX10_sumAt 42 = .ok (.getfield 43, 3) := by decide +kernel
theorem dX10_sumAt_45 : decode cX10_sumAt 45 = .ok (.iconst 1, 1) := by decide +kernel
theorem dX10_sumAt_46 : decode cX10_sumAt 46 = .ok (.iaload, 1) := by decide +kernel
theorem dX10_sumAt_47 : decode cX10_sumAt 47 = .ok (.if_icmp .gt 23, 3) := by decide +kernel
theorem dX10_sumAt_50 : decode cX10_sumAt 50 = .ok (.aload_n 0, 1) := by decide +kernel
theorem dX10_sumAt_51 : decode cX10_sumAt 51 = .ok (.getfield 104, 3) := by decide +kernel
theorem dX10_sumAt_54 : decode cX10_sumAt 54 = .ok (.bipush 100, 2) := by decide +kernel
theorem dX10_sumAt_56 : decode cX10_sumAt 56 = .ok (.iload_n 1, 1) := by decide +kernel
theorem dX10_sumAt_57 : decode cX10_sumAt 57 = .ok (.imul, 1) := by decide +kernel
theorem dX10_sumAt_58 : decode cX10_sumAt 58 = .ok (.aload_n 0, 1) := by decide +kernel
theorem dX10_sumAt_59 : decode cX10_sumAt 59 = .ok (.getfield 46, 3) := by decide +kernel
theorem dX10_sumAt_62 : decode cX10_sumAt 62 = .ok (.iload 4, 2) := by decide +kernel
theorem dX10_sumAt_64 : decode cX10_sumAt 64 = .ok (.iaload, 1) := by decide +kernel
theorem dX10_sumAt_65 : decode cX10_sumAt 65 = .ok (.iadd, 1) := by decide +kernel
theorem dX10_sumAt_66 : decode cX10_sumAt 66 = .ok (.iaload, 1) := by decide +kernel
theorem dX10_sumAt_67 : decode cX10_sumAt 67 = .ok (.goto 4, 3) := by decide +kernel
theorem dX10_sumAt_70 : decode cX10_sumAt 70 = .ok (.iconst 0, 1) := by decide +kernel
theorem dX10_sumAt_71 : decode cX10_sumAt 71 = .ok (.iadd, 1) := by decide +kernel
theorem dX10_sumAt_72 : decode cX10_sumAt 72 = .ok (.istore_n 3, 1) := by decide +kernel
theorem dX10_sumAt_73 : decode cX10_sumAt 73 = .ok (.iinc 4 1, 3) := by decide +kernel
theorem dX10_sumAt_76 : decode cX10_sumAt 76 = .ok (.goto (-71), 3) := by decide +kernel
theorem dX10_sumAt_79 : decode cX10_sumAt 79 = .ok (.iload_n 3, 1) := by decide +kernel
theorem dX10_sumAt_80 : decode cX10_sumAt 80 = .ok (.ireturn, 1) := by decide +kernel
theorem dX10_likely_0 : decode cX10_likely 0 = .ok (.iload_n 1, 1) := by decide +kernel
theorem dX10_likely_1 : decode cX10_likely 1 = .ok (.invokestatic 294, 3) := by decide +kernel
theorem dX10_likely_4 : decode cX10_likely 4 = .ok (.ifCond .eq 11, 3) := by decide +kernel
theorem dX10_likely_7 : decode cX10_likely 7 = .ok (.aload_n 0, 1) := by decide +kernel
theorem dX10_likely_8 : decode cX10_likely 8 = .ok (.iload_n 2, 1) := by decide +kernel
theorem dX10_likely_9 : decode cX10_likely 9 = .ok (.invokevirtual 186, 3) := by decide +kernel
theorem dX10_likely_12 : decode cX10_likely 12 = .ok (.ifCond .ne 5, 3) := by decide +kernel
theorem dX10_likely_15 : decode cX10_likely 15 = .ok (.iconst (-1), 1) := by decide +kernel
theorem dX10_likely_16 : decode cX10_likely 16 = .ok (.ireturn, 1) := by decide +kernel
theorem dX10_likely_17 : decode cX10_likely 17 = .ok (.iload_n 3, 1) := by decide +kernel
theorem dX10_likely_18 : decode cX10_likely 18 = .ok (.i2l, 1) := by decide +kernel
theorem dX10_likely_19 : decode cX10_likely 19 = .ok (.lconst 0, 1) := by decide +kernel
theorem dX10_likely_20 : decode cX10_likely 20 = .ok (.ldc2_w 299, 3) := by decide +kernel
theorem dX10_likely_23 : decode cX10_likely 23 = .ok (.invokestatic 139, 3) := by decide +kernel
theorem dX10_likely_26 : decode cX10_likely 26 = .ok (.ifCond .ne 6, 3) := by decide +kernel
theorem dX10_likely_29 : decode cX10_likely 29 = .ok (.bipush (-2), 2) := by decide +kernel
theorem dX10_likely_31 : decode cX10_likely 31 = .ok (.ireturn, 1) := by decide +kernel
theorem dX10_likely_32 : decode cX10_likely 32 = .ok (.aload_n 0, 1) := by decide +kernel
theorem dX10_likely_33 : decode cX10_likely 33 = .ok (.iload_n 2, 1) := by decide +kernel
theorem dX10_likely_34 : decode cX10_likely 34 = .ok (.invokevirtual 179, 3) := by decide +kernel
theorem dX10_likely_37 : decode cX10_likely 37 = .ok (.bipush (-6), 2) := by decide +kernel
theorem dX10_likely_39 : decode cX10_likely 39 = .ok (.istore 4, 2) := by decide +kernel
theorem dX10_likely_41 : decode cX10_likely 41 = .ok (.iconst 0, 1) := by decide +kernel
theorem dX10_likely_42 : decode cX10_likely 42 = .ok (.istore 5, 2) := by decide +kernel
theorem dX10_likely_44 : decode cX10_likely 44 = .ok (.iconst 0, 1) := by decide +kernel
theorem dX10_likely_45 : decode cX10_likely 45 = .ok (.istore 6, 2) := by decide +kernel
theorem dX10_likely_47 : decode cX10_likely 47 = .ok (.iload 6, 2) := by decide +kernel
theorem dX10_likely_49 : decode cX10_likely 49 = .ok (.aload_n 0, 1) := by decide +kernel
theorem dX10_likely_50 : decode cX10_likely 50 = .ok (.getfield 176, 3) := by decide +kernel
theorem dX10_likely_53 : decode cX10_likely 53 = .ok (.if_icmp .ge 55, 3) := by decide +kernel
theorem dX10_likely_56 : decode cX10_likely 56 = .ok (.aload_n 0, 1) := by decide +kernel
theorem dX10_likely_57 : decode cX10_likely 57 = .ok (.getfield 46, 3) := by decide +kernel
theorem dX10_likely_60 : decode cX10_likely 60 = .ok (.iload 6, 2) := by decide +kernel
theorem dX10_likely_62 : decode cX10_likely 62 = .ok (.iaload, 1) := by decide +kernel
theorem dX10_likely_63 : decode cX10_likely 63 = .ok (.aload_n 0, 1) := by decide +kernel
theorem dX10_likely_64 : decode cX10_likely 64 = .ok (.getfield 101, 3) := by decide +kernel
theorem dX10_likely_67 : decode cX10_likely 67 = .ok (.iload_n 1, 1) := by decide +kernel
theorem dX10_likely_68 : decode cX10_likely 68 = .ok (.iaload, 1) := by decide +kernel
theorem dX10_likely_69 : decode cX10_likely 69 = .ok (.if_icmp .ne 33, 3) := by decide +kernel
theorem dX10_likely_72 : decode cX10_likely 72 = .ok (.iload 4, 2) := by decide +kernel
theorem dX10_likely_74 : decode cX10_likely 74 = .ok (.ifCond .lt 15, 3) := by decide +kernel
theorem dX10_likely_77 : decode cX10_likely 77 = .ok (.aload_n 0, 1) := by decide +kernel
theorem dX10_likely_78 : decode cX10_likely 78 = .ok (.iload_n 1, 1) := by decide +kernel
theorem dX10_likely_79 : decode cX10_likely 79 = .ok (.iload 6, 2) := by decide +kernel
theorem dX10_likely_81 : decode cX10_likely 81 = .ok (.invokevirtual 301, 3) := by decide +kernel
theorem dX10_likely_84 : decode cX10_likely 84 = .ok (.iload 5, 2) := by decide +kernel
theorem dX10_likely_86 : decode cX10_likely 86 = .ok (.if_icmp .le 16, 3) := by decide +kernel
theorem dX10_likely_89 : decode cX10_likely 89 = .ok (.iload 6, 2) := by decide +kernel
theorem dX10_likely_91 : decode cX10_likely 91 = .ok (.istore 4, 2) := by decide +kernel
theorem dX10_likely_93 : decode cX10_likely 93 = .ok (.aload_n 0, 1) := by decide +kernel
theorem dX10_likely_94 : decode cX10_likely 94 = .ok (.iload_n 1, 1) := by decide +kernel
theorem dX10_likely_95 : decode cX10_likely 95 = .ok (.iload 6, 2) := by decide +kernel
theorem dX10_likely_97 : decode cX10_likely 97 = .ok (.invokevirtual 301, 3) := by decide +kernel
theorem dX10_likely_100 : decode cX10_likely 100 = .ok (.istore 5, 2) := by decide +kernel
theorem dX10_likely_102 : decode cX10_likely 102 = .ok (.iinc 6 1, 3) := by decide +kernel
theorem dX10_likely_105 : decode cX10_likely 105 = .ok (.goto (-58), 3) := by decide +kernel
theorem dX10_likely_108 : decode cX10_likely 108 = .ok (.iload_n 3, 1) := by decide +kernel
theorem dX10_likely_109 : decode cX10_likely 109 = .ok (.ifCond .gt 8, 3) := by decide +kernel
theorem dX10_likely_112 : decode cX10_likely 112 = .ok (.iload 4, 2) := by decide +kernel
theorem dX10_likely_114 : decode cX10_likely 114 = .ok (.ifCond .ge 16, 3) := by decide +kernel
theorem dX10_likely_117 : decode cX10_likely 117 = .ok (.iload_n 3, 1) := by decide +kernel
theorem dX10_likely_118 : decode cX10_likely 118 = .ok (.iconst 2, 1) := by decide +kernel
theorem dX10_likely_119 : decode cX10_likely 119 = .ok (.if_icmp .ne 8, 3) := by decide +kernel
theorem dX10_likely_122 : decode cX10_likely 122 = .ok (.iload 4, 2) := by decide +kernel
theorem dX10_likely_124 : decode cX10_likely 124 = .ok (.goto 5, 3) := by decide +kernel
theorem dX10_likely_127 : decode cX10_likely 127 = .ok (.iload 5, 2) := by decide +kernel
theorem dX10_likely_129 : decode cX10_likely 129 = .ok (.ireturn, 1) := by decide +kernel
theorem dX10_likely_130 : decode cX10_likely 130 = .ok (.iload 5, 2) := by decide +kernel
theorem dX10_likely_132 : decode cX10_likely 132 = .ok (.aload_n 0, 1) := by decide +kernel
theorem dX10_likely_133 : decode cX10_likely 133 = .ok (.getfield 43, 3) := by decide +kernel
theorem dX10_likely_136 : decode cX10_likely 136 = .ok (.iconst 2, 1) := by decide +kernel
theorem dX10_likely_137 : decode cX10_likely 137 = .ok (.iaload, 1) := by decide +kernel
theorem dX10_likely_138 : decode cX10_likely 138 = .ok (.if_icmp .lt 7, 3) := by decide +kernel
theorem dX10_likely_141 : decode cX10_likely 141 = .ok (.iconst 1, 1) := by decide +kernel
theorem dX10_likely_142 : decode cX10_likely 142 = .ok (.goto 20, 3) := by decide +kernel
theorem dX10_likely_145 : decode cX10_likely 145 = .ok (.iload 5, 2) := by decide +kernel
theorem dX10_likely_147 : decode cX10_likely 147 = .ok (.aload_n 0, 1) := by decide +kernel
theorem dX10_likely_148 : decode cX10_likely 148 = .ok (.getfield 43, 3) := by decide +kernel
theorem dX10_likely_151 : decode cX10_likely 151 = .ok (.iconst 2, 1) := by decide +kernel
theorem dX10_likely_152 : decode cX10_likely 152 = .ok (.iaload, 1) := by decide +kernel
theorem dX10_likely_153 : decode cX10_likely 153 = .ok (.ineg, 1) := by decide +kernel
theorem dX10_likely_154 : decode cX10_likely 154 = .ok (.if_icmp .gt 7, 3) := by decide +kernel
theorem dX10_likely_157 : decode cX10_likely 157 = .ok (.iconst 2, 1) := by decide +kernel
theorem dX10_likely_158 : decode cX10_likely 158 = .ok (.goto 4, 3) := by decide +kernel
theorem dX10_likely_161 : decode cX10_likely 161 = .ok (.iconst 3, 1) := by decide +kernel
theorem dX10_likely_162 : decode cX10_likely 162 = .ok (.ireturn, 1) := by decide +kernel
theorem dX10_findAsked_0 : decode cX10_findAsked 0 = .ok (.aload_n 0, 1) := by decide +kernel
theorem dX10_findAsked_1 : decode cX10_findAsked 1 = .ok (.iconst 0, 1) := by decide +kernel
theorem dX10_findAsked_2 : decode cX10_findAsked 2 = .ok (.putfield 304, 3) := by decide +kernel
theorem dX10_findAsked_5 : decode cX10_findAsked 5 = .ok (.iconst 0, 1) := by decide +kernel
theorem dX10_findAsked_6 : decode cX10_findAsked 6 = .ok (.istore_n 2, 1) := by decide +kernel
theorem dX10_findAsked_7 : decode cX10_findAsked 7 = .ok (.iload_n 2, 1) := by decide +kernel
theorem dX10_findAsked_8 : decode cX10_findAsked 8 = .ok (.aload_n 0, 1) := by decide +kernel
theorem dX10_findAsked_9 : decode cX10_findAsked 9 = .ok (.getfield 220, 3) := by decide +kernel
theorem dX10_findAsked_12 : decode cX10_findAsked 12 = .ok (.if_icmp .ge 119, 3) := by decide +kernel
theorem dX10_findAsked_15 : decode cX10_findAsked 15 = .ok (.aload_n 0, 1) := by decide +kernel
theorem dX10_findAsked_16 : decode cX10_findAsked 16 = .ok (.getfield 304, 3) := by decide +kernel
theorem dX10_findAsked_19 : decode cX10_findAsked 19 = .ok (.bipush 9, 2) := by decide +kernel
theorem dX10_findAsked_21 : decode cX10_findAsked 21 = .ok (.if_icmp .ge 110, 3) := by decide +kernel
theorem dX10_findAsked_24 : decode cX10_findAsked 24 = .ok (.aload_n 0, 1) := by decide +kernel
theorem dX10_findAsked_25 : decode cX10_findAsked 25 = .ok (.iload_n 2, 1) := by decide +kernel
theorem dX10_findAsked_26 : decode cX10_findAsked 26 = .ok (.aload_n 0, 1) := by decide +kernel
theorem dX10_findAsked_27 : decode cX10_findAsked 27 = .ok (.getfield 16, 3) := by decide +kernel
theorem dX10_findAsked_30 : decode cX10_findAsked 30 = .ok (.iload_n 1, 1) := by decide +kernel
theorem dX10_findAsked_31 : decode cX10_findAsked 31 = .ok (.iaload, 1) := by decide +kernel
theorem dX10_findAsked_32 : decode cX10_findAsked 32 = .ok (.invokevirtual 289, 3) := by decide +kernel
theorem dX10_findAsked_35 : decode cX10_findAsked 35 = .ok (.iconst 0, 1) := by decide +kernel
theorem dX10_findAsked_36 : decode cX10_findAsked 36 = .ok (.istore_n 3, 1) := by decide +kernel
theorem dX10_findAsked_37 : decode cX10_findAsked 37 = .ok (.iload_n 3, 1) := by decide +kernel
theorem dX10_findAsked_38 : decode cX10_findAsked 38 = .ok (.aload_n 0, 1) := by decide +kernel
theorem dX10_findAsked_39 : decode cX10_findAsked 39 = .ok (.getfield 283, 3) := by decide +kernel
theorem dX10_findAsked_42 : decode cX10_findAsked 42 = .ok (.if_icmp .ge 83, 3) := by decide +kernel
theorem dX10_findAsked_45 : decode cX10_findAsked 45 = .ok (.aload_n 0, 1) := by decide +kernel
theorem dX10_findAsked_46 : decode cX10_findAsked 46 = .ok (.getfield 304, 3) := by decide +kernel
theorem dX10_findAsked_49 : decode cX10_findAsked 49 = .ok (.bipush 9, 2) := by decide +kernel
theorem dX10_findAsked_51 : decode cX10_findAsked 51 = .ok (.if_icmp .ge 74, 3) := by decide +kernel
theorem dX10_findAsked_54 : decode cX10_findAsked 54 = .ok (.aload_n 0, 1) := by decide +kernel
theorem dX10_findAsked_55 : decode cX10_findAsked 55 = .ok (.getfield 22, 3) := by decide +kernel
theorem dX10_findAsked_58 : decode cX10_findAsked 58 = .ok (.aload_n 0, 1) := by decide +kernel
theorem dX10_findAsked_59 : decode cX10_findAsked 59 = .ok (.getfield 95, 3) := by decide +kernel
theorem dX10_findAsked_62 : decode cX10_findAsked 62 = .ok (.iload_n 3, 1) := by decide +kernel
theorem dX10_findAsked_63 : decode cX10_findAsked 63 = .ok (.iaload, 1) := by decide +kernel
theorem dX10_findAsked_64 : decode cX10_findAsked 64 = .ok (.iaload, 1) := by decide +kernel
theorem dX10_findAsked_65 : decode cX10_findAsked 65 = .ok (.istore 4, 2) := by decide +kernel
theorem dX10_findAsked_67 : decode cX10_findAsked 67 = .ok (.iload 4, 2) := by decide +kernel
theorem dX10_findAsked_69 : decode cX10_findAsked 69 = .ok (.iload_n 1, 1) := by decide +kernel
theorem dX10_findAsked_70 : decode cX10_findAsked 70 = .ok (.if_icmp .eq 14, 3) := by decide +kernel
theorem dX10_findAsked_73 : decode cX10_findAsked 73 = .ok (.aload_n 0, 1) := by decide +kernel
theorem dX10_findAsked_74 : decode cX10_findAsked 74 = .ok (.getfield 19, 3) := by decide +kernel
theorem dX10_findAsked_77 : decode cX10_findAsked 77 = .ok (.iload_n 1, 1) := by decide +kernel
theorem dX10_findAsked_78 : decode cX10_findAsked 78 = .ok (.iaload, 1) := by decide +kernel
theorem dX10_findAsked_79 : decode cX10_findAsked 79 = .ok (.iload 4, 2) := by decide +kernel
theorem dX10_findAsked_81 : decode cX10_findAsked 81 = .ok (.if_icmp .ne 38, 3) := by decide +kernel
theorem dX10_findAsked_84 : decode cX10_findAsked 84 = .ok (.aload_n 0, 1) := by decide +kernel
theorem dX10_findAsked_85 : decode cX10_findAsked 85 = .ok (.getfield 107, 3) := by decide +kernel
theorem dX10_findAsked_88 : decode cX10_findAsked 88 = .ok (.aload_n 0, 1) := by decide +kernel
theorem dX10_findAsked_89 : decode cX10_findAsked 89 = .ok (.getfield 304, 3) := by decide +kernel
theorem dX10_findAsked_92 : decode cX10_findAsked 92 = .ok (.iload_n 2, 1) := by decide +kernel
theorem dX10_findAsked_93 : decode cX10_findAsked 93 = .ok (.iastore, 1) := by decide +kernel
theorem dX10_findAsked_94 : decode cX10_findAsked 94 = .ok (.aload_n 0, 1) := by decide +kernel
theorem dX10_findAsked_95 : decode cX10_findAsked 95 = .ok (.getfield 110, 3) := by decide +kernel
theorem dX10_findAsked_98 : decode cX10_findAsked 98 = .ok (.aload_n 0, 1) := by decide +kernel
theorem dX10_findAsked_99 : decode cX10_findAsked 99 = .ok (.getfield 304, 3) := by decide +kernel
theorem dX10_findAsked_102 : decode cX10_findAsked 102 = .ok (.aload_n 0, 1) := by decide +kernel
theorem dX10_findAsked_103 : decode cX10_findAsked 103 = .ok (.getfield 95, 3) := by decide +kernel
theorem dX10_findAsked_106 : decode cX10_findAsked 106 = .ok (.iload_n 3, 1) := by decide +kernel
theorem dX10_findAsked_107 : decode cX10_findAsked 107 = .ok (.iaload, 1) := by decide +kernel
theorem dX10_findAsked_108 : decode cX10_findAsked 108 = .ok (.iastore, 1) := by decide +kernel
theorem dX10_findAsked_109 : decode cX10_findAsked 109 = .ok (.aload_n 0, 1) := by decide +kernel
theorem dX10_findAsked_110 : decode cX10_findAsked 110 = .ok (.dup, 1) := by decide +kernel
theorem dX10_findAsked_111 : decode cX10_findAsked 111 = .ok (.getfield 304, 3) := by decide +kernel
theorem dX10_findAsked_114 : decode cX10_findAsked 114 = .ok (.iconst 1, 1) := by decide +kernel
theorem dX10_findAsked_115 : decode cX10_findAsked 115 = .ok (.iadd, 1) := by decide +kernel
theorem dX10_findAsked_116 : decode cX10_findAsked 116 = .ok (.putfield 304, 3) := by decide +kernel
theorem dX10_findAsked_119 : decode cX10_findAsked 119 = .ok (.iinc 3 1, 3) := by decide +kernel
theorem dX10_findAsked_122 : decode cX10_findAsked 122 = .ok (.goto (-85), 3) := by decide +kernel
theorem dX10_findAsked_125 : decode cX10_findAsked 125 = .ok (.iinc 2 1, 3) := by decide +kernel
theorem dX10_findAsked_128 : decode cX10_findAsked 128 = .ok (.goto (-121), 3) := by decide +kernel
theorem dX10_findAsked_131 : decode cX10_findAsked 131 = .ok (.return_, 1) := by decide +kernel
theorem dX10_asked_0 : decode cX10_asked 0 = .ok (.aload_n 0, 1) := by decide +kernel
theorem dX10_asked_1 : decode cX10_asked 1 = .ok (.iload_n 1, 1) := by decide +kernel
theorem dX10_asked_2 : decode cX10_asked 2 = .ok (.invokevirtual 156, 3) := by decide +kernel
theorem dX10_asked_5 : decode cX10_asked 5 = .ok (.ifCond .ne 5, 3) := by decide +kernel
theorem dX10_asked_8 : decode cX10_asked 8 = .ok (.iconst (-1), 1) := by decide +kernel
theorem dX10_asked_9 : decode cX10_asked 9 = .ok (.ireturn, 1) := by decide +kernel
theorem dX10_asked_10 : decode cX10_asked 10 = .ok (.aload_n 0, 1) := by decide +kernel
theorem dX10_asked_11 : decode cX10_asked 11 = .ok (.iload_n 1, 1) := by decide +kernel
theorem dX10_asked_12 : decode cX10_asked 12 = .ok (.invokevirtual 307, 3) := by decide +kernel
theorem dX10_asked_15 : decode cX10_asked 15 = .ok (.iload_n 2, 1) := by decide +kernel
theorem dX10_asked_16 : decode cX10_asked 16 = .ok (.iconst (-1), 1) := by decide +kernel
theorem dX10_asked_17 : decode cX10_asked 17 = .ok (.if_icmp .ne 10, 3) := by decide +kernel
theorem dX10_asked_20 : decode cX10_asked 20 = .ok (.aload_n 0, 1) := by decide +kernel
theorem dX10_asked_21 : decode cX10_asked 21 = .ok (.getfield 304, 3) := by decide +kernel
theorem dX10_asked_24 : decode cX10_asked 24 = .ok (.goto 40, 3) := by decide +kernel
theorem dX10_asked_27 : decode cX10_asked 27 = .ok (.iload_n 2, 1) := by decide +kernel
theorem dX10_asked_28 : decode cX10_asked 28 = .ok (.i2l, 1) := by decide +kernel
theorem dX10_asked_29 : decode cX10_asked 29 = .ok (.lconst 0, 1) := by decide +kernel
theorem dX10_asked_30 : decode cX10_asked 30 = .ok (.aload_n 0, 1) := by decide +kernel
theorem dX10_asked_31 : decode cX10_asked 31 = .ok (.getfield 304, 3) := by decide +kernel
theorem dX10_asked_34 : decode cX10_asked 34 = .ok (.iconst 1, 1) := by decide +kernel
theorem dX10_asked_35 : decode cX10_asked 35 = .ok (.isub, 1) := by decide +kernel
theorem dX10_asked_36 : decode cX10_asked 36 = .ok (.i2l, 1) := by decide +kernel
theorem dX10_asked_37 : decode cX10_asked 37 = .ok (.invokestatic 139, 3) := by decide +kernel
theorem dX10_asked_40 : decode cX10_asked 40 = .ok (.ifCond .eq 22, 3) := by decide +kernel
theorem dX10_asked_43 : decode cX10_asked 43 = .ok (.bipush 100, 2) := by decide +kernel
theorem dX10_asked_45 : decode cX10_asked 45 = .ok (.aload_n 0, 1) := by decide +kernel
theorem dX10_asked_46 : decode cX10_asked 46 = .ok (.getfield 107, 3) := by decide +kernel
theorem dX10_asked_49 : decode cX10_asked 49 = .ok (.iload_n 2, 1) := by decide +kernel
theorem dX10_asked_50 : decode cX10_asked 50 = .ok (.iaload, 1) := by decide +kernel
theorem dX10_asked_51 : decode cX10_asked 51 = .ok (.imul, 1) := by decide +kernel
theorem dX10_asked_52 : decode cX10_asked 52 = .ok (.aload_n 0, 1) := by decide +kernel
theorem dX10_asked_53 : decode cX10_asked 53 = .ok (.getfield 110, 3) := by decide +kernel
theorem dX10_asked_56 : decode cX10_asked 56 = .ok (.iload_n 2, 1) := by decide +kernel
theorem dX10_asked_57 : decode cX10_asked 57 = .ok (.iaload, 1) := by decide +kernel
theorem dX10_asked_58 : decode cX10_asked 58 = .ok (.iadd, 1) := by decide +kernel
theorem dX10_asked_59 : decode cX10_asked 59 = .ok (.goto 5, 3) := by decide +kernel
theorem dX10_asked_62 : decode cX10_asked 62 = .ok (.bipush (-6), 2) := by decide +kernel
theorem dX10_asked_64 : decode cX10_asked 64 = .ok (.ireturn, 1) := by decide +kernel
theorem dX10_isOneSheet_0 : decode cX10_isOneSheet 0 = .ok (.iconst 1, 1) := by decide +kernel
theorem dX10_isOneSheet_1 : decode cX10_isOneSheet 1 = .ok (.istore_n 2, 1) := by decide +kernel
theorem dX10_isOneSheet_2 : decode cX10_isOneSheet 2 = .ok (.iconst 0, 1) := by decide +kernel
theorem dX10_isOneSheet_3 : decode cX10_isOneSheet 3 = .ok (.istore_n 3, 1) := by decide +kernel
theorem dX10_isOneSheet_4 : decode cX10_isOneSheet 4 = .ok (.iload_n 3, 1) := by decide +kernel
theorem dX10_isOneSheet_5 : decode cX10_isOneSheet 5 = .ok (.aload_n 0, 1) := by decide +kernel
theorem dX10_isOneSheet_6 : decode cX10_isOneSheet 6 = .ok (.getfield 304, 3) := by decide +kernel
theorem dX10_isOneSheet_9 : decode cX10_isOneSheet 9 = .ok (.if_icmp .ge 85, 3) := by decide +kernel
theorem dX10_isOneSheet_12 : decode cX10_isOneSheet 12 = .ok (.iconst 0, 1) := by decide +kernel
theorem dX10_isOneSheet_13 : decode cX10_isOneSheet 13 = .ok (.istore 4, 2) := by decide +kernel
theorem dX10_isOneSheet_15 : decode cX10_isOneSheet 15 = .ok (.iload 4, 2) := by decide +kernel
theorem dX10_isOneSheet_17 : decode cX10_isOneSheet 17 = .ok (.iload_n 3, 1) := by decide +kernel
theorem dX10_isOneSheet_18 : decode cX10_isOneSheet 18 = .ok (.if_icmp .ge 70, 3) := by decide +kernel
theorem dX10_isOneSheet_21 : decode cX10_isOneSheet 21 = .ok (.iload_n 1, 1) := by decide +kernel
theorem dX10_isOneSheet_22 : decode cX10_isOneSheet 22 = .ok (.iload_n 3, 1) := by decide +kernel
theorem dX10_isOneSheet_23 : decode cX10_isOneSheet 23 = .ok (.ishr, 1) := by decide +kernel
theorem dX10_isOneSheet_24 : decode cX10_isOneSheet 24 = .ok (.iconst 1, 1) := by decide +kernel
theorem dX10_isOneSheet_25 : decode cX10_isOneSheet 25 = .ok (.iand, 1) := by decide +kernel
theorem dX10_isOneSheet_26 : decode cX10_isOneSheet 26 = .ok (.iconst 1, 1) := by decide +kernel
theorem dX10_isOneSheet_27 : decode cX10_isOneSheet 27 = .ok (.if_icmp .ne 17, 3) := by decide +kernel
theorem dX10_isOneSheet_30 : decode cX10_isOneSheet 30 = .ok (.iload_n 1, 1) := by decide +kernel
theorem dX10_isOneSheet_31 : decode cX10_isOneSheet 31 = .ok (.iload 4, 2) := by decide +kernel
theorem dX10_isOneSheet_33 : decode cX10_isOneSheet 33 = .ok (.ishr, 1) := by decide +kernel
theorem dX10_isOneSheet_34 : decode cX10_isOneSheet 34 = .ok (.iconst 1, 1) := by decide +kernel
theorem dX10_isOneSheet_35 : decode cX10_isOneSheet 35 = .ok (.iand, 1) := by decide +kernel
theorem dX10_isOneSheet_36 : decode cX10_isOneSheet 36 = .ok (.iconst 1, 1) := by decide +kernel
theorem dX10_isOneSheet_37 : decode cX10_isOneSheet 37 = .ok (.if_icmp .ne 7, 3) := by decide +kernel
theorem dX10_isOneSheet_40 : decode cX10_isOneSheet 40 = .ok (.iconst 1, 1) := by decide +kernel
theorem dX10_isOneSheet_41 : decode cX10_isOneSheet 41 = .ok (.goto 4, 3) := by decide +kernel
theorem dX10_isOneSheet_44 : decode cX10_isOneSheet 44 = .ok (.iconst 0, 1) := by decide +kernel
theorem dX10_isOneSheet_45 : decode cX10_isOneSheet 45 = .ok (.istore 5, 2) := by decide +kernel
theorem dX10_isOneSheet_47 : decode cX10_isOneSheet 47 = .ok (.iload_n 2, 1) := by decide +kernel
theorem dX10_isOneSheet_48 : decode cX10_isOneSheet 48 = .ok (.ifCond .eq 32, 3) := by decide +kernel
theorem dX10_isOneSheet_51 : decode cX10_isOneSheet 51 = .ok (.iload 5, 2) := by decide +kernel
theorem dX10_isOneSheet_53 : decode cX10_isOneSheet 53 = .ok (.ifCond .eq 23, 3) := by decide +kernel
theorem dX10_isOneSheet_56 : decode cX10_isOneSheet 56 = .ok (.aload_n 0, 1) := by decide +kernel
theorem dX10_isOneSheet_57 : decode cX10_isOneSheet 57 = .ok (.aload_n 0, 1) := by decide +kernel
theorem dX10_isOneSheet_58 : decode cX10_isOneSheet 58 = .ok (.getfield 110, 3) := by decide +kernel
theorem dX10_isOneSheet_61 : decode cX10_isOneSheet 61 = .ok (.iload_n 3, 1) := by decide +kernel
theorem dX10_isOneSheet_62 : decode cX10_isOneSheet 62 = .ok (.iaload, 1) := by decide +kernel
theorem dX10_isOneSheet_63 : decode cX10_isOneSheet 63 = .ok (.aload_n 0, 1) := by decide +kernel
theorem dX10_isOneSheet_64 : decode cX10_isOneSheet 64 = .ok (.getfield 110, 3) := by decide +kernel
theorem dX10_isOneSheet_67 : decode cX10_isOneSheet 67 = .ok (.iload 4, 2) := by decide +kernel
theorem dX10_isOneSheet_69 : decode cX10_isOneSheet 69 = .ok (.iaload, 1) := by decide +kernel
theorem dX10_isOneSheet_70 : decode cX10_isOneSheet 70 = .ok (.invokevirtual 197, 3) := by decide +kernel
theorem dX10_isOneSheet_73 : decode cX10_isOneSheet 73 = .ok (.ifCond .ne 7, 3) := by decide +kernel
theorem dX10_isOneSheet_76 : decode cX10_isOneSheet 76 = .ok (.iconst 1, 1) := by decide +kernel
theorem dX10_isOneSheet_77 : decode cX10_isOneSheet 77 = .ok (.goto 4, 3) := by decide +kernel
theorem dX10_isOneSheet_80 : decode cX10_isOneSheet 80 = .ok (.iconst 0, 1) := by decide +kernel
theorem dX10_isOneSheet_81 : decode cX10_isOneSheet 81 = .ok (.istore_n 2, 1) := by decide +kernel
theorem dX10_isOneSheet_82 : decode cX10_isOneSheet 82 = .ok (.iinc 4 1, 3) := by decide +kernel
theorem dX10_isOneSheet_85 : decode cX10_isOneSheet 85 = .ok (.goto (-70), 3) := by decide +kernel
theorem dX10_isOneSheet_88 : decode cX10_isOneSheet 88 = .ok (.iinc 3 1, 3) := by decide +kernel
theorem dX10_isOneSheet_91 : decode cX10_isOneSheet 91 = .ok (.goto (-87), 3) := by decide +kernel
theorem dX10_isOneSheet_94 : decode cX10_isOneSheet 94 = .ok (.iload_n 2, 1) := by decide +kernel
theorem dX10_isOneSheet_95 : decode cX10_isOneSheet 95 = .ok (.ireturn, 1) := by decide +kernel
theorem dX10_findSheets_0 : decode cX10_findSheets 0 = .ok (.iconst 1, 1) := by decide +kernel
theorem dX10_findSheets_1 : decode cX10_findSheets 1 = .ok (.aload_n 0, 1) := by decide +kernel
theorem dX10_findSheets_2 : decode cX10_findSheets 2 = .ok (.getfield 304, 3) := by decide +kernel
theorem dX10_findSheets_5 : decode cX10_findSheets 5 = .ok (.ishl, 1) := by decide +kernel
theorem dX10_findSheets_6 : decode cX10_findSheets 6 = .ok (.istore_n 2, 1) := by decide +kernel
theorem dX10_findSheets_7 : decode cX10_findSheets 7 = .ok (.iconst 0, 1) := by decide +kernel
theorem dX10_findSheets_8 : decode cX10_findSheets 8 = .ok (.istore_n 3, 1) := by decide +kernel
theorem dX10_findSheets_9 : decode cX10_findSheets 9 = .ok (.iload_n 3, 1) := by decide +kernel
theorem dX10_findSheets_10 : decode cX10_findSheets 10 = .ok (.iload_n 2, 1) := by decide +kernel
theorem dX10_findSheets_11 : decode cX10_findSheets 11 = .ok (.if_icmp .ge 39, 3) := by decide +kernel
theorem dX10_findSheets_14 : decode cX10_findSheets 14 = .ok (.aload_n 0, 1) := by decide +kernel
theorem dX10_findSheets_15 : decode cX10_findSheets 15 = .ok (.getfield 113, 3) := by decide +kernel
theorem dX10_findSheets_18 : decode cX10_findSheets 18 = .ok (.iload_n 3, 1) := by decide +kernel
theorem dX10_findSheets_19 : decode cX10_findSheets 19 = .ok (.iload_n 3, 1) := by decide +kernel
theorem dX10_findSheets_20 : decode cX10_findSheets 20 = .ok (.ifCond .ne 7, 3) := by decide +kernel
theorem dX10_findSheets_23 : decode cX10_findSheets 23 = .ok (.iconst 1, 1) := by decide +kernel
theorem dX10_findSheets_24 : decode cX10_findSheets 24 = .ok (.goto 4, 3) := by decide +kernel
theorem dX10_findSheets_27 : decode cX10_findSheets 27 = .ok (.iconst 0, 1) := by decide +kernel
theorem dX10_findSheets_28 : decode cX10_findSheets 28 = .ok (.bastore, 1) := by decide +kernel
theorem dX10_findSheets_29 : decode cX10_findSheets 29 = .ok (.aload_n 0, 1) := by decide +kernel
theorem dX10_findSheets_30 : decode cX10_findSheets 30 = .ok (.getfield 113, 3) := by decide +kernel
theorem dX10_findSheets_33 : decode cX10_findSheets 33 = .ok (.sipush 2048, 3) := by decide +kernel
theorem dX10_findSheets_36 : decode cX10_findSheets 36 = .ok (.iload_n 3, 1) := by decide +kernel
theorem dX10_findSheets_37 : decode cX10_findSheets 37 = .ok (.iadd, 1) := by decide +kernel
theorem dX10_findSheets_38 : decode cX10_findSheets 38 = .ok (.aload_n 0, 1) := by decide +kernel
theorem dX10_findSheets_39 : decode cX10_findSheets 39 = .ok (.iload_n 3, 1) := by decide +kernel
theorem dX10_findSheets_40 : decode cX10_findSheets 40 = .ok (.invokevirtual 310, 3) := by decide +kernel
theorem dX10_findSheets_43 : decode cX10_findSheets 43 = .ok (.bastore, 1) := by decide +kernel
theorem dX10_findSheets_44 : decode cX10_findSheets 44 = .ok (.iinc 3 1, 3) := by decide +kernel
theorem dX10_findSheets_47 : decode cX10_findSheets 47 = .ok (.goto (-38), 3) := by decide +kernel
theorem dX10_findSheets_50 : decode cX10_findSheets 50 = .ok (.iconst 1, 1) := by decide +kernel
theorem dX10_findSheets_51 : decode cX10_findSheets 51 = .ok (.istore_n 3, 1) := by decide +kernel
theorem dX10_findSheets_52 : decode cX10_findSheets 52 = .ok (.iload_n 3, 1) := by decide +kernel
theorem dX10_findSheets_53 : decode cX10_findSheets 53 = .ok (.iload_n 1, 1) := by decide +kernel
theorem dX10_findSheets_54 : decode cX10_findSheets 54 = .ok (.if_icmp .gt 132, 3) := by decide +kernel
theorem dX10_findSheets_57 : decode cX10_findSheets 57 = .ok (.iconst 0, 1) := by decide +kernel
theorem dX10_findSheets_58 : decode cX10_findSheets 58 = .ok (.istore 4, 2) := by decide +kernel
theorem dX10_findSheets_60 : decode cX10_findSheets 60 = .ok (.iload 4, 2) := by decide +kernel
theorem dX10_findSheets_62 : decode cX10_findSheets 62 = .ok (.iload_n 2, 1) := by decide +kernel
theorem dX10_findSheets_63 : decode cX10_findSheets 63 = .ok (.if_icmp .ge 117, 3) := by decide +kernel
theorem dX10_findSheets_66 : decode cX10_findSheets 66 = .ok (.aload_n 0, 1) := by decide +kernel
theorem dX10_findSheets_67 : decode cX10_findSheets 67 = .ok (.getfield 113, 3) := by decide +kernel
theorem dX10_findSheets_70 : decode cX10_findSheets 70 = .ok (.sipush 512, 3) := by decide +kernel
theorem dX10_findSheets_73 : decode cX10_findSheets 73 = .ok (.iload_n 3, 1) := by decide +kernel
theorem dX10_findSheets_74 : decode cX10_findSheets 74 = .ok (.iconst 1, 1) := by decide +kernel
theorem dX10_findSheets_75 : decode cX10_findSheets 75 = .ok (.isub, 1) := by decide +kernel
theorem dX10_findSheets_76 : decode cX10_findSheets 76 = .ok (.iconst 1, 1) := by decide +kernel
theorem dX10_findSheets_77 : decode cX10_findSheets 77 = .ok (.iand, 1) := by decide +kernel
theorem dX10_findSheets_78 : decode cX10_findSheets 78 = .ok (.imul, 1) := by decide +kernel
theorem dX10_findSheets_79 : decode cX10_findSheets 79 = .ok (.iload 4, 2) := by decide +kernel
theorem dX10_findSheets_81 : decode cX10_findSheets 81 = .ok (.iadd, 1) := by decide +kernel
theorem dX10_findSheets_82 : decode cX10_findSheets 82 = .ok (.baload, 1) := by decide +kernel
theorem dX10_findSheets_83 : decode cX10_findSheets 83 = .ok (.istore 5, 2) := by decide +kernel
theorem dX10_findSheets_85 : decode cX10_findSheets 85 = .ok (.iload 4, 2) := by decide +kernel
theorem dX10_findSheets_87 : decode cX10_findSheets 87 = .ok (.istore 6, 2) := by decide +kernel
theorem dX10_findSheets_89 : decode cX10_findSheets 89 = .ok (.iload 6, 2) := by decide +kernel
theorem dX10_findSheets_91 : decode cX10_findSheets 91 = .ok (.ifCond .le 66, 3) := by decide +kernel
theorem dX10_findSheets_94 : decode cX10_findSheets 94 = .ok (.iload 5, 2) := by decide +kernel
theorem dX10_findSheets_96 : decode cX10_findSheets 96 = .ok (.ifCond .ne 61, 3) := by decide +kernel
theorem dX10_findSheets_99 : decode cX10_findSheets 99 = .ok (.aload_n 0, 1) := by decide +kernel
theorem dX10_findSheets_100 : decode cX10_findSheets 100 = .ok (.getfield 113, 3) := by decide +kernel
theorem dX10_findSheets_103 : decode cX10_findSheets 103 = .ok (.sipush 2048, 3) := by decide +kernel
theorem dX10_findSheets_106 : decode cX10_findSheets 106 = .ok (.iload 6, 2) := by decide +kernel
theorem dX10_findSheets_108 : decode cX10_findSheets 108 = .ok (.iadd, 1) := by decide +kernel
theorem dX10_findSheets_109 : decode cX10_findSheets 109 = .ok (.baload, 1) := by decide +kernel
theorem dX10_findSheets_110 : decode cX10_findSheets 110 = .ok (.ifCond .eq 32, 3) := by decide +kernel
theorem dX10_findSheets_113 : decode cX10_findSheets 113 = .ok (.aload_n 0, 1) := by decide +kernel
theorem dX10_findSheets_114 : decode cX10_findSheets 114 = .ok (.getfield 113, 3) := by decide +kernel
theorem dX10_findSheets_117 : decode cX10_findSheets 117 = .ok (.sipush 512, 3) := by decide +kernel
theorem dX10_findSheets_120 : decode cX10_findSheets 120 = .ok (.iload_n 3, 1) := by decide +kernel
theorem dX10_findSheets_121 : decode cX10_findSheets 121 = .ok (.iconst 1, 1) := by decide +kernel
theorem dX10_findSheets_122 : decode cX10_findSheets 122 = .ok (.isub, 1) := by decide +kernel
theorem dX10_findSheets_123 : decode cX10_findSheets 123 = .ok (.iconst 1, 1) := by decide +kernel
theorem dX10_findSheets_124 : decode cX10_findSheets 124 = .ok (.iand, 1) := by decide +kernel
theorem dX10_findSheets_125 : decode cX10_findSheets 125 = .ok (.imul, 1) := by decide +kernel
theorem dX10_findSheets_126 : decode cX10_findSheets 126 = .ok (.iload 4, 2) := by decide +kernel
theorem dX10_findSheets_128 : decode cX10_findSheets 128 = .ok (.iload 6, 2) := by decide +kernel
theorem dX10_findSheets_130 : decode cX10_findSheets 130 = .ok (.iconst (-1), 1) := by decide +kernel
theorem dX10_findSheets_131 : decode cX10_findSheets 131 = .ok (.ixor, 1) := by decide +kernel
theorem dX10_findSheets_132 : decode cX10_findSheets 132 = .ok (.iand, 1) := by decide +kernel
theorem dX10_findSheets_133 : decode cX10_findSheets 133 = .ok (.iadd, 1) := by decide +kernel
theorem dX10_findSheets_134 : decode cX10_findSheets 134 = .ok (.baload, 1) := by decide +kernel
theorem dX10_findSheets_135 : decode cX10_findSheets 135 = .ok (.ifCond .eq 7, 3) := by decide +kernel
theorem dX10_findSheets_138 : decode cX10_findSheets 138 = .ok (.iconst 1, 1) := by decide +kernel
theorem dX10_findSheets_139 : decode cX10_findSheets 139 = .ok (.goto 4, 3) := by decide +kernel
theorem dX10_findSheets_142 : decode cX10_findSheets 142 = .ok (.iconst 0, 1) := by decide +kernel
theorem dX10_findSheets_143 : decode cX10_findSheets 143 = .ok (.istore 5, 2) := by decide +kernel
theorem dX10_findSheets_145 : decode cX10_findSheets 145 = .ok (.iload 6, 2) := by decide +kernel
theorem dX10_findSheets_147 : decode cX10_findSheets 147 = .ok (.iconst 1, 1) := by decide +kernel
theorem dX10_findSheets_148 : decode cX10_findSheets 148 = .ok (.isub, 1) := by decide +kernel
theorem dX10_findSheets_149 : decode cX10_findSheets 149 = .ok (.iload 4, 2) := by decide +kernel
theorem dX10_findSheets_151 : decode cX10_findSheets 151 = .ok (.iand, 1) := by decide +kernel
theorem dX10_findSheets_152 : decode cX10_findSheets 152 = .ok (.istore 6, 2) := by decide +kernel
theorem dX10_findSheets_154 : decode cX10_findSheets 154 = .ok (.goto (-65), 3) := by decide +kernel
theorem dX10_findSheets_157 : decode cX10_findSheets 157 = .ok (.aload_n 0, 1) := by decide +kernel
theorem dX10_findSheets_158 : decode cX10_findSheets 158 = .ok (.getfield 113, 3) := by decide +kernel
theorem dX10_findSheets_161 : decode cX10_findSheets 161 = .ok (.sipush 512, 3) := by decide +kernel
theorem dX10_findSheets_164 : decode cX10_findSheets 164 = .ok (.iload_n 3, 1) := by decide +kernel
theorem dX10_findSheets_165 : decode cX10_findSheets 165 = .ok (.iconst 1, 1) := by decide +kernel
theorem dX10_findSheets_166 : decode cX10_findSheets 166 = .ok (.iand, 1) := by decide +kernel
theorem dX10_findSheets_167 : decode cX10_findSheets 167 = .ok (.imul, 1) := by decide +kernel
theorem dX10_findSheets_168 : decode cX10_findSheets 168 = .ok (.iload 4, 2) := by decide +kernel
theorem dX10_findSheets_170 : decode cX10_findSheets 170 = .ok (.iadd, 1) := by decide +kernel
theorem dX10_findSheets_171 : decode cX10_findSheets 171 = .ok (.iload 5, 2) := by decide +kernel
theorem dX10_findSheets_173 : decode cX10_findSheets 173 = .ok (.bastore, 1) := by decide +kernel
theorem dX10_findSheets_174 : decode cX10_findSheets 174 = .ok (.iinc 4 1, 3) := by decide +kernel
theorem dX10_findSheets_177 : decode cX10_findSheets 177 = .ok (.goto (-117), 3) := by decide +kernel
theorem dX10_findSheets_180 : decode cX10_findSheets 180 = .ok (.iinc 3 1, 3) := by decide +kernel
theorem dX10_findSheets_183 : decode cX10_findSheets 183 = .ok (.goto (-131), 3) := by decide +kernel
theorem dX10_findSheets_186 : decode cX10_findSheets 186 = .ok (.return_, 1) := by decide +kernel
theorem dX10_ones_0 : decode cX10_ones 0 = .ok (.iconst 0, 1) := by decide +kernel
theorem dX10_ones_1 : decode cX10_ones 1 = .ok (.istore_n 1, 1) := by decide +kernel
theorem dX10_ones_2 : decode cX10_ones 2 = .ok (.iconst 0, 1) := by decide +kernel
theorem dX10_ones_3 : decode cX10_ones 3 = .ok (.istore_n 2, 1) := by decide +kernel
theorem dX10_ones_4 : decode cX10_ones 4 = .ok (.iload_n 2, 1) := by decide +kernel
theorem dX10_ones_5 : decode cX10_ones 5 = .ok (.bipush 9, 2) := by decide +kernel
theorem dX10_ones_7 : decode cX10_ones 7 = .ok (.if_icmp .ge 17, 3) := by decide +kernel
theorem dX10_ones_10 : decode cX10_ones 10 = .ok (.iload_n 1, 1) := by decide +kernel
theorem dX10_ones_11 : decode cX10_ones 11 = .ok (.iload_n 0, 1) := by decide +kernel
theorem dX10_ones_12 : decode cX10_ones 12 = .ok (.iload_n 2, 1) := by decide +kernel
theorem dX10_ones_13 : decode cX10_ones 13 = .ok (.ishr, 1) := by decide +kernel
theorem dX10_ones_14 : decode cX10_ones 14 = .ok (.iconst 1, 1) := by decide +kernel
theorem dX10_ones_15 : decode cX10_ones 15 = .ok (.iand, 1) := by decide +kernel
theorem dX10_ones_16 : decode cX10_ones 16 = .ok (.iadd, 1) := by decide +kernel
theorem dX10_ones_17 : decode cX10_ones 17 = .ok (.istore_n 1, 1) := by decide +kernel
theorem dX10_ones_18 : decode cX10_ones 18 = .ok (.iinc 2 1, 3) := by decide +kernel
theorem dX10_ones_21 : decode cX10_ones 21 = .ok (.goto (-17), 3) := by decide +kernel
theorem dX10_ones_24 : decode cX10_ones 24 = .ok (.iload_n 1, 1) := by decide +kernel
theorem dX10_ones_25 : decode cX10_ones 25 = .ok (.ireturn, 1) := by decide +kernel
theorem dX10_served_0 : decode cX10_served 0 = .ok (.aload_n 0, 1) := by decide +kernel
theorem dX10_served_1 : decode cX10_served 1 = .ok (.iload_n 1, 1) := by decide +kernel
theorem dX10_served_2 : decode cX10_served 2 = .ok (.invokevirtual 156, 3) := by decide +kernel
theorem dX10_served_5 : decode cX10_served 5 = .ok (.ifCond .ne 5, 3) := by decide +kernel
theorem dX10_served_8 : decode cX10_served 8 = .ok (.iconst (-1), 1) := by decide +kernel
theorem dX10_served_9 : decode cX10_served 9 = .ok (.ireturn, 1) := by decide +kernel
theorem dX10_served_10 : decode cX10_served 10 = .ok (.iload_n 2, 1) := by decide +kernel
theorem dX10_served_11 : decode cX10_served 11 = .ok (.i2l, 1) := by decide +kernel
theorem dX10_served_12 : decode cX10_served 12 = .ok (.lconst 1, 1) := by decide +kernel
theorem dX10_served_13 : decode cX10_served 13 = .ok (.ldc2_w 313, 3) := by decide +kernel
theorem dX10_served_16 : decode cX10_served 16 = .ok (.invokestatic 139, 3) := by decide +kernel
theorem dX10_served_19 : decode cX10_served 19 = .ok (.ifCond .eq 13, 3) := by decide +kernel
theorem dX10_served_22 : decode cX10_served 22 = .ok (.iload_n 3, 1) := by decide +kernel
theorem dX10_served_23 : decode cX10_served 23 = .ok (.i2l, 1) := by decide +kernel
theorem dX10_served_24 : decode cX10_served 24 = .ok (.lconst 0, 1) := by decide +kernel
theorem dX10_served_25 : decode cX10_served 25 = .ok (.lconst 1, 1) := by decide +kernel
theorem dX10_served_26 : decode cX10_served 26 = .ok (.invokestatic 139, 3) := by decide +kernel
theorem dX10_served_29 : decode cX10_served 29 = .ok (.ifCond .ne 6, 3) := by decide +kernel
theorem dX10_served_32 : decode cX10_served 32 = .ok (.bipush (-2), 2) := by decide +kernel
theorem dX10_served_34 : decode cX10_served 34 = .ok (.ireturn, 1) := by decide +kernel
theorem dX10_served_35 : decode cX10_served 35 = .ok (.aload_n 0, 1) := by decide +kernel
theorem dX10_served_36 : decode cX10_served 36 = .ok (.iload_n 1, 1) := by decide +kernel
theorem dX10_served_37 : decode cX10_served 37 = .ok (.invokevirtual 307, 3) := by decide +kernel
theorem dX10_served_40 : decode cX10_served 40 = .ok (.aload_n 0, 1) := by decide +kernel
theorem dX10_served_41 : decode cX10_served 41 = .ok (.iload_n 2, 1) := by decide +kernel
theorem dX10_served_42 : decode cX10_served 42 = .ok (.invokevirtual 315, 3) := by decide +kernel
theorem dX10_served_45 : decode cX10_served 45 = .ok (.iconst 0, 1) := by decide +kernel
theorem dX10_served_46 : decode cX10_served 46 = .ok (.istore 4, 2) := by decide +kernel
theorem dX10_served_48 : decode cX10_served 48 = .ok (.iconst 1, 1) := by decide +kernel
theorem dX10_served_49 : decode cX10_served 49 = .ok (.istore 5, 2) := by decide +kernel
theorem dX10_served_51 : decode cX10_served 51 = .ok (.iload 5, 2) := by decide +kernel
theorem dX10_served_53 : decode cX10_served 53 = .ok (.iconst 1, 1) := by decide +kernel
theorem dX10_served_54 : decode cX10_served 54 = .ok (.aload_n 0, 1) := by decide +kernel
theorem dX10_served_55 : decode cX10_served 55 = .ok (.getfield 304, 3) := by decide +kernel
theorem dX10_served_58 : decode cX10_served 58 = .ok (.ishl, 1) := by decide +kernel
theorem dX10_served_59 : decode cX10_served 59 = .ok (.if_icmp .ge 105, 3) := by decide +kernel
theorem dX10_served_62 : decode cX10_served 62 = .ok (.aload_n 0, 1) := by decide +kernel
theorem dX10_served_63 : decode cX10_served 63 = .ok (.getfield 113, 3) := by decide +kernel
theorem dX10_served_66 : decode cX10_served 66 = .ok (.sipush 512, 3) := by decide +kernel
theorem dX10_served_69 : decode cX10_served 69 = .ok (.iload_n 2, 1) := by decide +kernel
theorem dX10_served_70 : decode cX10_served 70 = .ok (.iconst 1, 1) := by decide +kernel
theorem dX10_served_71 : decode cX10_served 71 = .ok (.iand, 1) := by decide +kernel
theorem dX10_served_72 : decode cX10_served 72 = .ok (.imul, 1) := by decide +kernel
theorem dX10_served_73 : decode cX10_served 73 = .ok (.iload 5, 2) := by decide +kernel
theorem dX10_served_75 : decode cX10_served 75 = .ok (.iadd, 1) := by decide +kernel
theorem dX10_served_76 : decode cX10_served 76 = .ok (.baload, 1) := by decide +kernel
theorem dX10_served_77 : decode cX10_served 77 = .ok (.ifCond .eq 81, 3) := by decide +kernel
theorem dX10_served_80 : decode cX10_served 80 = .ok (.iload 5, 2) := by decide +kernel
theorem dX10_served_82 : decode cX10_served 82 = .ok (.iload 4, 2) := by decide +kernel
theorem dX10_served_84 : decode cX10_served 84 = .ok (.ixor, 1) := by decide +kernel
theorem dX10_served_85 : decode cX10_served 85 = .ok (.istore 6, 2) := by decide +kernel
theorem dX10_served_87 : decode cX10_served 87 = .ok (.iload 5, 2) := by decide +kernel
theorem dX10_served_89 : decode cX10_served 89 = .ok (.iload 6, 2) := by decide +kernel
theorem dX10_served_91 : decode cX10_served 91 = .ok (.iand, 1) := by decide +kernel
theorem dX10_served_92 : decode cX10_served 92 = .ok (.iload 6, 2) := by decide +kernel
theorem dX10_served_94 : decode cX10_served 94 = .ok (.ineg, 1) := by decide +kernel
theorem dX10_served_95 : decode cX10_served 95 = .ok (.iand, 1) := by decide +kernel
theorem dX10_served_96 : decode cX10_served 96 = .ok (.ifCond .eq 7, 3) := by decide +kernel
theorem dX10_served_99 : decode cX10_served 99 = .ok (.iconst 1, 1) := by decide +kernel
theorem dX10_served_100 : decode cX10_served 100 = .ok (.goto 4, 3) := by decide +kernel
theorem dX10_served_103 : decode cX10_served 103 = .ok (.iconst 0, 1) := by decide +kernel
theorem dX10_served_104 : decode cX10_served 104 = .ok (.istore 7, 2) := by decide +kernel
theorem dX10_served_106 : decode cX10_served 106 = .ok (.iload 5, 2) := by decide +kernel
theorem dX10_served_108 : decode cX10_served 108 = .ok (.invokestatic 318, 3) := by decide +kernel
theorem dX10_served_111 : decode cX10_served 111 = .ok (.iload 4, 2) := by decide +kernel
theorem dX10_served_113 : decode cX10_served 113 = .ok (.invokestatic 318, 3) := by decide +kernel
theorem dX10_served_116 : decode cX10_served 116 = .ok (.if_icmp .gt 21, 3) := by decide +kernel
theorem dX10_served_119 : decode cX10_served 119 = .ok (.iload 5, 2) := by decide +kernel
theorem dX10_served_121 : decode cX10_served 121 = .ok (.invokestatic 318, 3) := by decide +kernel
theorem dX10_served_124 : decode cX10_served 124 = .ok (.iload 4, 2) := by decide +kernel
theorem dX10_served_126 : decode cX10_served 126 = .ok (.invokestatic 318, 3) := by decide +kernel
theorem dX10_served_129 : decode cX10_served 129 = .ok (.if_icmp .ne 12, 3) := by decide +kernel
theorem dX10_served_132 : decode cX10_served 132 = .ok (.iload 7, 2) := by decide +kernel
theorem dX10_served_134 : decode cX10_served 134 = .ok (.ifCond .eq 7, 3) := by decide +kernel
theorem dX10_served_137 : decode cX10_served 137 = .ok (.iconst 1, 1) := by decide +kernel
theorem dX10_served_138 : decode cX10_served 138 = .ok (.goto 4, 3) := by decide +kernel
theorem dX10_served_141 : decode cX10_served 141 = .ok (.iconst 0, 1) := by decide +kernel
theorem dX10_served_142 : decode cX10_served 142 = .ok (.istore 8, 2) := by decide +kernel
theorem dX10_served_144 : decode cX10_served 144 = .ok (.iload 8, 2) := by decide +kernel
theorem dX10_served_146 : decode cX10_served 146 = .ok (.ifCond .eq 8, 3) := by decide +kernel
theorem dX10_served_149 : decode cX10_served 149 = .ok (.iload 5, 2) := by decide +kernel
theorem dX10_served_151 : decode cX10_served 151 = .ok (.goto 5, 3) := by decide +kernel
theorem dX10_served_154 : decode cX10_served 154 = .ok (.iload 4, 2) := by decide +kernel
theorem dX10_served_156 : decode cX10_served 156 = .ok (.istore 4, 2) := by decide +kernel
theorem dX10_served_158 : decode cX10_served 158 = .ok (.iinc 5 1, 3) := by decide +kernel
theorem dX10_served_161 : decode cX10_served 161 = .ok (.goto (-110), 3) := by decide +kernel
theorem dX10_served_164 : decode cX10_served 164 = .ok (.iload_n 3, 1) := by decide +kernel
theorem dX10_served_165 : decode cX10_served 165 = .ok (.ifCond .ne 11, 3) := by decide +kernel
theorem dX10_served_168 : decode cX10_served 168 = .ok (.iload 4, 2) := by decide +kernel
theorem dX10_served_170 : decode cX10_served 170 = .ok (.invokestatic 318, 3) := by decide +kernel
theorem dX10_served_173 : decode cX10_served 173 = .ok (.goto 5, 3) := by decide +kernel
theorem dX10_served_176 : decode cX10_served 176 = .ok (.iload 4, 2) := by decide +kernel
theorem dX10_served_178 : decode cX10_served 178 = .ok (.ireturn, 1) := by decide +kernel
theorem dX10_isReader_0 : decode cX10_isReader 0 = .ok (.iload_n 0, 1) := by decide +kernel
theorem dX10_isReader_1 : decode cX10_isReader 1 = .ok (.i2l, 1) := by decide +kernel
theorem dX10_isReader_2 : decode cX10_isReader 2 = .ok (.lconst 0, 1) := by decide +kernel
theorem dX10_isReader_3 : decode cX10_isReader 3 = .ok (.ldc2_w 292, 3) := by decide +kernel
theorem dX10_isReader_6 : decode cX10_isReader 6 = .ok (.invokestatic 139, 3) := by decide +kernel
theorem dX10_isReader_9 : decode cX10_isReader 9 = .ok (.ireturn, 1) := by decide +kernel
theorem dX10_find_0 : decode cX10_find 0 = .ok (.iload_n 1, 1) := by decide +kernel
theorem dX10_find_1 : decode cX10_find 1 = .ok (.invokestatic 321, 3) := by decide +kernel
theorem dX10_find_4 : decode cX10_find 4 = .ok (.ifCond .eq 11, 3) := by decide +kernel
theorem dX10_find_7 : decode cX10_find 7 = .ok (.aload_n 0, 1) := by decide +kernel
theorem dX10_find_8 : decode cX10_find 8 = .ok (.iload_n 2, 1) := by decide +kernel
theorem dX10_find_9 : decode cX10_find 9 = .ok (.invokevirtual 186, 3) := by decide +kernel
theorem dX10_find_12 : decode cX10_find 12 = .ok (.ifCond .ne 5, 3) := by decide +kernel
theorem dX10_find_15 : decode cX10_find 15 = .ok (.iconst (-1), 1) := by decide +kernel
theorem dX10_find_16 : decode cX10_find 16 = .ok (.ireturn, 1) := by decide +kernel
theorem dX10_find_17 : decode cX10_find 17 = .ok (.aload_n 0, 1) := by decide +kernel
theorem dX10_find_18 : decode cX10_find 18 = .ok (.getfield 116, 3) := by decide +kernel
theorem dX10_find_21 : decode cX10_find 21 = .ok (.iload_n 1, 1) := by decide +kernel
theorem dX10_find_22 : decode cX10_find 22 = .ok (.iaload, 1) := by decide +kernel
theorem dX10_find_23 : decode cX10_find 23 = .ok (.iload_n 2, 1) := by decide +kernel
theorem dX10_find_24 : decode cX10_find 24 = .ok (.ishr, 1) := by decide +kernel
theorem dX10_find_25 : decode cX10_find 25 = .ok (.iconst 1, 1) := by decide +kernel
theorem dX10_find_26 : decode cX10_find 26 = .ok (.iand, 1) := by decide +kernel
theorem dX10_find_27 : decode cX10_find 27 = .ok (.istore 4, 2) := by decide +kernel
theorem dX10_find_29 : decode cX10_find 29 = .ok (.aload_n 0, 1) := by decide +kernel
theorem dX10_find_30 : decode cX10_find 30 = .ok (.getfield 116, 3) := by decide +kernel
theorem dX10_find_33 : decode cX10_find 33 = .ok (.iload_n 1, 1) := by decide +kernel
theorem dX10_find_34 : decode cX10_find 34 = .ok (.iload_n 3, 1) := by decide +kernel
theorem dX10_find_35 : decode cX10_find 35 = .ok (.ifCond .eq 16, 3) := by decide +kernel
theorem dX10_find_38 : decode cX10_find 38 = .ok (.aload_n 0, 1) := by decide +kernel
theorem dX10_find_39 : decode cX10_find 39 = .ok (.getfield 116, 3) := by decide +kernel
theorem dX10_find_42 : decode cX10_find 42 = .ok (.iload_n 1, 1) := by decide +kernel
theorem dX10_find_43 : decode cX10_find 43 = .ok (.iaload, 1) := by decide +kernel
theorem dX10_find_44 : decode cX10_find 44 = .ok (.iconst 1, 1) := by decide +kernel
theorem dX10_find_45 : decode cX10_find 45 = .ok (.iload_n 2, 1) := by decide +kernel
theorem dX10_find_46 : decode cX10_find 46 = .ok (.ishl, 1) := by decide +kernel
theorem dX10_find_47 : decode cX10_find 47 = .ok (.ior, 1) := by decide +kernel
theorem dX10_find_48 : decode cX10_find 48 = .ok (.goto 15, 3) := by decide +kernel
theorem dX10_find_51 : decode cX10_find 51 = .ok (.aload_n 0, 1) := by decide +kernel
theorem dX10_find_52 : decode cX10_find 52 = .ok (.getfield 116, 3) := by decide +kernel
theorem dX10_find_55 : decode cX10_find 55 = .ok (.iload_n 1, 1) := by decide +kernel
theorem dX10_find_56 : decode cX10_find 56 = .ok (.iaload, 1) := by decide +kernel
theorem dX10_find_57 : decode cX10_find 57 = .ok (.iconst 1, 1) := by decide +kernel
theorem dX10_find_58 : decode cX10_find 58 = .ok (.iload_n 2, 1) := by decide +kernel
theorem dX10_find_59 : decode cX10_find 59 = .ok (.ishl, 1) := by decide +kernel
theorem dX10_find_60 : decode cX10_find 60 = .ok (.iconst (-1), 1) := by decide +kernel
theorem dX10_find_61 : decode cX10_find 61 = .ok (.ixor, 1) := by decide +kernel
theorem dX10_find_62 : decode cX10_find 62 = .ok (.iand, 1) := by decide +kernel
theorem dX10_find_63 : decode cX10_find 63 = .ok (.iastore, 1) := by decide +kernel
theorem dX10_find_64 : decode cX10_find 64 = .ok (.iload 4, 2) := by decide +kernel
theorem dX10_find_66 : decode cX10_find 66 = .ok (.ireturn, 1) := by decide +kernel
theorem dX10_foundBy_0 : decode cX10_foundBy 0 = .ok (.iconst 0, 1) := by decide +kernel
theorem dX10_foundBy_1 : decode cX10_foundBy 1 = .ok (.istore_n 2, 1) := by decide +kernel
theorem dX10_foundBy_2 : decode cX10_foundBy 2 = .ok (.iconst 0, 1) := by decide +kernel
theorem dX10_foundBy_3 : decode cX10_foundBy 3 = .ok (.istore_n 3, 1) := by decide +kernel
theorem dX10_foundBy_4 : decode cX10_foundBy 4 = .ok (.iload_n 3, 1) := by decide +kernel
theorem dX10_foundBy_5 : decode cX10_foundBy 5 = .ok (.aload_n 0, 1) := by decide +kernel
theorem dX10_foundBy_6 : decode cX10_foundBy 6 = .ok (.getfield 147, 3) := by decide +kernel
theorem dX10_foundBy_9 : decode cX10_foundBy 9 = .ok (.if_icmp .ge 17, 3) := by decide +kernel
theorem dX10_foundBy_12 : decode cX10_foundBy 12 = .ok (.iload_n 2, 1) := by decide +kernel
theorem dX10_foundBy_13 : decode cX10_foundBy 13 = .ok (.iload_n 1, 1) := by decide +kernel
theorem dX10_foundBy_14 : decode cX10_foundBy 14 = .ok (.iload_n 3, 1) := by decide +kernel
theorem dX10_foundBy_15 : decode cX10_foundBy 15 = .ok (.ishr, 1) := by decide +kernel
theorem dX10_foundBy_16 : decode cX10_foundBy 16 = .ok (.iconst 1, 1) := by decide +kernel
theorem dX10_foundBy_17 : decode cX10_foundBy 17 = .ok (.iand, 1) := by decide +kernel
theorem dX10_foundBy_18 : decode cX10_foundBy 18 = .ok (.iadd, 1) := by decide +kernel
theorem dX10_foundBy_19 : decode cX10_foundBy 19 = .ok (.istore_n 2, 1) := by decide +kernel
theorem dX10_foundBy_20 : decode cX10_foundBy 20 = .ok (.iinc 3 1, 3) := by decide +kernel
theorem dX10_foundBy_23 : decode cX10_foundBy 23 = .ok (.goto (-19), 3) := by decide +kernel
theorem dX10_foundBy_26 : decode cX10_foundBy 26 = .ok (.iload_n 2, 1) := by decide +kernel
theorem dX10_foundBy_27 : decode cX10_foundBy 27 = .ok (.ireturn, 1) := by decide +kernel
theorem dX10_lowest_0 : decode cX10_lowest 0 = .ok (.iload_n 0, 1) := by decide +kernel
theorem dX10_lowest_1 : decode cX10_lowest 1 = .ok (.istore_n 3, 1) := by decide +kernel
theorem dX10_lowest_2 : decode cX10_lowest 2 = .ok (.iload_n 1, 1) := by decide +kernel
theorem dX10_lowest_3 : decode cX10_lowest 3 = .ok (.istore 4, 2) := by decide +kernel
theorem dX10_lowest_5 : decode cX10_lowest 5 = .ok (.iload 4, 2) := by decide +kernel
theorem dX10_lowest_7 : decode cX10_lowest 7 = .ok (.ifCond .eq 19, 3) := by decide +kernel
theorem dX10_lowest_10 : decode cX10_lowest 10 = .ok (.iload_n 3, 1) := by decide +kernel
theorem dX10_lowest_11 : decode cX10_lowest 11 = .ok (.iload 4, 2) := by decide +kernel
theorem dX10_lowest_13 : decode cX10_lowest 13 = .ok (.irem, 1) := by decide +kernel
theorem dX10_lowest_14 : decode cX10_lowest 14 = .ok (.istore 5, 2) := by decide +kernel
theorem dX10_lowest_16 : decode cX10_lowest 16 = .ok (.iload 4, 2) := by decide +kernel
theorem dX10_lowest_18 : decode cX10_lowest 18 = .ok (.istore_n 3, 1) := by decide +kernel
theorem dX10_lowest_19 : decode cX10_lowest 19 = .ok (.iload 5, 2) := by decide +kernel
theorem dX10_lowest_21 : decode cX10_lowest 21 = .ok (.istore 4, 2) := by decide +kernel
theorem dX10_lowest_23 : decode cX10_lowest 23 = .ok (.goto (-18), 3) := by decide +kernel
theorem dX10_lowest_26 : decode cX10_lowest 26 = .ok (.iload_n 2, 1) := by decide +kernel
theorem dX10_lowest_27 : decode cX10_lowest 27 = .ok (.ifCond .ne 9, 3) := by decide +kernel
theorem dX10_lowest_30 : decode cX10_lowest 30 = .ok (.iload_n 0, 1) := by decide +kernel
theorem dX10_lowest_31 : decode cX10_lowest 31 = .ok (.iload_n 3, 1) := by decide +kernel
theorem dX10_lowest_32 : decode cX10_lowest 32 = .ok (.idiv, 1) := by decide +kernel
theorem dX10_lowest_33 : decode cX10_lowest 33 = .ok (.goto 6, 3) := by decide +kernel
theorem dX10_lowest_36 : decode cX10_lowest 36 = .ok (.iload_n 1, 1) := by decide +kernel
theorem dX10_lowest_37 : decode cX10_lowest 37 = .ok (.iload_n 3, 1) := by decide +kernel
theorem dX10_lowest_38 : decode cX10_lowest 38 = .ok (.idiv, 1) := by decide +kernel
theorem dX10_lowest_39 : decode cX10_lowest 39 = .ok (.ireturn, 1) := by decide +kernel
theorem dX10_misses_0 : decode cX10_misses 0 = .ok (.iload_n 1, 1) := by decide +kernel
theorem dX10_misses_1 : decode cX10_misses 1 = .ok (.invokestatic 321, 3) := by decide +kernel
theorem dX10_misses_4 : decode cX10_misses 4 = .ok (.ifCond .eq 15, 3) := by decide +kernel
theorem dX10_misses_7 : decode cX10_misses 7 = .ok (.iload_n 2, 1) := by decide +kernel
theorem dX10_misses_8 : decode cX10_misses 8 = .ok (.invokestatic 321, 3) := by decide +kernel
theorem dX10_misses_11 : decode cX10_misses 11 = .ok (.ifCond .eq 8, 3) := by decide +kernel
theorem dX10_misses_14 : decode cX10_misses 14 = .ok (.iload_n 1, 1) := by decide +kernel
theorem dX10_misses_15 : decode cX10_misses 15 = .ok (.iload_n 2, 1) := by decide +kernel
theorem dX10_misses_16 : decode cX10_misses 16 = .ok (.if_icmp .ne 5, 3) := by decide +kernel
theorem dX10_misses_19 : decode cX10_misses 19 = .ok (.iconst (-1), 1) := by decide +kernel
theorem dX10_misses_20 : decode cX10_misses 20 = .ok (.ireturn, 1) := by decide +kernel
theorem dX10_misses_21 : decode cX10_misses 21 = .ok (.iload_n 3, 1) := by decide +kernel
theorem dX10_misses_22 : decode cX10_misses 22 = .ok (.i2l, 1) := by decide +kernel
theorem dX10_misses_23 : decode cX10_misses 23 = .ok (.lconst 0, 1) := by decide +kernel
theorem dX10_misses_24 : decode cX10_misses 24 = .ok (.lconst 1, 1) := by decide +kernel
theorem dX10_misses_25 : decode cX10_misses 25 = .ok (.invokestatic 139, 3) := by decide +kernel
theorem dX10_misses_28 : decode cX10_misses 28 = .ok (.ifCond .eq 14, 3) := by decide +kernel
theorem dX10_misses_31 : decode cX10_misses 31 = .ok (.iload 4, 2) := by decide +kernel
theorem dX10_misses_33 : decode cX10_misses 33 = .ok (.i2l, 1) := by decide +kernel
theorem dX10_misses_34 : decode cX10_misses 34 = .ok (.lconst 0, 1) := by decide +kernel
theorem dX10_misses_35 : decode cX10_misses 35 = .ok (.lconst 1, 1) := by decide +kernel
theorem dX10_misses_36 : decode cX10_misses 36 = .ok (.invokestatic 139, 3) := by decide +kernel
theorem dX10_misses_39 : decode cX10_misses 39 = .ok (.ifCond .ne 6, 3) := by decide +kernel
theorem dX10_misses_42 : decode cX10_misses 42 = .ok (.bipush (-2), 2) := by decide +kernel
theorem dX10_misses_44 : decode cX10_misses 44 = .ok (.ireturn, 1) := by decide +kernel
theorem dX10_misses_45 : decode cX10_misses 45 = .ok (.aload_n 0, 1) := by decide +kernel
theorem dX10_misses_46 : decode cX10_misses 46 = .ok (.aload_n 0, 1) := by decide +kernel
theorem dX10_misses_47 : decode cX10_misses 47 = .ok (.getfield 116, 3) := by decide +kernel
theorem dX10_misses_50 : decode cX10_misses 50 = .ok (.iload_n 1, 1) := by decide +kernel
theorem dX10_misses_51 : decode cX10_misses 51 = .ok (.iaload, 1) := by decide +kernel
theorem dX10_misses_52 : decode cX10_misses 52 = .ok (.invokevirtual 324, 3) := by decide +kernel
theorem dX10_misses_55 : decode cX10_misses 55 = .ok (.istore 5, 2) := by decide +kernel
theorem dX10_misses_57 : decode cX10_misses 57 = .ok (.aload_n 0, 1) := by decide +kernel
theorem dX10_misses_58 : decode cX10_misses 58 = .ok (.aload_n 0, 1) := by decide +kernel
theorem dX10_misses_59 : decode cX10_misses 59 = .ok (.getfield 116, 3) := by decide +kernel
theorem dX10_misses_62 : decode cX10_misses 62 = .ok (.iload_n 2, 1) := by decide +kernel
theorem dX10_misses_63 : decode cX10_misses 63 = .ok (.iaload, 1) := by decide +kernel
theorem dX10_misses_64 : decode cX10_misses 64 = .ok (.invokevirtual 324, 3) := by decide +kernel
theorem dX10_misses_67 : decode cX10_misses 67 = .ok (.istore 6, 2) := by decide +kernel
theorem dX10_misses_69 : decode cX10_misses 69 = .ok (.aload_n 0, 1) := by decide +kernel
theorem dX10_misses_70 : decode cX10_misses 70 = .ok (.aload_n 0, 1) := by decide +kernel
theorem dX10_misses_71 : decode cX10_misses 71 = .ok (.getfield 116, 3) := by decide +kernel
theorem dX10_misses_74 : decode cX10_misses 74 = .ok (.iload_n 1, 1) := by decide +kernel
theorem dX10_misses_75 : decode cX10_misses 75 = .ok (.iaload, 1) := by decide +kernel
theorem dX10_misses_76 : decode cX10_misses 76 = .ok (.aload_n 0, 1) := by decide +kernel
theorem dX10_misses_77 : decode cX10_misses 77 = .ok (.getfield 116, 3) := by decide +kernel
theorem dX10_misses_80 : decode cX10_misses 80 = .ok (.iload_n 2, 1) := by decide +kernel
theorem dX10_misses_81 : decode cX10_misses 81 = .ok (.iaload, 1) := by decide +kernel
theorem dX10_misses_82 : decode cX10_misses 82 = .ok (.iand, 1) := by decide +kernel
theorem dX10_misses_83 : decode cX10_misses 83 = .ok (.invokevirtual 324, 3) := by decide +kernel
theorem dX10_misses_86 : decode cX10_misses 86 = .ok (.istore 7, 2) := by decide +kernel
theorem dX10_misses_88 : decode cX10_misses 88 = .ok (.iload 7, 2) := by decide +kernel
theorem dX10_misses_90 : decode cX10_misses 90 = .ok (.ifCond .ne 6, 3) := by decide +kernel
theorem dX10_misses_93 : decode cX10_misses 93 = .ok (.iload 4, 2) := by decide +kernel
theorem dX10_misses_95 : decode cX10_misses 95 = .ok (.ireturn, 1) := by decide +kernel
theorem dX10_misses_96 : decode cX10_misses 96 = .ok (.iload_n 3, 1) := by decide +kernel
theorem dX10_misses_97 : decode cX10_misses 97 = .ok (.ifCond .ne 11, 3) := by decide +kernel
theorem dX10_misses_100 : decode cX10_misses 100 = .ok (.iload 5, 2) := by decide +kernel
theorem dX10_misses_102 : decode cX10_misses 102 = .ok (.iload 6, 2) := by decide +kernel
theorem dX10_misses_104 : decode cX10_misses 104 = .ok (.imul, 1) := by decide +kernel
theorem dX10_misses_105 : decode cX10_misses 105 = .ok (.goto 14, 3) := by decide +kernel
theorem dX10_misses_108 : decode cX10_misses 108 = .ok (.iload 5, 2) := by decide +kernel
theorem dX10_misses_110 : decode cX10_misses 110 = .ok (.iload 7, 2) := by decide +kernel
theorem dX10_misses_112 : decode cX10_misses 112 = .ok (.isub, 1) := by decide +kernel
theorem dX10_misses_113 : decode cX10_misses 113 = .ok (.iload 6, 2) := by decide +kernel
theorem dX10_misses_115 : decode cX10_misses 115 = .ok (.iload 7, 2) := by decide +kernel
theorem dX10_misses_117 : decode cX10_misses 117 = .ok (.isub, 1) := by decide +kernel
theorem dX10_misses_118 : decode cX10_misses 118 = .ok (.imul, 1) := by decide +kernel
theorem dX10_misses_119 : decode cX10_misses 119 = .ok (.iload 7, 2) := by decide +kernel
theorem dX10_misses_121 : decode cX10_misses 121 = .ok (.iload 4, 2) := by decide +kernel
theorem dX10_misses_123 : decode cX10_misses 123 = .ok (.invokestatic 327, 3) := by decide +kernel
theorem dX10_misses_126 : decode cX10_misses 126 = .ok (.ireturn, 1) := by decide +kernel
theorem dX10_reader_0 : decode cX10_reader 0 = .ok (.iload_n 1, 1) := by decide +kernel
theorem dX10_reader_1 : decode cX10_reader 1 = .ok (.invokestatic 321, 3) := by decide +kernel
theorem dX10_reader_4 : decode cX10_reader 4 = .ok (.ifCond .ne 5, 3) := by decide +kernel
theorem dX10_reader_7 : decode cX10_reader 7 = .ok (.iconst (-1), 1) := by decide +kernel
theorem dX10_reader_8 : decode cX10_reader 8 = .ok (.ireturn, 1) := by decide +kernel
theorem dX10_reader_9 : decode cX10_reader 9 = .ok (.iload_n 2, 1) := by decide +kernel
theorem dX10_reader_10 : decode cX10_reader 10 = .ok (.i2l, 1) := by decide +kernel
theorem dX10_reader_11 : decode cX10_reader 11 = .ok (.lconst 0, 1) := by decide +kernel
theorem dX10_reader_12 : decode cX10_reader 12 = .ok (.lconst 1, 1) := by decide +kernel
theorem dX10_reader_13 : decode cX10_reader 13 = .ok (.invokestatic 139, 3) := by decide +kernel
theorem dX10_reader_16 : decode cX10_reader 16 = .ok (.ifCond .eq 33, 3) := by decide +kernel
theorem dX10_reader_19 : decode cX10_reader 19 = .ok (.iload_n 3, 1) := by decide +kernel
theorem dX10_reader_20 : decode cX10_reader 20 = .ok (.i2l, 1) := by decide +kernel
theorem dX10_reader_21 : decode cX10_reader 21 = .ok (.iload_n 2, 1) := by decide +kernel
theorem dX10_reader_22 : decode cX10_reader 22 = .ok (.ifCond .ne 7, 3) := by decide +kernel
theorem dX10_reader_25 : decode cX10_reader 25 = .ok (.lconst 1, 1) := by decide +kernel
theorem dX10_reader_26 : decode cX10_reader 26 = .ok (.goto 4, 3) := by decide +kernel
theorem dX10_reader_29 : decode cX10_reader 29 = .ok (.lconst 0, 1) := by decide +kernel
theorem dX10_reader_30 : decode cX10_reader 30 = .ok (.iload_n 2, 1) := by decide +kernel
theorem dX10_reader_31 : decode cX10_reader 31 = .ok (.ifCond .ne 9, 3) := by decide +kernel
theorem dX10_reader_34 : decode cX10_reader 34 = .ok (.ldc2_w 170, 3) := by decide +kernel
theorem dX10_reader_37 : decode cX10_reader 37 = .ok (.goto 6, 3) := by decide +kernel
theorem dX10_reader_40 : decode cX10_reader 40 = .ok (.ldc2_w 330, 3) := by decide +kernel
theorem dX10_reader_43 : decode cX10_reader 43 = .ok (.invokestatic 139, 3) := by decide +kernel
theorem dX10_reader_46 : decode cX10_reader 46 = .ok (.ifCond .ne 6, 3) := by decide +kernel
theorem dX10_reader_49 : decode cX10_reader 49 = .ok (.bipush (-2), 2) := by decide +kernel
theorem dX10_reader_51 : decode cX10_reader 51 = .ok (.ireturn, 1) := by decide +kernel
theorem dX10_reader_52 : decode cX10_reader 52 = .ok (.aload_n 0, 1) := by decide +kernel
theorem dX10_reader_53 : decode cX10_reader 53 = .ok (.getfield 119, 3) := by decide +kernel
theorem dX10_reader_56 : decode cX10_reader 56 = .ok (.iconst 2, 1) := by decide +kernel
theorem dX10_reader_57 : decode cX10_reader 57 = .ok (.iload_n 1, 1) := by decide +kernel
theorem dX10_reader_58 : decode cX10_reader 58 = .ok (.imul, 1) := by decide +kernel
theorem dX10_reader_59 : decode cX10_reader 59 = .ok (.iload_n 2, 1) := by decide +kernel
theorem dX10_reader_60 : decode cX10_reader 60 = .ok (.iadd, 1) := by decide +kernel
theorem dX10_reader_61 : decode cX10_reader 61 = .ok (.iaload, 1) := by decide +kernel
theorem dX10_reader_62 : decode cX10_reader 62 = .ok (.istore 4, 2) := by decide +kernel
theorem dX10_reader_64 : decode cX10_reader 64 = .ok (.aload_n 0, 1) := by decide +kernel
theorem dX10_reader_65 : decode cX10_reader 65 = .ok (.getfield 119, 3) := by decide +kernel
theorem dX10_reader_68 : decode cX10_reader 68 = .ok (.iconst 2, 1) := by decide +kernel
theorem dX10_reader_69 : decode cX10_reader 69 = .ok (.iload_n 1, 1) := by decide +kernel
theorem dX10_reader_70 : decode cX10_reader 70 = .ok (.imul, 1) := by decide +kernel
theorem dX10_reader_71 : decode cX10_reader 71 = .ok (.iload_n 2, 1) := by decide +kernel
theorem dX10_reader_72 : decode cX10_reader 72 = .ok (.iadd, 1) := by decide +kernel
theorem dX10_reader_73 : decode cX10_reader 73 = .ok (.iload_n 3, 1) := by decide +kernel
theorem dX10_reader_74 : decode cX10_reader 74 = .ok (.iastore, 1) := by decide +kernel
theorem dX10_reader_75 : decode cX10_reader 75 = .ok (.iload 4, 2) := by decide +kernel
theorem dX10_reader_77 : decode cX10_reader 77 = .ok (.ireturn, 1) := by decide +kernel
theorem dX10_slips_0 : decode cX10_slips 0 = .ok (.iload_n 1, 1) := by decide +kernel
theorem dX10_slips_1 : decode cX10_slips 1 = .ok (.invokestatic 321, 3) := by decide +kernel
theorem dX10_slips_4 : decode cX10_slips 4 = .ok (.ifCond .ne 5, 3) := by decide +kernel
theorem dX10_slips_7 : decode cX10_slips 7 = .ok (.iconst (-1), 1) := by decide +kernel
theorem dX10_slips_8 : decode cX10_slips 8 = .ok (.ireturn, 1) := by decide +kernel
theorem dX10_slips_9 : decode cX10_slips 9 = .ok (.iload_n 2, 1) := by decide +kernel
theorem dX10_slips_10 : decode cX10_slips 10 = .ok (.i2l, 1) := by decide +kernel
theorem dX10_slips_11 : decode cX10_slips 11 = .ok (.lconst 0, 1) := by decide +kernel
theorem dX10_slips_12 : decode cX10_slips 12 = .ok (.ldc2_w 150, 3) := by decide +kernel
theorem dX10_slips_15 : decode cX10_slips 15 = .ok (.invokestatic 139, 3) := by decide +kernel
theorem dX10_slips_18 : decode cX10_slips 18 = .ok (.ifCond .eq 15, 3) := by decide +kernel
theorem dX10_slips_21 : decode cX10_slips 21 = .ok (.iload_n 3, 1) := by decide +kernel
theorem dX10_slips_22 : decode cX10_slips 22 = .ok (.i2l, 1) := by decide +kernel
theorem dX10_slips_23 : decode cX10_slips 23 = .ok (.lconst 0, 1) := by decide +kernel
theorem dX10_slips_24 : decode cX10_slips 24 = .ok (.ldc2_w 170, 3) := by decide +kernel
theorem dX10_slips_27 : decode cX10_slips 27 = .ok (.invokestatic 139, 3) := by decide +kernel
theorem dX10_slips_30 : decode cX10_slips 30 = .ok (.ifCond .ne 6, 3) := by decide +kernel
theorem dX10_slips_33 : decode cX10_slips 33 = .ok (.bipush (-2), 2) := by decide +kernel
theorem dX10_slips_35 : decode cX10_slips 35 = .ok (.ireturn, 1) := by decide +kernel
theorem dX10_slips_36 : decode cX10_slips 36 = .ok (.aload_n 0, 1) := by decide +kernel
theorem dX10_slips_37 : decode cX10_slips 37 = .ok (.getfield 122, 3) := by decide +kernel
theorem dX10_slips_40 : decode cX10_slips 40 = .ok (.bipush 10, 2) := by decide +kernel
theorem dX10_slips_42 : decode cX10_slips 42 = .ok (.iload_n 1, 1) := by decide +kernel
theorem dX10_slips_43 : decode cX10_slips 43 = .ok (.imul, 1) := by decide +kernel
theorem dX10_slips_44 : decode cX10_slips 44 = .ok (.iload_n 2, 1) := by decide +kernel
theorem dX10_slips_45 : decode cX10_slips 45 = .ok (.iadd, 1) := by decide +kernel
theorem dX10_slips_46 : decode cX10_slips 46 = .ok (.iaload, 1) := by decide +kernel
theorem dX10_slips_47 : decode cX10_slips 47 = .ok (.istore 4, 2) := by decide +kernel
theorem dX10_slips_49 : decode cX10_slips 49 = .ok (.aload_n 0, 1) := by decide +kernel
theorem dX10_slips_50 : decode cX10_slips 50 = .ok (.getfield 122, 3) := by decide +kernel
theorem dX10_slips_53 : decode cX10_slips 53 = .ok (.bipush 10, 2) := by decide +kernel
theorem dX10_slips_55 : decode cX10_slips 55 = .ok (.iload_n 1, 1) := by decide +kernel
theorem dX10_slips_56 : decode cX10_slips 56 = .ok (.imul, 1) := by decide +kernel
theorem dX10_slips_57 : decode cX10_slips 57 = .ok (.iload_n 2, 1) := by decide +kernel
theorem dX10_slips_58 : decode cX10_slips 58 = .ok (.iadd, 1) := by decide +kernel
theorem dX10_slips_59 : decode cX10_slips 59 = .ok (.iload_n 3, 1) := by decide +kernel
theorem dX10_slips_60 : decode cX10_slips 60 = .ok (.iastore, 1) := by decide +kernel
theorem dX10_slips_61 : decode cX10_slips 61 = .ok (.iload 4, 2) := by decide +kernel
theorem dX10_slips_63 : decode cX10_slips 63 = .ok (.ireturn, 1) := by decide +kernel
theorem dX10_tried_0 : decode cX10_tried 0 = .ok (.iconst 0, 1) := by decide +kernel
theorem dX10_tried_1 : decode cX10_tried 1 = .ok (.istore_n 2, 1) := by decide +kernel
theorem dX10_tried_2 : decode cX10_tried 2 = .ok (.iconst 0, 1) := by decide +kernel
theorem dX10_tried_3 : decode cX10_tried 3 = .ok (.istore_n 3, 1) := by decide +kernel
theorem dX10_tried_4 : decode cX10_tried 4 = .ok (.iload_n 3, 1) := by decide +kernel
theorem dX10_tried_5 : decode cX10_tried 5 = .ok (.iconst 4, 1) := by decide +kernel
theorem dX10_tried_6 : decode cX10_tried 6 = .ok (.if_icmp .ge 25, 3) := by decide +kernel
theorem dX10_tried_9 : decode cX10_tried 9 = .ok (.aload_n 0, 1) := by decide +kernel
theorem dX10_tried_10 : decode cX10_tried 10 = .ok (.getfield 131, 3) := by decide +kernel
theorem dX10_tried_13 : decode cX10_tried 13 = .ok (.iload_n 3, 1) := by decide +kernel
theorem dX10_tried_14 : decode cX10_tried 14 = .ok (.aload_n 0, 1) := by decide +kernel
theorem dX10_tried_15 : decode cX10_tried 15 = .ok (.getfield 119, 3) := by decide +kernel
theorem dX10_tried_18 : decode cX10_tried 18 = .ok (.iconst 2, 1) := by decide +kernel
theorem dX10_tried_19 : decode cX10_tried 19 = .ok (.iload_n 3, 1) := by decide +kernel
theorem dX10_tried_20 : decode cX10_tried 20 = .ok (.imul, 1) := by decide +kernel
theorem dX10_tried_21 : decode cX10_tried 21 = .ok (.iconst 1, 1) := by decide +kernel
theorem dX10_tried_22 : decode cX10_tried 22 = .ok (.iadd, 1) := by decide +kernel
theorem dX10_tried_23 : decode cX10_tried 23 = .ok (.iaload, 1) := by decide +kernel
theorem dX10_tried_24 : decode cX10_tried 24 = .ok (.iastore, 1) := by decide +kernel
theorem dX10_tried_25 : decode cX10_tried 25 = .ok (.iinc 3 1, 3) := by decide +kernel
theorem dX10_tried_28 : decode cX10_tried 28 = .ok (.goto (-24), 3) := by decide +kernel
theorem dX10_tried_31 : decode cX10_tried 31 = .ok (.iconst 0, 1) := by decide +kernel
theorem dX10_tried_32 : decode cX10_tried 32 = .ok (.istore_n 3, 1) := by decide +kernel
theorem dX10_tried_33 : decode cX10_tried 33 = .ok (.iload_n 3, 1) := by decide +kernel
theorem dX10_tried_34 : decode cX10_tried 34 = .ok (.aload_n 0, 1) := by decide +kernel
theorem dX10_tried_35 : decode cX10_tried 35 = .ok (.getfield 143, 3) := by decide +kernel
theorem dX10_tried_38 : decode cX10_tried 38 = .ok (.if_icmp .ge 97, 3) := by decide +kernel
theorem dX10_tried_41 : decode cX10_tried 41 = .ok (.iload_n 1, 1) := by decide +kernel
theorem dX10_tried_42 : decode cX10_tried 42 = .ok (.iload_n 3, 1) := by decide +kernel
theorem dX10_tried_43 : decode cX10_tried 43 = .ok (.ishr, 1) := by decide +kernel
theorem dX10_tried_44 : decode cX10_tried 44 = .ok (.iconst 1, 1) := by decide +kernel
theorem dX10_tried_45 : decode cX10_tried 45 = .ok (.iand, 1) := by decide +kernel
theorem dX10_tried_46 : decode cX10_tried 46 = .ok (.iconst 1, 1) := by decide +kernel
theorem dX10_tried_47 : decode cX10_tried 47 = .ok (.if_icmp .ne 82, 3) := by decide +kernel
theorem dX10_tried_50 : decode cX10_tried 50 = .ok (.aload_n 0, 1) := by decide +kernel
theorem dX10_tried_51 : decode cX10_tried 51 = .ok (.getfield 125, 3) := by decide +kernel
theorem dX10_tried_54 : decode cX10_tried 54 = .ok (.iload_n 3, 1) := by decide +kernel
theorem dX10_tried_55 : decode cX10_tried 55 = .ok (.iaload, 1) := by decide +kernel
theorem dX10_tried_56 : decode cX10_tried 56 = .ok (.istore 4, 2) := by decide +kernel
theorem dX10_tried_58 : decode cX10_tried 58 = .ok (.iload 4, 2) := by decide +kernel
theorem dX10_tried_60 : decode cX10_tried 60 = .ok (.iconst 4, 1) := by decide +kernel
theorem dX10_tried_61 : decode cX10_tried 61 = .ok (.if_icmp .ne 15, 3) := by decide +kernel
theorem dX10_tried_64 : decode cX10_tried 64 = .ok (.iload_n 2, 1) := by decide +kernel
theorem dX10_tried_65 : decode cX10_tried 65 = .ok (.aload_n 0, 1) := by decide +kernel
theorem dX10_tried_66 : decode cX10_tried 66 = .ok (.getfield 43, 3) := by decide +kernel
theorem dX10_tried_69 : decode cX10_tried 69 = .ok (.iconst 3, 1) := by decide +kernel
theorem dX10_tried_70 : decode cX10_tried 70 = .ok (.iaload, 1) := by decide +kernel
theorem dX10_tried_71 : decode cX10_tried 71 = .ok (.iadd, 1) := by decide +kernel
theorem dX10_tried_72 : decode cX10_tried 72 = .ok (.istore_n 2, 1) := by decide +kernel
theorem dX10_tried_73 : decode cX10_tried 73 = .ok (.goto 56, 3) := by decide +kernel
theorem dX10_tried_76 : decode cX10_tried 76 = .ok (.aload_n 0, 1) := by decide +kernel
theorem dX10_tried_77 : decode cX10_tried 77 = .ok (.getfield 131, 3) := by decide +kernel
theorem dX10_tried_80 : decode cX10_tried 80 = .ok (.iload 4, 2) := by decide +kernel
theorem dX10_tried_82 : decode cX10_tried 82 = .ok (.dup2, 1) := by decide +kernel
theorem dX10_tried_83 : decode cX10_tried 83 = .ok (.iaload, 1) := by decide +kernel
theorem dX10_tried_84 : decode cX10_tried 84 = .ok (.aload_n 0, 1) := by decide +kernel
theorem dX10_tried_85 : decode cX10_tried 85 = .ok (.getfield 119, 3) := by decide +kernel
theorem dX10_tried_88 : decode cX10_tried 88 = .ok (.iconst 2, 1) := by decide +kernel
theorem dX10_tried_89 : decode cX10_tried 89 = .ok (.iload 4, 2) := by decide +kernel
theorem dX10_tried_91 : decode cX10_tried 91 = .ok (.imul, 1) := by decide +kernel
theorem dX10_tried_92 : decode cX10_tried 92 = .ok (.iaload, 1) := by decide +kernel
theorem dX10_tried_93 : decode cX10_tried 93 = .ok (.isub, 1) := by decide +kernel
theorem dX10_tried_94 : decode cX10_tried 94 = .ok (.iastore, 1) := by decide +kernel
theorem dX10_tried_95 : decode cX10_tried 95 = .ok (.iload_n 2, 1) := by decide +kernel
theorem dX10_tried_96 : decode cX10_tried 96 = .ok (.aload_n 0, 1) := by decide +kernel
theorem dX10_tried_97 : decode cX10_tried 97 = .ok (.getfield 122, 3) := by decide +kernel
theorem dX10_tried_100 : decode cX10_tried 100 = .ok (.bipush 10, 2) := by decide +kernel
theorem dX10_tried_102 : decode cX10_tried 102 = .ok (.iload 4, 2) := by decide +kernel
theorem dX10_tried_104 : decode cX10_tried 104 = .ok (.imul, 1) := by decide +kernel
theorem dX10_tried_105 : decode cX10_tried 105 = .ok (.aload_n 0, 1) := by decide +kernel
theorem dX10_tried_106 : decode cX10_tried 106 = .ok (.getfield 13, 3) := by decide +kernel
theorem dX10_tried_109 : decode cX10_tried 109 = .ok (.iload_n 3, 1) := by decide +kernel
theorem dX10_tried_110 : decode cX10_tried 110 = .ok (.iaload, 1) := by decide +kernel
theorem dX10_tried_111 : decode cX10_tried 111 = .ok (.iadd, 1) := by decide +kernel
theorem dX10_tried_112 : decode cX10_tried 112 = .ok (.iaload, 1) := by decide +kernel
theorem dX10_tried_113 : decode cX10_tried 113 = .ok (.iadd, 1) := by decide +kernel
theorem dX10_tried_114 : decode cX10_tried 114 = .ok (.istore_n 2, 1) := by decide +kernel
theorem dX10_tried_115 : decode cX10_tried 115 = .ok (.aload_n 0, 1) := by decide +kernel
theorem dX10_tried_116 : decode cX10_tried 116 = .ok (.getfield 131, 3) := by decide +kernel
theorem dX10_tried_119 : decode cX10_tried 119 = .ok (.iload 4, 2) := by decide +kernel
theorem dX10_tried_121 : decode cX10_tried 121 = .ok (.iaload, 1) := by decide +kernel
theorem dX10_tried_122 : decode cX10_tried 122 = .ok (.ifCond .ge 7, 3) := by decide +kernel
theorem dX10_tried_125 : decode cX10_tried 125 = .ok (.ldc_w 332, 3) := by decide +kernel
theorem dX10_tried_128 : decode cX10_tried 128 = .ok (.ireturn, 1) := by decide +kernel
theorem dX10_tried_129 : decode cX10_tried 129 = .ok (.iinc 3 1, 3) := by decide +kernel
theorem dX10_tried_132 : decode cX10_tried 132 = .ok (.goto (-99), 3) := by decide +kernel
theorem dX10_tried_135 : decode cX10_tried 135 = .ok (.iload_n 2, 1) := by decide +kernel
theorem dX10_tried_136 : decode cX10_tried 136 = .ok (.ireturn, 1) := by decide +kernel
theorem dX10_nextReads_0 : decode cX10_nextReads 0 = .ok (.aload_n 0, 1) := by decide +kernel
theorem dX10_nextReads_1 : decode cX10_nextReads 1 = .ok (.getfield 143, 3) := by decide +kernel
theorem dX10_nextReads_4 : decode cX10_nextReads 4 = .ok (.iconst 1, 1) := by decide +kernel
theorem dX10_nextReads_5 : decode cX10_nextReads 5 = .ok (.isub, 1) := by decide +kernel
theorem dX10_nextReads_6 : decode cX10_nextReads 6 = .ok (.istore_n 2, 1) := by decide +kernel
theorem dX10_nextReads_7 : decode cX10_nextReads 7 = .ok (.iload_n 2, 1) := by decide +kernel
theorem dX10_nextReads_8 : decode cX10_nextReads 8 = .ok (.ifCond .lt 47, 3) := by decide +kernel
theorem dX10_nextReads_11 : decode cX10_nextReads 11 = .ok (.iload_n 1, 1) := by decide +kernel
theorem dX10_nextReads_12 : decode cX10_nextReads 12 = .ok (.iload_n 2, 1) := by decide +kernel
theorem dX10_nextReads_13 : decode cX10_nextReads 13 = .ok (.ishr, 1) := by decide +kernel
theorem dX10_nextReads_14 : decode cX10_nextReads 14 = .ok (.iconst 1, 1) := by decide +kernel
theorem dX10_nextReads_15 : decode cX10_nextReads 15 = .ok (.iand, 1) := by decide +kernel
theorem dX10_nextReads_16 : decode cX10_nextReads 16 = .ok (.iconst 1, 1) := by decide +kernel
theorem dX10_nextReads_17 : decode cX10_nextReads 17 = .ok (.if_icmp .ne 32, 3) := by decide +kernel
theorem dX10_nextReads_20 : decode cX10_nextReads 20 = .ok (.aload_n 0, 1) := by decide +kernel
theorem dX10_nextReads_21 : decode cX10_nextReads 21 = .ok (.getfield 125, 3) := by decide +kernel
theorem dX10_nextReads_24 : decode cX10_nextReads 24 = .ok (.iload_n 2, 1) := by decide +kernel
theorem dX10_nextReads_25 : decode cX10_nextReads 25 = .ok (.iaload, 1) := by decide +kernel
theorem dX10_nextReads_26 : decode cX10_nextReads 26 = .ok (.iconst 4, 1) := by decide +kernel
theorem dX10_nextReads_27 : decode cX10_nextReads 27 = .ok (.if_icmp .ge 15, 3) := by decide +kernel
theorem dX10_nextReads_30 : decode cX10_nextReads 30 = .ok (.aload_n 0, 1) := by decide +kernel
theorem dX10_nextReads_31 : decode cX10_nextReads 31 = .ok (.getfield 125, 3) := by decide +kernel
theorem dX10_nextReads_34 : decode cX10_nextReads 34 = .ok (.iload_n 2, 1) := by decide +kernel
theorem dX10_nextReads_35 : decode cX10_nextReads 35 = .ok (.dup2, 1) := by decide +kernel
theorem dX10_nextReads_36 : decode cX10_nextReads 36 = .ok (.iaload, 1) := by decide +kernel
theorem dX10_nextReads_37 : decode cX10_nextReads 37 = .ok (.iconst 1, 1) := by decide +kernel
theorem dX10_nextReads_38 : decode cX10_nextReads 38 = .ok (.iadd, 1) := by decide +kernel
theorem dX10_nextReads_39 : decode cX10_nextReads 39 = .ok (.iastore, 1) := by decide +kernel
theorem dX10_nextReads_40 : decode cX10_nextReads 40 = .ok (.iconst 1, 1) := by decide +kernel
theorem dX10_nextReads_41 : decode cX10_nextReads 41 = .ok (.ireturn, 1) := by decide +kernel
theorem dX10_nextReads_42 : decode cX10_nextReads 42 = .ok (.aload_n 0, 1) := by decide +kernel
theorem dX10_nextReads_43 : decode cX10_nextReads 43 = .ok (.getfield 125, 3) := by decide +kernel
theorem dX10_nextReads_46 : decode cX10_nextReads 46 = .ok (.iload_n 2, 1) := by decide +kernel
theorem dX10_nextReads_47 : decode cX10_nextReads 47 = .ok (.iconst 0, 1) := by decide +kernel
theorem dX10_nextReads_48 : decode cX10_nextReads 48 = .ok (.iastore, 1) := by decide +kernel
theorem dX10_nextReads_49 : decode cX10_nextReads 49 = .ok (.iinc 2 (-1), 3) := by decide +kernel
theorem dX10_nextReads_52 : decode cX10_nextReads 52 = .ok (.goto (-45), 3) := by decide +kernel
theorem dX10_nextReads_55 : decode cX10_nextReads 55 = .ok (.iconst 0, 1) := by decide +kernel
theorem dX10_nextReads_56 : decode cX10_nextReads 56 = .ok (.ireturn, 1) := by decide +kernel
theorem dX10_parted_0 : decode cX10_parted 0 = .ok (.iload_n 1, 1) := by decide +kernel
theorem dX10_parted_1 : decode cX10_parted 1 = .ok (.i2l, 1) := by decide +kernel
theorem dX10_parted_2 : decode cX10_parted 2 = .ok (.lconst 0, 1) := by decide +kernel
theorem dX10_parted_3 : decode cX10_parted 3 = .ok (.iconst 1, 1) := by decide +kernel
theorem dX10_parted_4 : decode cX10_parted 4 = .ok (.aload_n 0, 1) := by decide +kernel
theorem dX10_parted_5 : decode cX10_parted 5 = .ok (.getfield 143, 3) := by decide +kernel
theorem dX10_parted_8 : decode cX10_parted 8 = .ok (.ishl, 1) := by decide +kernel
theorem dX10_parted_9 : decode cX10_parted 9 = .ok (.iconst 1, 1) := by decide +kernel
theorem dX10_parted_10 : decode cX10_parted 10 = .ok (.isub, 1) := by decide +kernel
theorem dX10_parted_11 : decode cX10_parted 11 = .ok (.i2l, 1) := by decide +kernel
theorem dX10_parted_12 : decode cX10_parted 12 = .ok (.invokestatic 139, 3) := by decide +kernel
theorem dX10_parted_15 : decode cX10_parted 15 = .ok (.ifCond .ne 6, 3) := by decide +kernel
theorem dX10_parted_18 : decode cX10_parted 18 = .ok (.bipush (-2), 2) := by decide +kernel
theorem dX10_parted_20 : decode cX10_parted 20 = .ok (.ireturn, 1) := by decide +kernel
theorem dX10_parted_21 : decode cX10_parted 21 = .ok (.iconst 0, 1) := by decide +kernel
theorem dX10_parted_22 : decode cX10_parted 22 = .ok (.istore_n 3, 1) := by decide +kernel
theorem dX10_parted_23 : decode cX10_parted 23 = .ok (.iload_n 3, 1) := by decide +kernel
theorem dX10_parted_24 : decode cX10_parted 24 = .ok (.bipush 8, 2) := by decide +kernel
theorem dX10_parted_26 : decode cX10_parted 26 = .ok (.if_icmp .ge 16, 3) := by decide +kernel
theorem dX10_parted_29 : decode cX10_parted 29 = .ok (.aload_n 0, 1) := by decide +kernel
theorem dX10_parted_30 : decode cX10_parted 30 = .ok (.getfield 125, 3) := by decide +kernel
theorem dX10_parted_33 : decode cX10_parted 33 = .ok (.iload_n 3, 1) := by decide +kernel
theorem dX10_parted_34 : decode cX10_parted 34 = .ok (.iconst 0, 1) := by decide +kernel
theorem dX10_parted_35 : decode cX10_parted 35 = .ok (.iastore, 1) := by decide +kernel
theorem dX10_parted_36 : decode cX10_parted 36 = .ok (.iinc 3 1, 3) := by decide +kernel
theorem dX10_parted_39 : decode cX10_parted 39 = .ok (.goto (-16), 3) := by decide +kernel
theorem dX10_parted_42 : decode cX10_parted 42 = .ok (.ldc_w 332, 3) := by decide +kernel
theorem dX10_parted_45 : decode cX10_parted 45 = .ok (.istore_n 3, 1) := by decide +kernel
theorem dX10_parted_46 : decode cX10_parted 46 = .ok (.iconst 1, 1) := by decide +kernel
theorem dX10_parted_47 : decode cX10_parted 47 = .ok (.istore 4, 2) := by decide +kernel
theorem dX10_parted_49 : decode cX10_parted 49 = .ok (.iload 4, 2) := by decide +kernel
theorem dX10_parted_51 : decode cX10_parted 51 = .ok (.ifCond .eq 59, 3) := by decide +kernel
theorem dX10_parted_54 : decode cX10_parted 54 = .ok (.aload_n 0, 1) := by decide +kernel
theorem dX10_parted_55 : decode cX10_parted 55 = .ok (.iload_n 1, 1) := by decide +kernel
theorem dX10_parted_56 : decode cX10_parted 56 = .ok (.invokevirtual 333, 3) := by decide +kernel
theorem dX10_parted_59 : decode cX10_parted 59 = .ok (.istore 5, 2) := by decide +kernel
theorem dX10_parted_61 : decode cX10_parted 61 = .ok (.iload 5, 2) := by decide +kernel
theorem dX10_parted_63 : decode cX10_parted 63 = .ok (.iload_n 3, 1) := by decide +kernel
theorem dX10_parted_64 : decode cX10_parted 64 = .ok (.if_icmp .ge 36, 3) := by decide +kernel
theorem dX10_parted_67 : decode cX10_parted 67 = .ok (.iload 5, 2) := by decide +kernel
theorem dX10_parted_69 : decode cX10_parted 69 = .ok (.istore_n 3, 1) := by decide +kernel
theorem dX10_parted_70 : decode cX10_parted 70 = .ok (.iconst 0, 1) := by decide +kernel
theorem dX10_parted_71 : decode cX10_parted 71 = .ok (.istore 6, 2) := by decide +kernel
theorem dX10_parted_73 : decode cX10_parted 73 = .ok (.iload 6, 2) := by decide +kernel
theorem dX10_parted_75 : decode cX10_parted 75 = .ok (.bipush 8, 2) := by decide +kernel
theorem dX10_parted_77 : decode cX10_parted 77 = .ok (.if_icmp .ge 23, 3) := by decide +kernel
theorem dX10_parted_80 : decode cX10_parted 80 = .ok (.aload_n 0, 1) := by decide +kernel
theorem dX10_parted_81 : decode cX10_parted 81 = .ok (.getfield 128, 3) := by decide +kernel
theorem dX10_parted_84 : decode cX10_parted 84 = .ok (.iload 6, 2) := by decide +kernel
theorem dX10_parted_86 : decode cX10_parted 86 = .ok (.aload_n 0, 1) := by decide +kernel
theorem dX10_parted_87 : decode cX10_parted 87 = .ok (.getfield 125, 3) := by decide +kernel
theorem dX10_parted_90 : decode cX10_parted 90 = .ok (.iload 6, 2) := by decide +kernel
theorem dX10_parted_92 : decode cX10_parted 92 = .ok (.iaload, 1) := by decide +kernel
theorem dX10_parted_93 : decode cX10_parted 93 = .ok (.iastore, 1) := by decide +kernel
theorem dX10_parted_94 : decode cX10_parted 94 = .ok (.iinc 6 1, 3) := by decide +kernel
theorem dX10_parted_97 : decode cX10_parted 97 = .ok (.goto (-24), 3) := by decide +kernel
theorem dX10_parted_100 : decode cX10_parted 100 = .ok (.aload_n 0, 1) := by decide +kernel
theorem dX10_parted_101 : decode cX10_parted 101 = .ok (.iload_n 1, 1) := by decide +kernel
theorem dX10_parted_102 : decode cX10_parted 102 = .ok (.invokevirtual 336, 3) := by decide +kernel
theorem dX10_parted_105 : decode cX10_parted 105 = .ok (.istore 4, 2) := by decide +kernel
theorem dX10_parted_107 : decode cX10_parted 107 = .ok (.goto (-58), 3) := by decide +kernel
theorem dX10_parted_110 : decode cX10_parted 110 = .ok (.iload_n 2, 1) := by decide +kernel
theorem dX10_parted_111 : decode cX10_parted 111 = .ok (.iconst (-1), 1) := by decide +kernel
theorem dX10_parted_112 : decode cX10_parted 112 = .ok (.if_icmp .ne 5, 3) := by decide +kernel
theorem dX10_parted_115 : decode cX10_parted 115 = .ok (.iload_n 3, 1) := by decide +kernel
theorem dX10_parted_116 : decode cX10_parted 116 = .ok (.ireturn, 1) := by decide +kernel
theorem dX10_parted_117 : decode cX10_parted 117 = .ok (.aload_n 0, 1) := by decide +kernel
theorem dX10_parted_118 : decode cX10_parted 118 = .ok (.iload_n 2, 1) := by decide +kernel
theorem dX10_parted_119 : decode cX10_parted 119 = .ok (.invokevirtual 156, 3) := by decide +kernel
theorem dX10_parted_122 : decode cX10_parted 122 = .ok (.ifCond .eq 21, 3) := by decide +kernel
theorem dX10_parted_125 : decode cX10_parted 125 = .ok (.iload_n 1, 1) := by decide +kernel
theorem dX10_parted_126 : decode cX10_parted 126 = .ok (.iload_n 2, 1) := by decide +kernel
theorem dX10_parted_127 : decode cX10_parted 127 = .ok (.ishr, 1) := by decide +kernel
theorem dX10_parted_128 : decode cX10_parted 128 = .ok (.iconst 1, 1) := by decide +kernel
theorem dX10_parted_129 : decode cX10_parted 129 = .ok (.iand, 1) := by decide +kernel
theorem dX10_parted_130 : decode cX10_parted 130 = .ok (.iconst 1, 1) := by decide +kernel
theorem dX10_parted_131 : decode cX10_parted 131 = .ok (.if_icmp .ne 12, 3) := by decide +kernel
theorem dX10_parted_134 : decode cX10_parted 134 = .ok (.aload_n 0, 1) := by decide +kernel
theorem dX10_parted_135 : decode cX10_parted 135 = .ok (.getfield 128, 3) := by decide +kernel
theorem dX10_parted_138 : decode cX10_parted 138 = .ok (.iload_n 2, 1) := by decide +kernel
theorem dX10_parted_139 : decode cX10_parted 139 = .ok (.iaload, 1) := by decide +kernel
theorem dX10_parted_140 : decode cX10_parted 140 = .ok (.goto 5, 3) := by decide +kernel
theorem dX10_parted_143 : decode cX10_parted 143 = .ok (.bipush (-6), 2) := by decide +kernel
theorem dX10_parted_145 : decode cX10_parted 145 = .ok (.ireturn, 1) := by decide +kernel
theorem dX10_isListed_0 : decode cX10_isListed 0 = .ok (.aload_n 0, 1) := by decide +kernel
theorem dX10_isListed_1 : decode cX10_isListed 1 = .ok (.iload_n 1, 1) := by decide +kernel
theorem dX10_isListed_2 : decode cX10_isListed 2 = .ok (.aload_n 0, 1) := by decide +kernel
theorem dX10_isListed_3 : decode cX10_isListed 3 = .ok (.getfield 16, 3) := by decide +kernel
theorem dX10_isListed_6 : decode cX10_isListed 6 = .ok (.aload_n 0, 1) := by decide +kernel
theorem dX10_isListed_7 : decode cX10_isListed 7 = .ok (.getfield 22, 3) := by decide +kernel
theorem dX10_isListed_10 : decode cX10_isListed 10 = .ok (.iload_n 2, 1) := by decide +kernel
theorem dX10_isListed_11 : decode cX10_isListed 11 = .ok (.iaload, 1) := by decide +kernel
theorem dX10_isListed_12 : decode cX10_isListed 12 = .ok (.iaload, 1) := by decide +kernel
theorem dX10_isListed_13 : decode cX10_isListed 13 = .ok (.invokevirtual 289, 3) := by decide +kernel
theorem dX10_isListed_16 : decode cX10_isListed 16 = .ok (.iconst 0, 1) := by decide +kernel
theorem dX10_isListed_17 : decode cX10_isListed 17 = .ok (.istore_n 3, 1) := by decide +kernel
theorem dX10_isListed_18 : decode cX10_isListed 18 = .ok (.iconst 0, 1) := by decide +kernel
theorem dX10_isListed_19 : decode cX10_isListed 19 = .ok (.istore 4, 2) := by decide +kernel
theorem dX10_isListed_21 : decode cX10_isListed 21 = .ok (.iload 4, 2) := by decide +kernel
theorem dX10_isListed_23 : decode cX10_isListed 23 = .ok (.aload_n 0, 1) := by decide +kernel
theorem dX10_isListed_24 : decode cX10_isListed 24 = .ok (.getfield 283, 3) := by decide +kernel
theorem dX10_isListed_27 : decode cX10_isListed 27 = .ok (.if_icmp .ge 30, 3) := by decide +kernel
theorem dX10_isListed_30 : decode cX10_isListed 30 = .ok (.iload_n 3, 1) := by decide +kernel
theorem dX10_isListed_31 : decode cX10_isListed 31 = .ok (.ifCond .ne 14, 3) := by decide +kernel
theorem dX10_isListed_34 : decode cX10_isListed 34 = .ok (.aload_n 0, 1) := by decide +kernel
theorem dX10_isListed_35 : decode cX10_isListed 35 = .ok (.getfield 95, 3) := by decide +kernel
theorem dX10_isListed_38 : decode cX10_isListed 38 = .ok (.iload 4, 2) := by decide +kernel
theorem dX10_isListed_40 : decode cX10_isListed 40 = .ok (.iaload, 1) := by decide +kernel
theorem dX10_isListed_41 : decode cX10_isListed 41 = .ok (.iload_n 2, 1) := by decide +kernel
theorem dX10_isListed_42 : decode cX10_isListed 42 = .ok (.if_icmp .ne 7, 3) := by decide +kernel
theorem dX10_isListed_45 : decode cX10_isListed 45 = .ok (.iconst 1, 1) := by decide +kernel
theorem dX10_isListed_46 : decode cX10_isListed 46 = .ok (.goto 4, 3) := by decide +kernel
theorem dX10_isListed_49 : decode cX10_isListed 49 = .ok (.iconst 0, 1) := by decide +kernel
theorem dX10_isListed_50 : decode cX10_isListed 50 = .ok (.istore_n 3, 1) := by decide +kernel
theorem dX10_isListed_51 : decode cX10_isListed 51 = .ok (.iinc 4 1, 3) := by decide +kernel
theorem dX10_isListed_54 : decode cX10_isListed 54 = .ok (.goto (-33), 3) := by decide +kernel
theorem dX10_isListed_57 : decode cX10_isListed 57 = .ok (.iload_n 3, 1) := by decide +kernel
theorem dX10_isListed_58 : decode cX10_isListed 58 = .ok (.ireturn, 1) := by decide +kernel
theorem dX10_send_0 : decode cX10_send 0 = .ok (.aload_n 0, 1) := by decide +kernel
theorem dX10_send_1 : decode cX10_send 1 = .ok (.iload_n 1, 1) := by decide +kernel
theorem dX10_send_2 : decode cX10_send 2 = .ok (.invokevirtual 186, 3) := by decide +kernel
theorem dX10_send_5 : decode cX10_send 5 = .ok (.ifCond .eq 11, 3) := by decide +kernel
theorem dX10_send_8 : decode cX10_send 8 = .ok (.aload_n 0, 1) := by decide +kernel
theorem dX10_send_9 : decode cX10_send 9 = .ok (.iload_n 2, 1) := by decide +kernel
theorem dX10_send_10 : decode cX10_send 10 = .ok (.invokevirtual 252, 3) := by decide +kernel
theorem dX10_send_13 : decode cX10_send 13 = .ok (.ifCond .ne 5, 3) := by decide +kernel
theorem dX10_send_16 : decode cX10_send 16 = .ok (.iconst (-1), 1) := by decide +kernel
theorem dX10_send_17 : decode cX10_send 17 = .ok (.ireturn, 1) := by decide +kernel
theorem dX10_send_18 : decode cX10_send 18 = .ok (.aload_n 0, 1) := by decide +kernel
theorem dX10_send_19 : decode cX10_send 19 = .ok (.iload_n 2, 1) := by decide +kernel
theorem dX10_send_20 : decode cX10_send 20 = .ok (.iload_n 1, 1) := by decide +kernel
theorem dX10_send_21 : decode cX10_send 21 = .ok (.invokevirtual 339, 3) := by decide +kernel
theorem dX10_send_24 : decode cX10_send 24 = .ok (.ifCond .ne 6, 3) := by decide +kernel
theorem dX10_send_27 : decode cX10_send 27 = .ok (.bipush (-3), 2) := by decide +kernel
theorem dX10_send_29 : decode cX10_send 29 = .ok (.ireturn, 1) := by decide +kernel
theorem dX10_send_30 : decode cX10_send 30 = .ok (.aload_n 0, 1) := by decide +kernel
theorem dX10_send_31 : decode cX10_send 31 = .ok (.getfield 40, 3) := by decide +kernel
theorem dX10_send_34 : decode cX10_send 34 = .ok (.iload_n 1, 1) := by decide +kernel
theorem dX10_send_35 : decode cX10_send 35 = .ok (.iaload, 1) := by decide +kernel
theorem dX10_send_36 : decode cX10_send 36 = .ok (.iload_n 2, 1) := by decide +kernel
theorem dX10_send_37 : decode cX10_send 37 = .ok (.ishr, 1) := by decide +kernel
theorem dX10_send_38 : decode cX10_send 38 = .ok (.iconst 1, 1) := by decide +kernel
theorem dX10_send_39 : decode cX10_send 39 = .ok (.iand, 1) := by decide +kernel
theorem dX10_send_40 : decode cX10_send 40 = .ok (.iconst 1, 1) := by decide +kernel
theorem dX10_send_41 : decode cX10_send 41 = .ok (.if_icmp .ne 6, 3) := by decide +kernel
theorem dX10_send_44 : decode cX10_send 44 = .ok (.bipush (-5), 2) := by decide +kernel
theorem dX10_send_46 : decode cX10_send 46 = .ok (.ireturn, 1) := by decide +kernel
theorem dX10_send_47 : decode cX10_send 47 = .ok (.aload_n 0, 1) := by decide +kernel
theorem dX10_send_48 : decode cX10_send 48 = .ok (.getfield 40, 3) := by decide +kernel
theorem dX10_send_51 : decode cX10_send 51 = .ok (.iload_n 1, 1) := by decide +kernel
theorem dX10_send_52 : decode cX10_send 52 = .ok (.dup2, 1) := by decide +kernel
theorem dX10_send_53 : decode cX10_send 53 = .ok (.iaload, 1) := by decide +kernel
theorem dX10_send_54 : decode cX10_send 54 = .ok (.iconst 1, 1) := by decide +kernel
theorem dX10_send_55 : decode cX10_send 55 = .ok (.iload_n 2, 1) := by decide +kernel
theorem dX10_send_56 : decode cX10_send 56 = .ok (.ishl, 1) := by decide +kernel
theorem dX10_send_57 : decode cX10_send 57 = .ok (.ior, 1) := by decide +kernel
theorem dX10_send_58 : decode cX10_send 58 = .ok (.iastore, 1) := by decide +kernel
theorem dX10_send_59 : decode cX10_send 59 = .ok (.iconst 1, 1) := by decide +kernel
theorem dX10_send_60 : decode cX10_send 60 = .ok (.ireturn, 1) := by decide +kernel
theorem dX10_miss_0 : decode cX10_miss 0 = .ok (.iload_n 1, 1) := by decide +kernel
theorem dX10_miss_1 : decode cX10_miss 1 = .ok (.i2l, 1) := by decide +kernel
theorem dX10_miss_2 : decode cX10_miss 2 = .ok (.lconst 0, 1) := by decide +kernel
theorem dX10_miss_3 : decode cX10_miss 3 = .ok (.ldc2_w 174, 3) := by decide +kernel
theorem dX10_miss_6 : decode cX10_miss 6 = .ok (.invokestatic 139, 3) := by decide +kernel
theorem dX10_miss_9 : decode cX10_miss 9 = .ok (.ifCond .ne 5, 3) := by decide +kernel
theorem dX10_miss_12 : decode cX10_miss 12 = .ok (.iconst (-1), 1) := by decide +kernel
theorem dX10_miss_13 : decode cX10_miss 13 = .ok (.ireturn, 1) := by decide +kernel
theorem dX10_miss_14 : decode cX10_miss 14 = .ok (.aload_n 0, 1) := by decide +kernel
theorem dX10_miss_15 : decode cX10_miss 15 = .ok (.getfield 134, 3) := by decide +kernel
theorem dX10_miss_18 : decode cX10_miss 18 = .ok (.iload_n 1, 1) := by decide +kernel
theorem dX10_miss_19 : decode cX10_miss 19 = .ok (.dup2, 1) := by decide +kernel
theorem dX10_miss_20 : decode cX10_miss 20 = .ok (.iaload, 1) := by decide +kernel
theorem dX10_miss_21 : decode cX10_miss 21 = .ok (.iconst 1, 1) := by decide +kernel
theorem dX10_miss_22 : decode cX10_miss 22 = .ok (.iadd, 1) := by decide +kernel
theorem dX10_miss_23 : decode cX10_miss 23 = .ok (.iastore, 1) := by decide +kernel
theorem dX10_miss_24 : decode cX10_miss 24 = .ok (.aload_n 0, 1) := by decide +kernel
theorem dX10_miss_25 : decode cX10_miss 25 = .ok (.getfield 134, 3) := by decide +kernel
theorem dX10_miss_28 : decode cX10_miss 28 = .ok (.iload_n 1, 1) := by decide +kernel
theorem dX10_miss_29 : decode cX10_miss 29 = .ok (.iaload, 1) := by decide +kernel
theorem dX10_miss_30 : decode cX10_miss 30 = .ok (.ireturn, 1) := by decide +kernel
theorem dX10_sentTo_0 : decode cX10_sentTo 0 = .ok (.iconst 0, 1) := by decide +kernel
theorem dX10_sentTo_1 : decode cX10_sentTo 1 = .ok (.istore_n 2, 1) := by decide +kernel
theorem dX10_sentTo_2 : decode cX10_sentTo 2 = .ok (.iconst 0, 1) := by decide +kernel
theorem dX10_sentTo_3 : decode cX10_sentTo 3 = .ok (.istore_n 3, 1) := by decide +kernel
theorem dX10_sentTo_4 : decode cX10_sentTo 4 = .ok (.iload_n 3, 1) := by decide +kernel
theorem dX10_sentTo_5 : decode cX10_sentTo 5 = .ok (.aload_n 0, 1) := by decide +kernel
theorem dX10_sentTo_6 : decode cX10_sentTo 6 = .ok (.getfield 147, 3) := by decide +kernel
theorem dX10_sentTo_9 : decode cX10_sentTo 9 = .ok (.if_icmp .ge 65, 3) := by decide +kernel
theorem dX10_sentTo_12 : decode cX10_sentTo 12 = .ok (.iconst 0, 1) := by decide +kernel
theorem dX10_sentTo_13 : decode cX10_sentTo 13 = .ok (.istore 4, 2) := by decide +kernel
theorem dX10_sentTo_15 : decode cX10_sentTo 15 = .ok (.iload 4, 2) := by decide +kernel
theorem dX10_sentTo_17 : decode cX10_sentTo 17 = .ok (.aload_n 0, 1) := by decide +kernel
theorem dX10_sentTo_18 : decode cX10_sentTo 18 = .ok (.getfield 220, 3) := by decide +kernel
theorem dX10_sentTo_21 : decode cX10_sentTo 21 = .ok (.if_icmp .ge 47, 3) := by decide +kernel
theorem dX10_sentTo_24 : decode cX10_sentTo 24 = .ok (.iload_n 2, 1) := by decide +kernel
theorem dX10_sentTo_25 : decode cX10_sentTo 25 = .ok (.aload_n 0, 1) := by decide +kernel
theorem dX10_sentTo_26 : decode cX10_sentTo 26 = .ok (.getfield 40, 3) := by decide +kernel
theorem dX10_sentTo_29 : decode cX10_sentTo 29 = .ok (.iload_n 3, 1) := by decide +kernel
theorem dX10_sentTo_30 : decode cX10_sentTo 30 = .ok (.iaload, 1) := by decide +kernel
theorem dX10_sentTo_31 : decode cX10_sentTo 31 = .ok (.iload 4, 2) := by decide +kernel
theorem dX10_sentTo_33 : decode cX10_sentTo 33 = .ok (.ishr, 1) := by decide +kernel
theorem dX10_sentTo_34 : decode cX10_sentTo 34 = .ok (.iconst 1, 1) := by decide +kernel
theorem dX10_sentTo_35 : decode cX10_sentTo 35 = .ok (.iand, 1) := by decide +kernel
theorem dX10_sentTo_36 : decode cX10_sentTo 36 = .ok (.iconst 1, 1) := by decide +kernel
theorem dX10_sentTo_37 : decode cX10_sentTo 37 = .ok (.if_icmp .ne 22, 3) := by decide +kernel
theorem dX10_sentTo_40 : decode cX10_sentTo 40 = .ok (.iload_n 1, 1) := by decide +kernel
theorem dX10_sentTo_41 : decode cX10_sentTo 41 = .ok (.ifCond .lt 14, 3) := by decide +kernel
theorem dX10_sentTo_44 : decode cX10_sentTo 44 = .ok (.aload_n 0, 1) := by decide +kernel
theorem dX10_sentTo_45 : decode cX10_sentTo 45 = .ok (.getfield 58, 3) := by decide +kernel
theorem dX10_sentTo_48 : decode cX10_sentTo 48 = .ok (.iload 4, 2) := by decide +kernel
theorem dX10_sentTo_50 : decode cX10_sentTo 50 = .ok (.iaload, 1) := by decide +kernel
theorem dX10_sentTo_51 : decode cX10_sentTo 51 = .ok (.iload_n 1, 1) := by decide +kernel
theorem dX10_sentTo_52 : decode cX10_sentTo 52 = .ok (.if_icmp .ne 7, 3) := by decide +kernel
theorem dX10_sentTo_55 : decode cX10_sentTo 55 = .ok (.iconst 1, 1) := by decide +kernel
theorem dX10_sentTo_56 : decode cX10_sentTo 56 = .ok (.goto 4, 3) := by decide +kernel
theorem dX10_sentTo_59 : decode cX10_sentTo 59 = .ok (.iconst 0, 1) := by decide +kernel
theorem dX10_sentTo_60 : decode cX10_sentTo 60 = .ok (.iadd, 1) := by decide +kernel
theorem dX10_sentTo_61 : decode cX10_sentTo 61 = .ok (.istore_n 2, 1) := by decide +kernel
theorem dX10_sentTo_62 : decode cX10_sentTo 62 = .ok (.iinc 4 1, 3) := by decide +kernel
theorem dX10_sentTo_65 : decode cX10_sentTo 65 = .ok (.goto (-50), 3) := by decide +kernel
theorem dX10_sentTo_68 : decode cX10_sentTo 68 = .ok (.iinc 3 1, 3) := by decide +kernel
theorem dX10_sentTo_71 : decode cX10_sentTo 71 = .ok (.goto (-67), 3) := by decide +kernel
theorem dX10_sentTo_74 : decode cX10_sentTo 74 = .ok (.iload_n 2, 1) := by decide +kernel
theorem dX10_sentTo_75 : decode cX10_sentTo 75 = .ok (.ireturn, 1) := by decide +kernel
theorem dX10_bill_0 : decode cX10_bill 0 = .ok (.iload_n 1, 1) := by decide +kernel
theorem dX10_bill_1 : decode cX10_bill 1 = .ok (.i2l, 1) := by decide +kernel
theorem dX10_bill_2 : decode cX10_bill 2 = .ok (.lconst 0, 1) := by decide +kernel
theorem dX10_bill_3 : decode cX10_bill 3 = .ok (.ldc2_w 174, 3) := by decide +kernel
theorem dX10_bill_6 : decode cX10_bill 6 = .ok (.invokestatic 139, 3) := by decide +kernel
theorem dX10_bill_9 : decode cX10_bill 9 = .ok (.ifCond .ne 5, 3) := by decide +kernel
theorem dX10_bill_12 : decode cX10_bill 12 = .ok (.iconst (-1), 1) := by decide +kernel
theorem dX10_bill_13 : decode cX10_bill 13 = .ok (.ireturn, 1) := by decide +kernel
theorem dX10_bill_14 : decode cX10_bill 14 = .ok (.iload_n 2, 1) := by decide +kernel
theorem dX10_bill_15 : decode cX10_bill 15 = .ok (.i2l, 1) := by decide +kernel
theorem dX10_bill_16 : decode cX10_bill 16 = .ok (.lconst 0, 1) := by decide +kernel
theorem dX10_bill_17 : decode cX10_bill 17 = .ok (.lconst 1, 1) := by decide +kernel
theorem dX10_bill_18 : decode cX10_bill 18 = .ok (.invokestatic 139, 3) := by decide +kernel
theorem dX10_bill_21 : decode cX10_bill 21 = .ok (.ifCond .ne 6, 3) := by decide +kernel
theorem dX10_bill_24 : decode cX10_bill 24 = .ok (.bipush (-2), 2) := by decide +kernel
theorem dX10_bill_26 : decode cX10_bill 26 = .ok (.ireturn, 1) := by decide +kernel
theorem dX10_bill_27 : decode cX10_bill 27 = .ok (.aload_n 0, 1) := by decide +kernel
theorem dX10_bill_28 : decode cX10_bill 28 = .ok (.iload_n 1, 1) := by decide +kernel
theorem dX10_bill_29 : decode cX10_bill 29 = .ok (.invokevirtual 342, 3) := by decide +kernel
theorem dX10_bill_32 : decode cX10_bill 32 = .ok (.istore_n 3, 1) := by decide +kernel
theorem dX10_bill_33 : decode cX10_bill 33 = .ok (.iload_n 2, 1) := by decide +kernel
theorem dX10_bill_34 : decode cX10_bill 34 = .ok (.iconst 1, 1) := by decide +kernel
theorem dX10_bill_35 : decode cX10_bill 35 = .ok (.if_icmp .ne 5, 3) := by decide +kernel
theorem dX10_bill_38 : decode cX10_bill 38 = .ok (.iload_n 3, 1) := by decide +kernel
theorem dX10_bill_39 : decode cX10_bill 39 = .ok (.ireturn, 1) := by decide +kernel
theorem dX10_bill_40 : decode cX10_bill 40 = .ok (.aload_n 0, 1) := by decide +kernel
theorem dX10_bill_41 : decode cX10_bill 41 = .ok (.getfield 43, 3) := by decide +kernel
theorem dX10_bill_44 : decode cX10_bill 44 = .ok (.iconst 4, 1) := by decide +kernel
theorem dX10_bill_45 : decode cX10_bill 45 = .ok (.iaload, 1) := by decide +kernel
theorem dX10_bill_46 : decode cX10_bill 46 = .ok (.istore 4, 2) := by decide +kernel
theorem dX10_bill_48 : decode cX10_bill 48 = .ok (.iload_n 3, 1) := by decide +kernel
theorem dX10_bill_49 : decode cX10_bill 49 = .ok (.iload 4, 2) := by decide +kernel
theorem dX10_bill_51 : decode cX10_bill 51 = .ok (.if_icmp .ge 7, 3) := by decide +kernel
theorem dX10_bill_54 : decode cX10_bill 54 = .ok (.iload_n 3, 1) := by decide +kernel
theorem dX10_bill_55 : decode cX10_bill 55 = .ok (.goto 5, 3) := by decide +kernel
theorem dX10_bill_58 : decode cX10_bill 58 = .ok (.iload 4, 2) := by decide +kernel
theorem dX10_bill_60 : decode cX10_bill 60 = .ok (.istore 5, 2) := by decide +kernel
theorem dX10_bill_62 : decode cX10_bill 62 = .ok (.iload_n 3, 1) := by decide +kernel
theorem dX10_bill_63 : decode cX10_bill 63 = .ok (.iload 5, 2) := by decide +kernel
theorem dX10_bill_65 : decode cX10_bill 65 = .ok (.isub, 1) := by decide +kernel
theorem dX10_bill_66 : decode cX10_bill 66 = .ok (.iload 4, 2) := by decide +kernel
theorem dX10_bill_68 : decode cX10_bill 68 = .ok (.if_icmp .ge 10, 3) := by decide +kernel
theorem dX10_bill_71 : decode cX10_bill 71 = .ok (.iload_n 3, 1) := by decide +kernel
theorem dX10_bill_72 : decode cX10_bill 72 = .ok (.iload 5, 2) := by decide +kernel
theorem dX10_bill_74 : decode cX10_bill 74 = .ok (.isub, 1) := by decide +kernel
theorem dX10_bill_75 : decode cX10_bill 75 = .ok (.goto 5, 3) := by decide +kernel
theorem dX10_bill_78 : decode cX10_bill 78 = .ok (.iload 4, 2) := by decide +kernel
theorem dX10_bill_80 : decode cX10_bill 80 = .ok (.istore 6, 2) := by decide +kernel
theorem dX10_bill_82 : decode cX10_bill 82 = .ok (.iload 5, 2) := by decide +kernel
theorem dX10_bill_84 : decode cX10_bill 84 = .ok (.aload_n 0, 1) := by decide +kernel
theorem dX10_bill_85 : decode cX10_bill 85 = .ok (.getfield 43, 3) := by decide +kernel
theorem dX10_bill_88 : decode cX10_bill 88 = .ok (.iconst 5, 1) := by decide +kernel
theorem dX10_bill_89 : decode cX10_bill 89 = .ok (.iaload, 1) := by decide +kernel
theorem dX10_bill_90 : decode cX10_bill 90 = .ok (.imul, 1) := by decide +kernel
theorem dX10_bill_91 : decode cX10_bill 91 = .ok (.iload 6, 2) := by decide +kernel
theorem dX10_bill_93 : decode cX10_bill 93 = .ok (.aload_n 0, 1) := by decide +kernel
theorem dX10_bill_94 : decode cX10_bill 94 = .ok (.getfield 43, 3) := by decide +kernel
theorem dX10_bill_97 : decode cX10_bill 97 = .ok (.bipush 6, 2) := by decide +kernel
theorem dX10_bill_99 : decode cX10_bill 99 = .ok (.iaload, 1) := by decide +kernel
theorem dX10_bill_100 : decode cX10_bill 100 = .ok (.imul, 1) := by decide +kernel
theorem dX10_bill_101 : decode cX10_bill 101 = .ok (.iadd, 1) := by decide +kernel
theorem dX10_bill_102 : decode cX10_bill 102 = .ok (.iload_n 3, 1) := by decide +kernel
theorem dX10_bill_103 : decode cX10_bill 103 = .ok (.iload 5, 2) := by decide +kernel
theorem dX10_bill_105 : decode cX10_bill 105 = .ok (.isub, 1) := by decide +kernel
theorem dX10_bill_106 : decode cX10_bill 106 = .ok (.iload 6, 2) := by decide +kernel
theorem dX10_bill_108 : decode cX10_bill 108 = .ok (.isub, 1) := by decide +kernel
theorem dX10_bill_109 : decode cX10_bill 109 = .ok (.aload_n 0, 1) := by decide +kernel
theorem dX10_bill_110 : decode cX10_bill 110 = .ok (.getfield 43, 3) := by decide +kernel
theorem dX10_bill_113 : decode cX10_bill 113 = .ok (.bipush 7, 2) := by decide +kernel
theorem dX10_bill_115 : decode cX10_bill 115 = .ok (.iaload, 1) := by decide +kernel
theorem dX10_bill_116 : decode cX10_bill 116 = .ok (.imul, 1) := by decide +kernel
theorem dX10_bill_117 : decode cX10_bill 117 = .ok (.iadd, 1) := by decide +kernel
theorem dX10_bill_118 : decode cX10_bill 118 = .ok (.aload_n 0, 1) := by decide +kernel
theorem dX10_bill_119 : decode cX10_bill 119 = .ok (.getfield 134, 3) := by decide +kernel
theorem dX10_bill_122 : decode cX10_bill 122 = .ok (.iload_n 1, 1) := by decide +kernel
theorem dX10_bill_123 : decode cX10_bill 123 = .ok (.iaload, 1) := by decide +kernel
theorem dX10_bill_124 : decode cX10_bill 124 = .ok (.aload_n 0, 1) := by decide +kernel
theorem dX10_bill_125 : decode cX10_bill 125 = .ok (.getfield 43, 3) := by decide +kernel
theorem dX10_bill_128 : decode cX10_bill 128 = .ok (.bipush 8, 2) := by decide +kernel
theorem dX10_bill_130 : decode cX10_bill 130 = .ok (.iaload, 1) := by decide +kernel
theorem dX10_bill_131 : decode cX10_bill 131 = .ok (.imul, 1) := by decide +kernel
theorem dX10_bill_132 : decode cX10_bill 132 = .ok (.isub, 1) := by decide +kernel
theorem dX10_bill_133 : decode cX10_bill 133 = .ok (.istore 7, 2) := by decide +kernel
theorem dX10_bill_135 : decode cX10_bill 135 = .ok (.iload 7, 2) := by decide +kernel
theorem dX10_bill_137 : decode cX10_bill 137 = .ok (.ifCond .ge 7, 3) := by decide +kernel
theorem dX10_bill_140 : decode cX10_bill 140 = .ok (.iconst 0, 1) := by decide +kernel
theorem dX10_bill_141 : decode cX10_bill 141 = .ok (.goto 5, 3) := by decide +kernel
theorem dX10_bill_144 : decode cX10_bill 144 = .ok (.iload 7, 2) := by decide +kernel
theorem dX10_bill_146 : decode cX10_bill 146 = .ok (.ireturn, 1) := by decide +kernel
theorem dX10_file_0 : decode cX10_file 0 = .ok (.aload_n 0, 1) := by decide +kernel
theorem dX10_file_1 : decode cX10_file 1 = .ok (.iload_n 1, 1) := by decide +kernel
theorem dX10_file_2 : decode cX10_file 2 = .ok (.invokevirtual 186, 3) := by decide +kernel
theorem dX10_file_5 : decode cX10_file 5 = .ok (.ifCond .ne 5, 3) := by decide +kernel
theorem dX10_file_8 : decode cX10_file 8 = .ok (.iconst (-1), 1) := by decide +kernel
theorem dX10_file_9 : decode cX10_file 9 = .ok (.ireturn, 1) := by decide +kernel
theorem dX10_file_10 : decode cX10_file 10 = .ok (.iload_n 2, 1) := by decide +kernel
theorem dX10_file_11 : decode cX10_file 11 = .ok (.i2l, 1) := by decide +kernel
theorem dX10_file_12 : decode cX10_file 12 = .ok (.lconst 0, 1) := by decide +kernel
theorem dX10_file_13 : decode cX10_file 13 = .ok (.ldc2_w 345, 3) := by decide +kernel
theorem dX10_file_16 : decode cX10_file 16 = .ok (.invokestatic 139, 3) := by decide +kernel
theorem dX10_file_19 : decode cX10_file 19 = .ok (.ifCond .ne 6, 3) := by decide +kernel
theorem dX10_file_22 : decode cX10_file 22 = .ok (.bipush (-2), 2) := by decide +kernel
theorem dX10_file_24 : decode cX10_file 24 = .ok (.ireturn, 1) := by decide +kernel
theorem dX10_file_25 : decode cX10_file 25 = .ok (.aload_n 0, 1) := by decide +kernel
theorem dX10_file_26 : decode cX10_file 26 = .ok (.getfield 37, 3) := by decide +kernel
theorem dX10_file_29 : decode cX10_file 29 = .ok (.iload_n 1, 1) := by decide +kernel
theorem dX10_file_30 : decode cX10_file 30 = .ok (.iaload, 1) := by decide +kernel
theorem dX10_file_31 : decode cX10_file 31 = .ok (.istore_n 3, 1) := by decide +kernel
theorem dX10_file_32 : decode cX10_file 32 = .ok (.aload_n 0, 1) := by decide +kernel
theorem dX10_file_33 : decode cX10_file 33 = .ok (.getfield 37, 3) := by decide +kernel
theorem dX10_file_36 : decode cX10_file 36 = .ok (.iload_n 1, 1) := by decide +kernel
theorem dX10_file_37 : decode cX10_file 37 = .ok (.iload_n 2, 1) := by decide +kernel
theorem dX10_file_38 : decode cX10_file 38 = .ok (.iastore, 1) := by decide +kernel
theorem dX10_file_39 : decode cX10_file 39 = .ok (.iload_n 3, 1) := by decide +kernel
theorem dX10_file_40 : decode cX10_file 40 = .ok (.ireturn, 1) := by decide +kernel
theorem dX10_isOld_0 : decode cX10_isOld 0 = .ok (.aload_n 0, 1) := by decide +kernel
theorem dX10_isOld_1 : decode cX10_isOld 1 = .ok (.getfield 37, 3) := by decide +kernel
theorem dX10_isOld_4 : decode cX10_isOld 4 = .ok (.iload_n 1, 1) := by decide +kernel
theorem dX10_isOld_5 : decode cX10_isOld 5 = .ok (.iaload, 1) := by decide +kernel
theorem dX10_isOld_6 : decode cX10_isOld 6 = .ok (.iload_n 2, 1) := by decide +kernel
theorem dX10_isOld_7 : decode cX10_isOld 7 = .ok (.ishr, 1) := by decide +kernel
theorem dX10_isOld_8 : decode cX10_isOld 8 = .ok (.iconst 1, 1) := by decide +kernel
theorem dX10_isOld_9 : decode cX10_isOld 9 = .ok (.iand, 1) := by decide +kernel
theorem dX10_isOld_10 : decode cX10_isOld 10 = .ok (.iconst 1, 1) := by decide +kernel
theorem dX10_isOld_11 : decode cX10_isOld 11 = .ok (.if_icmp .ne 30, 3) := by decide +kernel
theorem dX10_isOld_14 : decode cX10_isOld 14 = .ok (.aload_n 0, 1) := by decide +kernel
theorem dX10_isOld_15 : decode cX10_isOld 15 = .ok (.getfield 16, 3) := by decide +kernel
theorem dX10_isOld_18 : decode cX10_isOld 18 = .ok (.aload_n 0, 1) := by decide +kernel
theorem dX10_isOld_19 : decode cX10_isOld 19 = .ok (.getfield 22, 3) := by decide +kernel
theorem dX10_isOld_22 : decode cX10_isOld 22 = .ok (.iload_n 1, 1) := by decide +kernel
theorem dX10_isOld_23 : decode cX10_isOld 23 = .ok (.iaload, 1) := by decide +kernel
theorem dX10_isOld_24 : decode cX10_isOld 24 = .ok (.iaload, 1) := by decide +kernel
theorem dX10_isOld_25 : decode cX10_isOld 25 = .ok (.i2l, 1) := by decide +kernel
theorem dX10_isOld_26 : decode cX10_isOld 26 = .ok (.iload_n 3, 1) := by decide +kernel
theorem dX10_isOld_27 : decode cX10_isOld 27 = .ok (.i2l, 1) := by decide +kernel
theorem dX10_isOld_28 : decode cX10_isOld 28 = .ok (.iload 4, 2) := by decide +kernel
theorem dX10_isOld_30 : decode cX10_isOld 30 = .ok (.i2l, 1) := by decide +kernel
theorem dX10_isOld_31 : decode cX10_isOld 31 = .ok (.invokestatic 139, 3) := by decide +kernel
theorem dX10_isOld_34 : decode cX10_isOld 34 = .ok (.ifCond .eq 7, 3) := by decide +kernel
theorem dX10_isOld_37 : decode cX10_isOld 37 = .ok (.iconst 1, 1) := by decide +kernel
theorem dX10_isOld_38 : decode cX10_isOld 38 = .ok (.goto 4, 3) := by decide +kernel
theorem dX10_isOld_41 : decode cX10_isOld 41 = .ok (.iconst 0, 1) := by decide +kernel
theorem dX10_isOld_42 : decode cX10_isOld 42 = .ok (.ireturn, 1) := by decide +kernel
theorem dX10_old_0 : decode cX10_old 0 = .ok (.iload_n 1, 1) := by decide +kernel
theorem dX10_old_1 : decode cX10_old 1 = .ok (.invokestatic 294, 3) := by decide +kernel
theorem dX10_old_4 : decode cX10_old 4 = .ok (.ifCond .ne 5, 3) := by decide +kernel
theorem dX10_old_7 : decode cX10_old 7 = .ok (.iconst (-1), 1) := by decide +kernel
theorem dX10_old_8 : decode cX10_old 8 = .ok (.ireturn, 1) := by decide +kernel
theorem dX10_old_9 : decode cX10_old 9 = .ok (.iload_n 2, 1) := by decide +kernel
theorem dX10_old_10 : decode cX10_old 10 = .ok (.invokestatic 152, 3) := by decide +kernel
theorem dX10_old_13 : decode cX10_old 13 = .ok (.ifCond .eq 10, 3) := by decide +kernel
theorem dX10_old_16 : decode cX10_old 16 = .ok (.iload_n 3, 1) := by decide +kernel
theorem dX10_old_17 : decode cX10_old 17 = .ok (.invokestatic 152, 3) := by decide +kernel
theorem dX10_old_20 : decode cX10_old 20 = .ok (.ifCond .ne 6, 3) := by decide +kernel
theorem dX10_old_23 : decode cX10_old 23 = .ok (.bipush (-2), 2) := by decide +kernel
theorem dX10_old_25 : decode cX10_old 25 = .ok (.ireturn, 1) := by decide +kernel
theorem dX10_old_26 : decode cX10_old 26 = .ok (.iconst 0, 1) := by decide +kernel
theorem dX10_old_27 : decode cX10_old 27 = .ok (.istore 5, 2) := by decide +kernel
theorem dX10_old_29 : decode cX10_old 29 = .ok (.iconst 0, 1) := by decide +kernel
theorem dX10_old_30 : decode cX10_old 30 = .ok (.istore 6, 2) := by decide +kernel
theorem dX10_old_32 : decode cX10_old 32 = .ok (.iload 6, 2) := by decide +kernel
theorem dX10_old_34 : decode cX10_old 34 = .ok (.aload_n 0, 1) := by decide +kernel
theorem dX10_old_35 : decode cX10_old 35 = .ok (.getfield 147, 3) := by decide +kernel
theorem dX10_old_38 : decode cX10_old 38 = .ok (.if_icmp .ge 31, 3) := by decide +kernel
theorem dX10_old_41 : decode cX10_old 41 = .ok (.iload 5, 2) := by decide +kernel
theorem dX10_old_43 : decode cX10_old 43 = .ok (.aload_n 0, 1) := by decide +kernel
theorem dX10_old_44 : decode cX10_old 44 = .ok (.iload 6, 2) := by decide +kernel
theorem dX10_old_46 : decode cX10_old 46 = .ok (.iload_n 1, 1) := by decide +kernel
theorem dX10_old_47 : decode cX10_old 47 = .ok (.iload_n 2, 1) := by decide +kernel
theorem dX10_old_48 : decode cX10_old 48 = .ok (.iload_n 3, 1) := by decide +kernel
theorem dX10_old_49 : decode cX10_old 49 = .ok (.invokevirtual 347, 3) := by decide +kernel
theorem dX10_old_52 : decode cX10_old 52 = .ok (.ifCond .eq 7, 3) := by decide +kernel
theorem dX10_old_55 : decode cX10_old 55 = .ok (.iconst 1, 1) := by decide +kernel
theorem dX10_old_56 : decode cX10_old 56 = .ok (.goto 4, 3) := by decide +kernel
theorem dX10_old_59 : decode cX10_old 59 = .ok (.iconst 0, 1) := by decide +kernel
theorem dX10_old_60 : decode cX10_old 60 = .ok (.iadd, 1) := by decide +kernel
theorem dX10_old_61 : decode cX10_old 61 = .ok (.istore 5, 2) := by decide +kernel
theorem dX10_old_63 : decode cX10_old 63 = .ok (.iinc 6 1, 3) := by decide +kernel
theorem dX10_old_66 : decode cX10_old 66 = .ok (.goto (-34), 3) := by decide +kernel
theorem dX10_old_69 : decode cX10_old 69 = .ok (.iload 4, 2) := by decide +kernel
theorem dX10_old_71 : decode cX10_old 71 = .ok (.iconst (-1), 1) := by decide +kernel
theorem dX10_old_72 : decode cX10_old 72 = .ok (.if_icmp .ne 6, 3) := by decide +kernel
theorem dX10_old_75 : decode cX10_old 75 = .ok (.iload 5, 2) := by decide +kernel
theorem dX10_old_77 : decode cX10_old 77 = .ok (.ireturn, 1) := by decide +kernel
theorem dX10_old_78 : decode cX10_old 78 = .ok (.iconst 0, 1) := by decide +kernel
theorem dX10_old_79 : decode cX10_old 79 = .ok (.istore 6, 2) := by decide +kernel
theorem dX10_old_81 : decode cX10_old 81 = .ok (.iload 6, 2) := by decide +kernel
theorem dX10_old_83 : decode cX10_old 83 = .ok (.aload_n 0, 1) := by decide +kernel
theorem dX10_old_84 : decode cX10_old 84 = .ok (.getfield 147, 3) := by decide +kernel
theorem dX10_old_87 : decode cX10_old 87 = .ok (.if_icmp .ge 92, 3) := by decide +kernel
theorem dX10_old_90 : decode cX10_old 90 = .ok (.iconst 0, 1) := by decide +kernel
theorem dX10_old_91 : decode cX10_old 91 = .ok (.istore 7, 2) := by decide +kernel
theorem dX10_old_93 : decode cX10_old 93 = .ok (.iconst 0, 1) := by decide +kernel
theorem dX10_old_94 : decode cX10_old 94 = .ok (.istore 8, 2) := by decide +kernel
theorem dX10_old_96 : decode cX10_old 96 = .ok (.iload 8, 2) := by decide +kernel
theorem dX10_old_98 : decode cX10_old 98 = .ok (.aload_n 0, 1) := by decide +kernel
theorem dX10_old_99 : decode cX10_old 99 = .ok (.getfield 147, 3) := by decide +kernel
theorem dX10_old_102 : decode cX10_old 102 = .ok (.if_icmp .ge 49, 3) := by decide +kernel
theorem dX10_old_105 : decode cX10_old 105 = .ok (.iload 7, 2) := by decide +kernel
theorem dX10_old_107 : decode cX10_old 107 = .ok (.iload 8, 2) := by decide +kernel
theorem dX10_old_109 : decode cX10_old 109 = .ok (.iload 6, 2) := by decide +kernel
theorem dX10_old_111 : decode cX10_old 111 = .ok (.if_icmp .eq 30, 3) := by decide +kernel
theorem dX10_old_114 : decode cX10_old 114 = .ok (.aload_n 0, 1) := by decide +kernel
theorem dX10_old_115 : decode cX10_old 115 = .ok (.iload 8, 2) := by decide +kernel
theorem dX10_old_117 : decode cX10_old 117 = .ok (.iload_n 1, 1) := by decide +kernel
theorem dX10_old_118 : decode cX10_old 118 = .ok (.iload_n 2, 1) := by decide +kernel
theorem dX10_old_119 : decode cX10_old 119 = .ok (.iload_n 3, 1) := by decide +kernel
theorem dX10_old_120 : decode cX10_old 120 = .ok (.invokevirtual 347, 3) := by decide +kernel
theorem dX10_old_123 : decode cX10_old 123 = .ok (.ifCond .eq 18, 3) := by decide +kernel
theorem dX10_old_126 : decode cX10_old 126 = .ok (.aload_n 0, 1) := by decide +kernel
theorem dX10_old_127 : decode cX10_old 127 = .ok (.iload 8, 2) := by decide +kernel
theorem dX10_old_129 : decode cX10_old 129 = .ok (.iload 6, 2) := by decide +kernel
theorem dX10_old_131 : decode cX10_old 131 = .ok (.invokevirtual 272, 3) := by decide +kernel
theorem dX10_old_134 : decode cX10_old 134 = .ok (.ifCond .eq 7, 3) := by decide +kernel
theorem dX10_old_137 : decode cX10_old 137 = .ok (.iconst 1, 1) := by decide +kernel
theorem dX10_old_138 : decode cX10_old 138 = .ok (.goto 4, 3) := by decide +kernel
theorem dX10_old_141 : decode cX10_old 141 = .ok (.iconst 0, 1) := by decide +kernel
theorem dX10_old_142 : decode cX10_old 142 = .ok (.iadd, 1) := by decide +kernel
theorem dX10_old_143 : decode cX10_old 143 = .ok (.istore 7, 2) := by decide +kernel
theorem dX10_old_145 : decode cX10_old 145 = .ok (.iinc 8 1, 3) := by decide +kernel
theorem dX10_old_148 : decode cX10_old 148 = .ok (.goto (-52), 3) := by decide +kernel
theorem dX10_old_151 : decode cX10_old 151 = .ok (.aload_n 0, 1) := by decide +kernel
theorem dX10_old_152 : decode cX10_old 152 = .ok (.iload 6, 2) := by decide +kernel
theorem dX10_old_154 : decode cX10_old 154 = .ok (.iload_n 1, 1) := by decide +kernel
theorem dX10_old_155 : decode cX10_old 155 = .ok (.iload_n 2, 1) := by decide +kernel
theorem dX10_old_156 : decode cX10_old 156 = .ok (.iload_n 3, 1) := by decide +kernel
theorem dX10_old_157 : decode cX10_old 157 = .ok (.invokevirtual 347, 3) := by decide +kernel
theorem dX10_old_160 : decode cX10_old 160 = .ok (.ifCond .eq 13, 3) := by decide +kernel
theorem dX10_old_163 : decode cX10_old 163 = .ok (.iload 7, 2) := by decide +kernel
theorem dX10_old_165 : decode cX10_old 165 = .ok (.iload 4, 2) := by decide +kernel
theorem dX10_old_167 : decode cX10_old 167 = .ok (.if_icmp .ne 6, 3) := by decide +kernel
theorem dX10_old_170 : decode cX10_old 170 = .ok (.iload 6, 2) := by decide +kernel
theorem dX10_old_172 : decode cX10_old 172 = .ok (.ireturn, 1) := by decide +kernel
theorem dX10_old_173 : decode cX10_old 173 = .ok (.iinc 6 1, 3) := by decide +kernel
theorem dX10_old_176 : decode cX10_old 176 = .ok (.goto (-95), 3) := by decide +kernel
theorem dX10_old_179 : decode cX10_old 179 = .ok (.bipush (-6), 2) := by decide +kernel
theorem dX10_old_181 : decode cX10_old 181 = .ok (.ireturn, 1) := by decide +kernel
theorem dX10_told_0 : decode cX10_told 0 = .ok (.iload_n 1, 1) := by decide +kernel
theorem dX10_told_1 : decode cX10_told 1 = .ok (.i2l, 1) := by decide +kernel
theorem dX10_told_2 : decode cX10_told 2 = .ok (.ldc2_w 351, 3) := by decide +kernel
theorem dX10_told_5 : decode cX10_told 5 = .ok (.ldc2_w 353, 3) := by decide +kernel
theorem dX10_told_8 : decode cX10_told 8 = .ok (.invokestatic 139, 3) := by decide +kernel
theorem dX10_told_11 : decode cX10_told 11 = .ok (.ifCond .eq 13, 3) := by decide +kernel
theorem dX10_told_14 : decode cX10_told 14 = .ok (.aload_n 0, 1) := by decide +kernel
theorem dX10_told_15 : decode cX10_told 15 = .ok (.getfield 43, 3) := by decide +kernel
theorem dX10_told_18 : decode cX10_told 18 = .ok (.iload_n 1, 1) := by decide +kernel
theorem dX10_told_19 : decode cX10_told 19 = .ok (.bipush 10, 2) := by decide +kernel
theorem dX10_told_21 : decode cX10_told 21 = .ok (.isub, 1) := by decide +kernel
theorem dX10_told_22 : decode cX10_told 22 = .ok (.iaload, 1) := by decide +kernel
theorem dX10_told_23 : decode cX10_told 23 = .ok (.ireturn, 1) := by decide +kernel
theorem dX10_told_24 : decode cX10_told 24 = .ok (.iconst 0, 1) := by decide +kernel
theorem dX10_told_25 : decode cX10_told 25 = .ok (.istore_n 2, 1) := by decide +kernel
theorem dX10_told_26 : decode cX10_told 26 = .ok (.iconst 0, 1) := by decide +kernel
theorem dX10_told_27 : decode cX10_told 27 = .ok (.istore_n 3, 1) := by decide +kernel
theorem dX10_told_28 : decode cX10_told 28 = .ok (.iload_n 3, 1) := by decide +kernel
theorem dX10_told_29 : decode cX10_told 29 = .ok (.bipush 6, 2) := by decide +kernel
theorem dX10_told_31 : decode cX10_told 31 = .ok (.if_icmp .ge 18, 3) := by decide +kernel
theorem dX10_told_34 : decode cX10_told 34 = .ok (.iload_n 2, 1) := by decide +kernel
theorem dX10_told_35 : decode cX10_told 35 = .ok (.aload_n 0, 1) := by decide +kernel
theorem dX10_told_36 : decode cX10_told 36 = .ok (.getfield 134, 3) := by decide +kernel
theorem dX10_told_39 : decode cX10_told 39 = .ok (.iload_n 3, 1) := by decide +kernel
theorem dX10_told_40 : decode cX10_told 40 = .ok (.iaload, 1) := by decide +kernel
theorem dX10_told_41 : decode cX10_told 41 = .ok (.iadd, 1) := by decide +kernel
theorem dX10_told_42 : decode cX10_told 42 = .ok (.istore_n 2, 1) := by decide +kernel
theorem dX10_told_43 : decode cX10_told 43 = .ok (.iinc 3 1, 3) := by decide +kernel
theorem dX10_told_46 : decode cX10_told 46 = .ok (.goto (-18), 3) := by decide +kernel
theorem dX10_told_49 : decode cX10_told 49 = .ok (.iload_n 1, 1) := by decide +kernel
theorem dX10_told_50 : decode cX10_told 50 = .ok (.tableswitch 69 0 5 #[38, 43, 48, 53, 61, 67], 38) := by decide +kernel
theorem dX10_told_88 : decode cX10_told 88 = .ok (.aload_n 0, 1) := by decide +kernel
theorem dX10_told_89 : decode cX10_told 89 = .ok (.getfield 143, 3) := by decide +kernel
theorem dX10_told_92 : decode cX10_told 92 = .ok (.ireturn, 1) := by decide +kernel
theorem dX10_told_93 : decode cX10_told 93 = .ok (.aload_n 0, 1) := by decide +kernel
theorem dX10_told_94 : decode cX10_told 94 = .ok (.getfield 147, 3) := by decide +kernel
theorem dX10_told_97 : decode cX10_told 97 = .ok (.ireturn, 1) := by decide +kernel
theorem dX10_told_98 : decode cX10_told 98 = .ok (.aload_n 0, 1) := by decide +kernel
theorem dX10_told_99 : decode cX10_told 99 = .ok (.getfield 220, 3) := by decide +kernel
theorem dX10_told_102 : decode cX10_told 102 = .ok (.ireturn, 1) := by decide +kernel
theorem dX10_told_103 : decode cX10_told 103 = .ok (.aload_n 0, 1) := by decide +kernel
theorem dX10_told_104 : decode cX10_told 104 = .ok (.getfield 55, 3) := by decide +kernel
theorem dX10_told_107 : decode cX10_told 107 = .ok (.bipush 10, 2) := by decide +kernel
theorem dX10_told_109 : decode cX10_told 109 = .ok (.iaload, 1) := by decide +kernel
theorem dX10_told_110 : decode cX10_told 110 = .ok (.ireturn, 1) := by decide +kernel
theorem dX10_told_111 : decode cX10_told 111 = .ok (.aload_n 0, 1) := by decide +kernel
theorem dX10_told_112 : decode cX10_told 112 = .ok (.iconst (-1), 1) := by decide +kernel
theorem dX10_told_113 : decode cX10_told 113 = .ok (.invokevirtual 342, 3) := by decide +kernel
theorem dX10_told_116 : decode cX10_told 116 = .ok (.ireturn, 1) := by decide +kernel
theorem dX10_told_117 : decode cX10_told 117 = .ok (.iload_n 2, 1) := by decide +kernel
theorem dX10_told_118 : decode cX10_told 118 = .ok (.ireturn, 1) := by decide +kernel
theorem dX10_told_119 : decode cX10_told 119 = .ok (.bipush (-2), 2) := by decide +kernel
theorem dX10_told_121 : decode cX10_told 121 = .ok (.ireturn, 1) := by decide +kernel
