theorem dX12_init_0 : decode cX12_init 0 = .ok (.aload_n 0, 1) := by decide +kernel
theorem dX12_init_1 : decode cX12_init 1 = .ok (.invokespecial 7, 3) := by decide +kernel
theorem dX12_init_4 : decode cX12_init 4 = .ok (.aload_n 0, 1) := by decide +kernel
theorem dX12_init_5 : decode cX12_init 5 = .ok (.sipush 2000, 3) := by decide +kernel
theorem dX12_init_8 : decode cX12_init 8 = .ok (.newarray .byte, 2) := by decide +kernel
theorem dX12_init_10 : decode cX12_init 10 = .ok (.putfield 13, 3) := by decide +kernel
theorem dX12_init_13 : decode cX12_init 13 = .ok (.aload_n 0, 1) := by decide +kernel
theorem dX12_init_14 : decode cX12_init 14 = .ok (.sipush 2000, 3) := by decide +kernel
theorem dX12_init_17 : decode cX12_init 17 = .ok (.newarray .byte, 2) := by decide +kernel
theorem dX12_init_19 : decode cX12_init 19 = .ok (.putfield 17, 3) := by decide +kernel
theorem dX12_init_22 : decode cX12_init 22 = .ok (.aload_n 0, 1) := by decide +kernel
theorem dX12_init_23 : decode cX12_init 23 = .ok (.sipush 403, 3) := by decide +kernel
theorem dX12_init_26 : decode cX12_init 26 = .ok (.newarray .int, 2) := by decide +kernel
theorem dX12_init_28 : decode cX12_init 28 = .ok (.putfield 20, 3) := by decide +kernel
theorem dX12_init_31 : decode cX12_init 31 = .ok (.aload_n 0, 1) := by decide +kernel
theorem dX12_init_32 : decode cX12_init 32 = .ok (.sipush 403, 3) := by decide +kernel
theorem dX12_init_35 : decode cX12_init 35 = .ok (.newarray .int, 2) := by decide +kernel
theorem dX12_init_37 : decode cX12_init 37 = .ok (.putfield 24, 3) := by decide +kernel
theorem dX12_init_40 : decode cX12_init 40 = .ok (.aload_n 0, 1) := by decide +kernel
theorem dX12_init_41 : decode cX12_init 41 = .ok (.sipush 403, 3) := by decide +kernel
theorem dX12_init_44 : decode cX12_init 44 = .ok (.newarray .int, 2) := by decide +kernel
theorem dX12_init_46 : decode cX12_init 46 = .ok (.putfield 27, 3) := by decide +kernel
theorem dX12_init_49 : decode cX12_init 49 = .ok (.aload_n 0, 1) := by decide +kernel
theorem dX12_init_50 : decode cX12_init 50 = .ok (.sipush 403, 3) := by decide +kernel
theorem dX12_init_53 : decode cX12_init 53 = .ok (.newarray .long, 2) := by decide +kernel
theorem dX12_init_55 : decode cX12_init 55 = .ok (.putfield 30, 3) := by decide +kernel
theorem dX12_init_58 : decode cX12_init 58 = .ok (.aload_n 0, 1) := by decide +kernel
theorem dX12_init_59 : decode cX12_init 59 = .ok (.bipush 17, 2) := by decide +kernel
theorem dX12_init_61 : decode cX12_init 61 = .ok (.newarray .long, 2) := by decide +kernel
theorem dX12_init_63 : decode cX12_init 63 = .ok (.putfield 34, 3) := by decide +kernel
theorem dX12_init_66 : decode cX12_init 66 = .ok (.aload_n 0, 1) := by decide +kernel
theorem dX12_init_67 : decode cX12_init 67 = .ok (.iconst (-1), 1) := by decide +kernel
theorem dX12_init_68 : decode cX12_init 68 = .ok (.putfield 37, 3) := by decide +kernel
theorem dX12_init_71 : decode cX12_init 71 = .ok (.aload_n 0, 1) := by decide +kernel
theorem dX12_init_72 : decode cX12_init 72 = .ok (.bipush 7, 2) := by decide +kernel
theorem dX12_init_74 : decode cX12_init 74 = .ok (.newarray .long, 2) := by decide +kernel
theorem dX12_init_76 : decode cX12_init 76 = .ok (.putfield 40, 3) := by decide +kernel
theorem dX12_init_79 : decode cX12_init 79 = .ok (.aload_n 0, 1) := by decide +kernel
theorem dX12_init_80 : decode cX12_init 80 = .ok (.iconst 2, 1) := by decide +kernel
theorem dX12_init_81 : decode cX12_init 81 = .ok (.newarray .int, 2) := by decide +kernel
theorem dX12_init_83 : decode cX12_init 83 = .ok (.putfield 43, 3) := by decide +kernel
theorem dX12_init_86 : decode cX12_init 86 = .ok (.aload_n 0, 1) := by decide +kernel
theorem dX12_init_87 : decode cX12_init 87 = .ok (.iconst 2, 1) := by decide +kernel
theorem dX12_init_88 : decode cX12_init 88 = .ok (.newarray .int, 2) := by decide +kernel
theorem dX12_init_90 : decode cX12_init 90 = .ok (.putfield 46, 3) := by decide +kernel
theorem dX12_init_93 : decode cX12_init 93 = .ok (.aload_n 0, 1) := by decide +kernel
theorem dX12_init_94 : decode cX12_init 94 = .ok (.iconst 2, 1) := by decide +kernel
theorem dX12_init_95 : decode cX12_init 95 = .ok (.newarray .int, 2) := by decide +kernel
theorem dX12_init_97 : decode cX12_init 97 = .ok (.putfield 49, 3) := by decide +kernel
theorem dX12_init_100 : decode cX12_init 100 = .ok (.aload_n 0, 1) := by decide +kernel
theorem dX12_init_101 : decode cX12_init 101 = .ok (.bipush 14, 2) := by decide +kernel
theorem dX12_init_103 : decode cX12_init 103 = .ok (.newarray .int, 2) := by decide +kernel
theorem dX12_init_105 : decode cX12_init 105 = .ok (.putfield 52, 3) := by decide +kernel
theorem dX12_init_108 : decode cX12_init 108 = .ok (.aload_n 0, 1) := by decide +kernel
theorem dX12_init_109 : decode cX12_init 109 = .ok (.bipush 14, 2) := by decide +kernel
theorem dX12_init_111 : decode cX12_init 111 = .ok (.newarray .int, 2) := by decide +kernel
theorem dX12_init_113 : decode cX12_init 113 = .ok (.putfield 55, 3) := by decide +kernel
theorem dX12_init_116 : decode cX12_init 116 = .ok (.aload_n 0, 1) := by decide +kernel
theorem dX12_init_117 : decode cX12_init 117 = .ok (.bipush 14, 2) := by decide +kernel
theorem dX12_init_119 : decode cX12_init 119 = .ok (.newarray .int, 2) := by decide +kernel
theorem dX12_init_121 : decode cX12_init 121 = .ok (.putfield 58, 3) := by decide +kernel
theorem dX12_init_124 : decode cX12_init 124 = .ok (.aload_n 0, 1) := by decide +kernel
theorem dX12_init_125 : decode cX12_init 125 = .ok (.bipush 14, 2) := by decide +kernel
theorem dX12_init_127 : decode cX12_init 127 = .ok (.newarray .int, 2) := by decide +kernel
theorem dX12_init_129 : decode cX12_init 129 = .ok (.putfield 61, 3) := by decide +kernel
theorem dX12_init_132 : decode cX12_init 132 = .ok (.aload_n 0, 1) := by decide +kernel
theorem dX12_init_133 : decode cX12_init 133 = .ok (.bipush 84, 2) := by decide +kernel
theorem dX12_init_135 : decode cX12_init 135 = .ok (.newarray .int, 2) := by decide +kernel
theorem dX12_init_137 : decode cX12_init 137 = .ok (.putfield 64, 3) := by decide +kernel
theorem dX12_init_140 : decode cX12_init 140 = .ok (.aload_n 0, 1) := by decide +kernel
theorem dX12_init_141 : decode cX12_init 141 = .ok (.bipush 84, 2) := by decide +kernel
theorem dX12_init_143 : decode cX12_init 143 = .ok (.newarray .int, 2) := by decide +kernel
theorem dX12_init_145 : decode cX12_init 145 = .ok (.putfield 67, 3) := by decide +kernel
theorem dX12_init_148 : decode cX12_init 148 = .ok (.aload_n 0, 1) := by decide +kernel
theorem dX12_init_149 : decode cX12_init 149 = .ok (.iconst 2, 1) := by decide +kernel
theorem dX12_init_150 : decode cX12_init 150 = .ok (.newarray .int, 2) := by decide +kernel
theorem dX12_init_152 : decode cX12_init 152 = .ok (.putfield 70, 3) := by decide +kernel
theorem dX12_init_155 : decode cX12_init 155 = .ok (.aload_n 0, 1) := by decide +kernel
theorem dX12_init_156 : decode cX12_init 156 = .ok (.bipush 12, 2) := by decide +kernel
theorem dX12_init_158 : decode cX12_init 158 = .ok (.newarray .int, 2) := by decide +kernel
theorem dX12_init_160 : decode cX12_init 160 = .ok (.putfield 73, 3) := by decide +kernel
theorem dX12_init_163 : decode cX12_init 163 = .ok (.aload_n 0, 1) := by decide +kernel
theorem dX12_init_164 : decode cX12_init 164 = .ok (.bipush 12, 2) := by decide +kernel
theorem dX12_init_166 : decode cX12_init 166 = .ok (.newarray .int, 2) := by decide +kernel
theorem dX12_init_168 : decode cX12_init 168 = .ok (.putfield 76, 3) := by decide +kernel
theorem dX12_init_171 : decode cX12_init 171 = .ok (.aload_n 0, 1) := by decide +kernel
theorem dX12_init_172 : decode cX12_init 172 = .ok (.iconst 2, 1) := by decide +kernel
theorem dX12_init_173 : decode cX12_init 173 = .ok (.newarray .int, 2) := by decide +kernel
theorem dX12_init_175 : decode cX12_init 175 = .ok (.putfield 79, 3) := by decide +kernel
theorem dX12_init_178 : decode cX12_init 178 = .ok (.aload_n 0, 1) := by decide +kernel
theorem dX12_init_179 : decode cX12_init 179 = .ok (.bipush 49, 2) := by decide +kernel
theorem dX12_init_181 : decode cX12_init 181 = .ok (.newarray .int, 2) := by decide +kernel
theorem dX12_init_183 : decode cX12_init 183 = .ok (.putfield 82, 3) := by decide +kernel
theorem dX12_init_186 : decode cX12_init 186 = .ok (.aload_n 0, 1) := by decide +kernel
theorem dX12_init_187 : decode cX12_init 187 = .ok (.bipush 49, 2) := by decide +kernel
theorem dX12_init_189 : decode cX12_init 189 = .ok (.newarray .int, 2) := by decide +kernel
theorem dX12_init_191 : decode cX12_init 191 = .ok (.putfield 85, 3) := by decide +kernel
theorem dX12_init_194 : decode cX12_init 194 = .ok (.aload_n 0, 1) := by decide +kernel
theorem dX12_init_195 : decode cX12_init 195 = .ok (.bipush 49, 2) := by decide +kernel
theorem dX12_init_197 : decode cX12_init 197 = .ok (.newarray .int, 2) := by decide +kernel
theorem dX12_init_199 : decode cX12_init 199 = .ok (.putfield 88, 3) := by decide +kernel
theorem dX12_init_202 : decode cX12_init 202 = .ok (.aload_n 0, 1) := by decide +kernel
theorem dX12_init_203 : decode cX12_init 203 = .ok (.bipush 16, 2) := by decide +kernel
theorem dX12_init_205 : decode cX12_init 205 = .ok (.newarray .int, 2) := by decide +kernel
theorem dX12_init_207 : decode cX12_init 207 = .ok (.putfield 91, 3) := by decide +kernel
theorem dX12_init_210 : decode cX12_init 210 = .ok (.aload_n 0, 1) := by decide +kernel
theorem dX12_init_211 : decode cX12_init 211 = .ok (.bipush 16, 2) := by decide +kernel
theorem dX12_init_213 : decode cX12_init 213 = .ok (.newarray .int, 2) := by decide +kernel
theorem dX12_init_215 : decode cX12_init 215 = .ok (.putfield 94, 3) := by decide +kernel
theorem dX12_init_218 : decode cX12_init 218 = .ok (.aload_n 0, 1) := by decide +kernel
theorem dX12_init_219 : decode cX12_init 219 = .ok (.sipush 260, 3) := by decide +kernel
theorem dX12_init_222 : decode cX12_init 222 = .ok (.newarray .boolean, 2) := by decide +kernel
theorem dX12_init_224 : decode cX12_init 224 = .ok (.putfield 97, 3) := by decide +kernel
theorem dX12_init_227 : decode cX12_init 227 = .ok (.aload_n 0, 1) := by decide +kernel
theorem dX12_init_228 : decode cX12_init 228 = .ok (.sipush 260, 3) := by decide +kernel
theorem dX12_init_231 : decode cX12_init 231 = .ok (.newarray .int, 2) := by decide +kernel
theorem dX12_init_233 : decode cX12_init 233 = .ok (.putfield 101, 3) := by decide +kernel
theorem dX12_init_236 : decode cX12_init 236 = .ok (.aload_n 0, 1) := by decide +kernel
theorem dX12_init_237 : decode cX12_init 237 = .ok (.sipush 260, 3) := by decide +kernel
theorem dX12_init_240 : decode cX12_init 240 = .ok (.newarray .int, 2) := by decide +kernel
theorem dX12_init_242 : decode cX12_init 242 = .ok (.putfield 104, 3) := by decide +kernel
theorem dX12_init_245 : decode cX12_init 245 = .ok (.aload_n 0, 1) := by decide +kernel
theorem dX12_init_246 : decode cX12_init 246 = .ok (.sipush 260, 3) := by decide +kernel
theorem dX12_init_249 : decode cX12_init 249 = .ok (.newarray .int, 2) := by decide +kernel
theorem dX12_init_251 : decode cX12_init 251 = .ok (.putfield 107, 3) := by decide +kernel
theorem dX12_init_254 : decode cX12_init 254 = .ok (.aload_n 0, 1) := by decide +kernel
theorem dX12_init_255 : decode cX12_init 255 = .ok (.sipush 260, 3) := by decide +kernel
theorem dX12_init_258 : decode cX12_init 258 = .ok (.newarray .int, 2) := by decide +kernel
theorem dX12_init_260 : decode cX12_init 260 = .ok (.putfield 110, 3) := by decide +kernel
theorem dX12_init_263 : decode cX12_init 263 = .ok (.aload_n 0, 1) := by decide +kernel
theorem dX12_init_264 : decode cX12_init 264 = .ok (.sipush 840, 3) := by decide +kernel
theorem dX12_init_267 : decode cX12_init 267 = .ok (.newarray .int, 2) := by decide +kernel
theorem dX12_init_269 : decode cX12_init 269 = .ok (.putfield 113, 3) := by decide +kernel
theorem dX12_init_272 : decode cX12_init 272 = .ok (.aload_n 0, 1) := by decide +kernel
theorem dX12_init_273 : decode cX12_init 273 = .ok (.sipush 840, 3) := by decide +kernel
theorem dX12_init_276 : decode cX12_init 276 = .ok (.newarray .int, 2) := by decide +kernel
theorem dX12_init_278 : decode cX12_init 278 = .ok (.putfield 116, 3) := by decide +kernel
theorem dX12_init_281 : decode cX12_init 281 = .ok (.aload_n 0, 1) := by decide +kernel
theorem dX12_init_282 : decode cX12_init 282 = .ok (.bipush 64, 2) := by decide +kernel
theorem dX12_init_284 : decode cX12_init 284 = .ok (.newarray .int, 2) := by decide +kernel
theorem dX12_init_286 : decode cX12_init 286 = .ok (.putfield 119, 3) := by decide +kernel
theorem dX12_init_289 : decode cX12_init 289 = .ok (.aload_n 0, 1) := by decide +kernel
theorem dX12_init_290 : decode cX12_init 290 = .ok (.bipush 6, 2) := by decide +kernel
theorem dX12_init_292 : decode cX12_init 292 = .ok (.newarray .int, 2) := by decide +kernel
theorem dX12_init_294 : decode cX12_init 294 = .ok (.putfield 122, 3) := by decide +kernel
theorem dX12_init_297 : decode cX12_init 297 = .ok (.aload_n 0, 1) := by decide +kernel
theorem dX12_init_298 : decode cX12_init 298 = .ok (.sipush 400, 3) := by decide +kernel
theorem dX12_init_301 : decode cX12_init 301 = .ok (.newarray .int, 2) := by decide +kernel
theorem dX12_init_303 : decode cX12_init 303 = .ok (.putfield 125, 3) := by decide +kernel
theorem dX12_init_306 : decode cX12_init 306 = .ok (.aload_n 0, 1) := by decide +kernel
theorem dX12_init_307 : decode cX12_init 307 = .ok (.sipush 1290, 3) := by decide +kernel
theorem dX12_init_310 : decode cX12_init 310 = .ok (.newarray .int, 2) := by decide +kernel
theorem dX12_init_312 : decode cX12_init 312 = .ok (.putfield 128, 3) := by decide +kernel
theorem dX12_init_315 : decode cX12_init 315 = .ok (.aload_n 0, 1) := by decide +kernel
theorem dX12_init_316 : decode cX12_init 316 = .ok (.sipush 1290, 3) := by decide +kernel
theorem dX12_init_319 : decode cX12_init 319 = .ok (.newarray .int, 2) := by decide +kernel
theorem dX12_init_321 : decode cX12_init 321 = .ok (.putfield 131, 3) := by decide +kernel
theorem dX12_init_324 : decode cX12_init 324 = .ok (.aload_n 0, 1) := by decide +kernel
theorem dX12_init_325 : decode cX12_init 325 = .ok (.bipush 7, 2) := by decide +kernel
theorem dX12_init_327 : decode cX12_init 327 = .ok (.newarray .int, 2) := by decide +kernel
theorem dX12_init_329 : decode cX12_init 329 = .ok (.putfield 134, 3) := by decide +kernel
theorem dX12_init_332 : decode cX12_init 332 = .ok (.aload_n 0, 1) := by decide +kernel
theorem dX12_init_333 : decode cX12_init 333 = .ok (.ldc 137, 2) := by decide +kernel
theorem dX12_init_335 : decode cX12_init 335 = .ok (.newarray .int, 2) := by decide +kernel
theorem dX12_init_337 : decode cX12_init 337 = .ok (.putfield 138, 3) := by decide +kernel
theorem dX12_init_340 : decode cX12_init 340 = .ok (.aload_n 0, 1) := by decide +kernel
theorem dX12_init_341 : decode cX12_init 341 = .ok (.bipush 7, 2) := by decide +kernel
theorem dX12_init_343 : decode cX12_init 343 = .ok (.newarray .int, 2) := by decide +kernel
theorem dX12_init_345 : decode cX12_init 345 = .ok (.putfield 141, 3) := by decide +kernel
theorem dX12_init_348 : decode cX12_init 348 = .ok (.aload_n 0, 1) := by decide +kernel
theorem dX12_init_349 : decode cX12_init 349 = .ok (.sipush 128, 3) := by decide +kernel
theorem dX12_init_352 : decode cX12_init 352 = .ok (.newarray .int, 2) := by decide +kernel
theorem dX12_init_354 : decode cX12_init 354 = .ok (.putfield 144, 3) := by decide +kernel
theorem dX12_init_357 : decode cX12_init 357 = .ok (.aload_n 0, 1) := by decide +kernel
theorem dX12_init_358 : decode cX12_init 358 = .ok (.bipush 6, 2) := by decide +kernel
theorem dX12_init_360 : decode cX12_init 360 = .ok (.newarray .int, 2) := by decide +kernel
theorem dX12_init_362 : decode cX12_init 362 = .ok (.putfield 147, 3) := by decide +kernel
theorem dX12_init_365 : decode cX12_init 365 = .ok (.aload_n 0, 1) := by decide +kernel
theorem dX12_init_366 : decode cX12_init 366 = .ok (.bipush 6, 2) := by decide +kernel
theorem dX12_init_368 : decode cX12_init 368 = .ok (.newarray .int, 2) := by decide +kernel
theorem dX12_init_370 : decode cX12_init 370 = .ok (.putfield 150, 3) := by decide +kernel
theorem dX12_init_373 : decode cX12_init 373 = .ok (.aload_n 0, 1) := by decide +kernel
theorem dX12_init_374 : decode cX12_init 374 = .ok (.bipush 7, 2) := by decide +kernel
theorem dX12_init_376 : decode cX12_init 376 = .ok (.newarray .int, 2) := by decide +kernel
theorem dX12_init_378 : decode cX12_init 378 = .ok (.putfield 153, 3) := by decide +kernel
theorem dX12_init_381 : decode cX12_init 381 = .ok (.aload_n 0, 1) := by decide +kernel
theorem dX12_init_382 : decode cX12_init 382 = .ok (.sipush 4032, 3) := by decide +kernel
theorem dX12_init_385 : decode cX12_init 385 = .ok (.newarray .int, 2) := by decide +kernel
theorem dX12_init_387 : decode cX12_init 387 = .ok (.putfield 156, 3) := by decide +kernel
theorem dX12_init_390 : decode cX12_init 390 = .ok (.aload_n 0, 1) := by decide +kernel
theorem dX12_init_391 : decode cX12_init 391 = .ok (.sipush 196, 3) := by decide +kernel
theorem dX12_init_394 : decode cX12_init 394 = .ok (.newarray .int, 2) := by decide +kernel
theorem dX12_init_396 : decode cX12_init 396 = .ok (.putfield 159, 3) := by decide +kernel
theorem dX12_init_399 : decode cX12_init 399 = .ok (.aload_n 0, 1) := by decide +kernel
theorem dX12_init_400 : decode cX12_init 400 = .ok (.bipush 12, 2) := by decide +kernel
theorem dX12_init_402 : decode cX12_init 402 = .ok (.newarray .int, 2) := by decide +kernel
theorem dX12_init_404 : decode cX12_init 404 = .ok (.putfield 162, 3) := by decide +kernel
theorem dX12_init_407 : decode cX12_init 407 = .ok (.aload_n 0, 1) := by decide +kernel
theorem dX12_init_408 : decode cX12_init 408 = .ok (.bipush 12, 2) := by decide +kernel
theorem dX12_init_410 : decode cX12_init 410 = .ok (.newarray .int, 2) := by decide +kernel
theorem dX12_init_412 : decode cX12_init 412 = .ok (.putfield 165, 3) := by decide +kernel
theorem dX12_init_415 : decode cX12_init 415 = .ok (.aload_n 0, 1) := by decide +kernel
theorem dX12_init_416 : decode cX12_init 416 = .ok (.bipush 12, 2) := by decide +kernel
theorem dX12_init_418 : decode cX12_init 418 = .ok (.newarray .boolean, 2) := by decide +kernel
theorem dX12_init_420 : decode cX12_init 420 = .ok (.putfield 168, 3) := by decide +kernel
theorem dX12_init_423 : decode cX12_init 423 = .ok (.aload_n 0, 1) := by decide +kernel
theorem dX12_init_424 : decode cX12_init 424 = .ok (.iconst 3, 1) := by decide +kernel
theorem dX12_init_425 : decode cX12_init 425 = .ok (.newarray .boolean, 2) := by decide +kernel
theorem dX12_init_427 : decode cX12_init 427 = .ok (.putfield 171, 3) := by decide +kernel
theorem dX12_init_430 : decode cX12_init 430 = .ok (.aload_n 0, 1) := by decide +kernel
theorem dX12_init_431 : decode cX12_init 431 = .ok (.sipush 3870, 3) := by decide +kernel
theorem dX12_init_434 : decode cX12_init 434 = .ok (.newarray .int, 2) := by decide +kernel
theorem dX12_init_436 : decode cX12_init 436 = .ok (.putfield 174, 3) := by decide +kernel
theorem dX12_init_439 : decode cX12_init 439 = .ok (.aload_n 0, 1) := by decide +kernel
theorem dX12_init_440 : decode cX12_init 440 = .ok (.iconst 0, 1) := by decide +kernel
theorem dX12_init_441 : decode cX12_init 441 = .ok (.invokevirtual 177, 3) := by decide +kernel
theorem dX12_init_444 : decode cX12_init 444 = .ok (.aload_n 0, 1) := by decide +kernel
theorem dX12_init_445 : decode cX12_init 445 = .ok (.getfield 34, 3) := by decide +kernel
theorem dX12_init_448 : decode cX12_init 448 = .ok (.iconst 0, 1) := by decide +kernel
theorem dX12_init_449 : decode cX12_init 449 = .ok (.bipush 116, 2) := by decide +kernel
theorem dX12_init_451 : decode cX12_init 451 = .ok (.bipush 111, 2) := by decide +kernel
theorem dX12_init_453 : decode cX12_init 453 = .ok (.bipush 119, 2) := by decide +kernel
theorem dX12_init_455 : decode cX12_init 455 = .ok (.bipush 110, 2) := by decide +kernel
theorem dX12_init_457 : decode cX12_init 457 = .ok (.iconst 0, 1) := by decide +kernel
theorem dX12_init_458 : decode cX12_init 458 = .ok (.iconst 0, 1) := by decide +kernel
theorem dX12_init_459 : decode cX12_init 459 = .ok (.iconst 0, 1) := by decide +kernel
theorem dX12_init_460 : decode cX12_init 460 = .ok (.invokestatic 181, 3) := by decide +kernel
theorem dX12_init_463 : decode cX12_init 463 = .ok (.lastore, 1) := by decide +kernel
theorem dX12_init_464 : decode cX12_init 464 = .ok (.aload_n 0, 1) := by decide +kernel
theorem dX12_init_465 : decode cX12_init 465 = .ok (.getfield 34, 3) := by decide +kernel
theorem dX12_init_468 : decode cX12_init 468 = .ok (.iconst 1, 1) := by decide +kernel
theorem dX12_init_469 : decode cX12_init 469 = .ok (.bipush 109, 2) := by decide +kernel
theorem dX12_init_471 : decode cX12_init 471 = .ok (.bipush 97, 2) := by decide +kernel
theorem dX12_init_473 : decode cX12_init 473 = .ok (.bipush 110, 2) := by decide +kernel
theorem dX12_init_475 : decode cX12_init 475 = .ok (.iconst 0, 1) := by decide +kernel
theorem dX12_init_476 : decode cX12_init 476 = .ok (.iconst 0, 1) := by decide +kernel
theorem dX12_init_477 : decode cX12_init 477 = .ok (.iconst 0, 1) := by decide +kernel
theorem dX12_init_478 : decode cX12_init 478 = .ok (.iconst 0, 1) := by decide +kernel
theorem dX12_init_479 : decode cX12_init 479 = .ok (.invokestatic 181, 3) := by decide +kernel
theorem dX12_init_482 : decode cX12_init 482 = .ok (.lastore, 1) := by decide +kernel
theorem dX12_init_483 : decode cX12_init 483 = .ok (.aload_n 0, 1) := by decide +kernel
theorem dX12_init_484 : decode cX12_init 484 = .ok (.getfield 34, 3) := by decide +kernel
theorem dX12_init_487 : decode cX12_init 487 = .ok (.iconst 2, 1) := by decide +kernel
theorem dX12_init_488 : decode cX12_init 488 = .ok (.bipush 103, 2) := by decide +kernel
theorem dX12_init_490 : decode cX12_init 490 = .ok (.bipush 111, 2) := by decide +kernel
theorem dX12_init_492 : decode cX12_init 492 = .ok (.bipush 101, 2) := by decide +kernel
theorem dX12_init_494 : decode cX12_init 494 = .ok (.bipush 115, 2) := by decide +kernel
theorem dX12_init_496 : decode cX12_init 496 = .ok (.iconst 0, 1) := by decide +kernel
theorem dX12_init_497 : decode cX12_init 497 = .ok (.iconst 0, 1) := by decide +kernel
theorem dX12_init_498 : decode cX12_init 498 = .ok (.iconst 0, 1) := by decide +kernel
theorem dX12_init_499 : decode cX12_init 499 = .ok (.invokestatic 181, 3) := by decide +kernel
theorem dX12_init_502 : decode cX12_init 502 = .ok (.lastore, 1) := by decide +kernel
theorem dX12_init_503 : decode cX12_init 503 = .ok (.aload_n 0, 1) := by decide +kernel
theorem dX12_init_504 : decode cX12_init 504 = .ok (.getfield 34, 3) := by decide +kernel
theorem dX12_init_507 : decode cX12_init 507 = .ok (.iconst 3, 1) := by decide +kernel
theorem dX12_init_508 : decode cX12_init 508 = .ok (.bipush 108, 2) := by decide +kernel
theorem dX12_init_510 : decode cX12_init 510 = .ok (.bipush 111, 2) := by decide +kernel
theorem dX12_init_512 : decode cX12_init 512 = .ok (.bipush 110, 2) := by decide +kernel
theorem dX12_init_514 : decode cX12_init 514 = .ok (.bipush 103, 2) := by decide +kernel
theorem dX12_init_516 : decode cX12_init 516 = .ok (.iconst 0, 1) := by decide +kernel
theorem dX12_init_517 : decode cX12_init 517 = .ok (.iconst 0, 1) := by decide +kernel
theorem dX12_init_518 : decode cX12_init 518 = .ok (.iconst 0, 1) := by decide +kernel
theorem dX12_init_519 : decode cX12_init 519 = .ok (.invokestatic 181, 3) := by decide +kernel
theorem dX12_init_522 : decode cX12_init 522 = .ok (.lastore, 1) := by decide +kernel
theorem dX12_init_523 : decode cX12_init 523 = .ok (.aload_n 0, 1) := by decide +kernel
theorem dX12_init_524 : decode cX12_init 524 = .ok (.getfield 34, 3) := by decide +kernel
theorem dX12_init_527 : decode cX12_init 527 = .ok (.iconst 4, 1) := by decide +kernel
theorem dX12_init_528 : decode cX12_init 528 = .ok (.bipush 101, 2) := by decide +kernel
theorem dX12_init_530 : decode cX12_init 530 = .ok (.bipush 114, 2) := by decide +kernel
theorem dX12_init_532 : decode cX12_init 532 = .ok (.bipush 114, 2) := by decide +kernel
theorem dX12_init_534 : decode cX12_init 534 = .ok (.bipush 97, 2) := by decide +kernel
theorem dX12_init_536 : decode cX12_init 536 = .ok (.bipush 110, 2) := by decide +kernel
theorem dX12_init_538 : decode cX12_init 538 = .ok (.bipush 100, 2) := by decide +kernel
theorem dX12_init_540 : decode cX12_init 540 = .ok (.iconst 0, 1) := by decide +kernel
theorem dX12_init_541 : decode cX12_init 541 = .ok (.invokestatic 181, 3) := by decide +kernel
theorem dX12_init_544 : decode cX12_init 544 = .ok (.lastore, 1) := by decide +kernel
theorem dX12_init_545 : decode cX12_init 545 = .ok (.aload_n 0, 1) := by decide +kernel
theorem dX12_init_546 : decode cX12_init 546 = .ok (.getfield 34, 3) := by decide +kernel
theorem dX12_init_549 : decode cX12_init 549 = .ok (.iconst 5, 1) := by decide +kernel
theorem dX12_init_550 : decode cX12_init 550 = .ok (.bipush 112, 2) := by decide +kernel
theorem dX12_init_552 : decode cX12_init 552 = .ok (.bipush 105, 2) := by decide +kernel
theorem dX12_init_554 : decode cX12_init 554 = .ok (.bipush 108, 2) := by decide +kernel
theorem dX12_init_556 : decode cX12_init 556 = .ok (.bipush 108, 2) := by decide +kernel
theorem dX12_init_558 : decode cX12_init 558 = .ok (.bipush 97, 2) := by decide +kernel
theorem dX12_init_560 : decode cX12_init 560 = .ok (.bipush 114, 2) := by decide +kernel
theorem dX12_init_562 : decode cX12_init 562 = .ok (.iconst 0, 1) := by decide +kernel
theorem dX12_init_563 : decode cX12_init 563 = .ok (.invokestatic 181, 3) := by decide +kernel
theorem dX12_init_566 : decode cX12_init 566 = .ok (.lastore, 1) := by decide +kernel
theorem dX12_init_567 : decode cX12_init 567 = .ok (.aload_n 0, 1) := by decide +kernel
theorem dX12_init_568 : decode cX12_init 568 = .ok (.getfield 34, 3) := by decide +kernel
theorem dX12_init_571 : decode cX12_init 571 = .ok (.bipush 6, 2) := by decide +kernel
theorem dX12_init_573 : decode cX12_init 573 = .ok (.bipush 100, 2) := by decide +kernel
theorem dX12_init_575 : decode cX12_init 575 = .ok (.bipush 121, 2) := by decide +kernel
theorem dX12_init_577 : decode cX12_init 577 = .ok (.bipush 101, 2) := by decide +kernel
theorem dX12_init_579 : decode cX12_init 579 = .ok (.iconst 0, 1) := by decide +kernel
theorem dX12_init_580 : decode cX12_init 580 = .ok (.iconst 0, 1) := by decide +kernel
theorem dX12_init_581 : decode cX12_init 581 = .ok (.iconst 0, 1) := by decide +kernel
theorem dX12_init_582 : decode cX12_init 582 = .ok (.iconst 0, 1) := by decide +kernel
theorem dX12_init_583 : decode cX12_init 583 = .ok (.invokestatic 181, 3) := by decide +kernel
theorem dX12_init_586 : decode cX12_init 586 = .ok (.lastore, 1) := by decide +kernel
theorem dX12_init_587 : decode cX12_init 587 = .ok (.aload_n 0, 1) := by decide +kernel
theorem dX12_init_588 : decode cX12_init 588 = .ok (.getfield 34, 3) := by decide +kernel
theorem dX12_init_591 : decode cX12_init 591 = .ok (.bipush 7, 2) := by decide +kernel
theorem dX12_init_593 : decode cX12_init 593 = .ok (.bipush 115, 2) := by decide +kernel
theorem dX12_init_595 : decode cX12_init 595 = .ok (.bipush 101, 2) := by decide +kernel
theorem dX12_init_597 : decode cX12_init 597 = .ok (.bipush 101, 2) := by decide +kernel
theorem dX12_init_599 : decode cX12_init 599 = .ok (.bipush 100, 2) := by decide +kernel
theorem dX12_init_601 : decode cX12_init 601 = .ok (.iconst 0, 1) := by decide +kernel
theorem dX12_init_602 : decode cX12_init 602 = .ok (.iconst 0, 1) := by decide +kernel
theorem dX12_init_603 : decode cX12_init 603 = .ok (.iconst 0, 1) := by decide +kernel
theorem dX12_init_604 : decode cX12_init 604 = .ok (.invokestatic 181, 3) := by decide +kernel
theorem dX12_init_607 : decode cX12_init 607 = .ok (.lastore, 1) := by decide +kernel
theorem dX12_init_608 : decode cX12_init 608 = .ok (.aload_n 0, 1) := by decide +kernel
theorem dX12_init_609 : decode cX12_init 609 = .ok (.getfield 34, 3) := by decide +kernel
theorem dX12_init_612 : decode cX12_init 612 = .ok (.bipush 8, 2) := by decide +kernel
theorem dX12_init_614 : decode cX12_init 614 = .ok (.bipush 105, 2) := by decide +kernel
theorem dX12_init_616 : decode cX12_init 616 = .ok (.bipush 102, 2) := by decide +kernel
theorem dX12_init_618 : decode cX12_init 618 = .ok (.iconst 0, 1) := by decide +kernel
theorem dX12_init_619 : decode cX12_init 619 = .ok (.iconst 0, 1) := by decide +kernel
theorem dX12_init_620 : decode cX12_init 620 = .ok (.iconst 0, 1) := by decide +kernel
theorem dX12_init_621 : decode cX12_init 621 = .ok (.iconst 0, 1) := by decide +kernel
theorem dX12_init_622 : decode cX12_init 622 = .ok (.iconst 0, 1) := by decide +kernel
theorem dX12_init_623 : decode cX12_init 623 = .ok (.invokestatic 181, 3) := by decide +kernel
theorem dX12_init_626 : decode cX12_init 626 = .ok (.lastore, 1) := by decide +kernel
theorem dX12_init_627 : decode cX12_init 627 = .ok (.aload_n 0, 1) := by decide +kernel
theorem dX12_init_628 : decode cX12_init 628 = .ok (.getfield 34, 3) := by decide +kernel
theorem dX12_init_631 : decode cX12_init 631 = .ok (.bipush 9, 2) := by decide +kernel
theorem dX12_init_633 : decode cX12_init 633 = .ok (.bipush 116, 2) := by decide +kernel
theorem dX12_init_635 : decode cX12_init 635 = .ok (.bipush 104, 2) := by decide +kernel
theorem dX12_init_637 : decode cX12_init 637 = .ok (.bipush 101, 2) := by decide +kernel
theorem dX12_init_639 : decode cX12_init 639 = .ok (.bipush 110, 2) := by decide +kernel
theorem dX12_init_641 : decode cX12_init 641 = .ok (.iconst 0, 1) := by decide +kernel
theorem dX12_init_642 : decode cX12_init 642 = .ok (.iconst 0, 1) := by decide +kernel
theorem dX12_init_643 : decode cX12_init 643 = .ok (.iconst 0, 1) := by decide +kernel
theorem dX12_init_644 : decode cX12_init 644 = .ok (.invokestatic 181, 3) := by decide +kernel
theorem dX12_init_647 : decode cX12_init 647 = .ok (.lastore, 1) := by decide +kernel
theorem dX12_init_648 : decode cX12_init 648 = .ok (.aload_n 0, 1) := by decide +kernel
theorem dX12_init_649 : decode cX12_init 649 = .ok (.getfield 34, 3) := by decide +kernel
theorem dX12_init_652 : decode cX12_init 652 = .ok (.bipush 10, 2) := by decide +kernel
theorem dX12_init_654 : decode cX12_init 654 = .ok (.bipush 101, 2) := by decide +kernel
theorem dX12_init_656 : decode cX12_init 656 = .ok (.bipush 108, 2) := by decide +kernel
theorem dX12_init_658 : decode cX12_init 658 = .ok (.bipush 115, 2) := by decide +kernel
theorem dX12_init_660 : decode cX12_init 660 = .ok (.bipush 101, 2) := by decide +kernel
theorem dX12_init_662 : decode cX12_init 662 = .ok (.iconst 0, 1) := by decide +kernel
theorem dX12_init_663 : decode cX12_init 663 = .ok (.iconst 0, 1) := by decide +kernel
theorem dX12_init_664 : decode cX12_init 664 = .ok (.iconst 0, 1) := by decide +kernel
theorem dX12_init_665 : decode cX12_init 665 = .ok (.invokestatic 181, 3) := by decide +kernel
theorem dX12_init_668 : decode cX12_init 668 = .ok (.lastore, 1) := by decide +kernel
theorem dX12_init_669 : decode cX12_init 669 = .ok (.aload_n 0, 1) := by decide +kernel
theorem dX12_init_670 : decode cX12_init 670 = .ok (.getfield 34, 3) := by decide +kernel
theorem dX12_init_673 : decode cX12_init 673 = .ok (.bipush 11, 2) := by decide +kernel
theorem dX12_init_675 : decode cX12_init 675 = .ok (.bipush 120, 2) := by decide +kernel
theorem dX12_init_677 : decode cX12_init 677 = .ok (.iconst 0, 1) := by decide +kernel
theorem dX12_init_678 : decode cX12_init 678 = .ok (.iconst 0, 1) := by decide +kernel
theorem dX12_init_679 : decode cX12_init 679 = .ok (.iconst 0, 1) := by decide +kernel
theorem dX12_init_680 : decode cX12_init 680 = .ok (.iconst 0, 1) := by decide +kernel
theorem dX12_init_681 : decode cX12_init 681 = .ok (.iconst 0, 1) := by decide +kernel
theorem dX12_init_682 : decode cX12_init 682 = .ok (.iconst 0, 1) := by decide +kernel
theorem dX12_init_683 : decode cX12_init 683 = .ok (.invokestatic 181, 3) := by decide +kernel
theorem dX12_init_686 : decode cX12_init 686 = .ok (.lastore, 1) := by decide +kernel
theorem dX12_init_687 : decode cX12_init 687 = .ok (.aload_n 0, 1) := by decide +kernel
theorem dX12_init_688 : decode cX12_init 688 = .ok (.getfield 34, 3) := by decide +kernel
theorem dX12_init_691 : decode cX12_init 691 = .ok (.bipush 12, 2) := by decide +kernel
theorem dX12_init_693 : decode cX12_init 693 = .ok (.bipush 121, 2) := by decide +kernel
theorem dX12_init_695 : decode cX12_init 695 = .ok (.iconst 0, 1) := by decide +kernel
theorem dX12_init_696 : decode cX12_init 696 = .ok (.iconst 0, 1) := by decide +kernel
theorem dX12_init_697 : decode cX12_init 697 = .ok (.iconst 0, 1) := by decide +kernel
theorem dX12_init_698 : decode cX12_init 698 = .ok (.iconst 0, 1) := by decide +kernel
theorem dX12_init_699 : decode cX12_init 699 = .ok (.iconst 0, 1) := by decide +kernel
theorem dX12_init_700 : decode cX12_init 700 = .ok (.iconst 0, 1) := by decide +kernel
theorem dX12_init_701 : decode cX12_init 701 = .ok (.invokestatic 181, 3) := by decide +kernel
theorem dX12_init_704 : decode cX12_init 704 = .ok (.lastore, 1) := by decide +kernel
theorem dX12_init_705 : decode cX12_init 705 = .ok (.aload_n 0, 1) := by decide +kernel
theorem dX12_init_706 : decode cX12_init 706 = .ok (.getfield 34, 3) := by decide +kernel
theorem dX12_init_709 : decode cX12_init 709 = .ok (.bipush 13, 2) := by decide +kernel
theorem dX12_init_711 : decode cX12_init 711 = .ok (.bipush 109, 2) := by decide +kernel
theorem dX12_init_713 : decode cX12_init 713 = .ok (.bipush 105, 2) := by decide +kernel
theorem dX12_init_715 : decode cX12_init 715 = .ok (.bipush 110, 2) := by decide +kernel
theorem dX12_init_717 : decode cX12_init 717 = .ok (.bipush 117, 2) := by decide +kernel
theorem dX12_init_719 : decode cX12_init 719 = .ok (.bipush 116, 2) := by decide +kernel
theorem dX12_init_721 : decode cX12_init 721 = .ok (.bipush 101, 2) := by decide +kernel
theorem dX12_init_723 : decode cX12_init 723 = .ok (.iconst 0, 1) := by decide +kernel
theorem dX12_init_724 : decode cX12_init 724 = .ok (.invokestatic 181, 3) := by decide +kernel
theorem dX12_init_727 : decode cX12_init 727 = .ok (.lastore, 1) := by decide +kernel
theorem dX12_init_728 : decode cX12_init 728 = .ok (.aload_n 0, 1) := by decide +kernel
theorem dX12_init_729 : decode cX12_init 729 = .ok (.getfield 34, 3) := by decide +kernel
theorem dX12_init_732 : decode cX12_init 732 = .ok (.bipush 14, 2) := by decide +kernel
theorem dX12_init_734 : decode cX12_init 734 = .ok (.bipush 108, 2) := by decide +kernel
theorem dX12_init_736 : decode cX12_init 736 = .ok (.bipush 101, 2) := by decide +kernel
theorem dX12_init_738 : decode cX12_init 738 = .ok (.bipush 102, 2) := by decide +kernel
theorem dX12_init_740 : decode cX12_init 740 = .ok (.bipush 116, 2) := by decide +kernel
theorem dX12_init_742 : decode cX12_init 742 = .ok (.iconst 0, 1) := by decide +kernel
theorem dX12_init_743 : decode cX12_init 743 = .ok (.iconst 0, 1) := by decide +kernel
theorem dX12_init_744 : decode cX12_init 744 = .ok (.iconst 0, 1) := by decide +kernel
theorem dX12_init_745 : decode cX12_init 745 = .ok (.invokestatic 181, 3) := by decide +kernel
theorem dX12_init_748 : decode cX12_init 748 = .ok (.lastore, 1) := by decide +kernel
theorem dX12_init_749 : decode cX12_init 749 = .ok (.aload_n 0, 1) := by decide +kernel
theorem dX12_init_750 : decode cX12_init 750 = .ok (.getfield 34, 3) := by decide +kernel
theorem dX12_init_753 : decode cX12_init 753 = .ok (.bipush 15, 2) := by decide +kernel
theorem dX12_init_755 : decode cX12_init 755 = .ok (.bipush 108, 2) := by decide +kernel
theorem dX12_init_757 : decode cX12_init 757 = .ok (.bipush 111, 2) := by decide +kernel
theorem dX12_init_759 : decode cX12_init 759 = .ok (.bipush 116, 2) := by decide +kernel
theorem dX12_init_761 : decode cX12_init 761 = .ok (.iconst 0, 1) := by decide +kernel
theorem dX12_init_762 : decode cX12_init 762 = .ok (.iconst 0, 1) := by decide +kernel
theorem dX12_init_763 : decode cX12_init 763 = .ok (.iconst 0, 1) := by decide +kernel
theorem dX12_init_764 : decode cX12_init 764 = .ok (.iconst 0, 1) := by decide +kernel
theorem dX12_init_765 : decode cX12_init 765 = .ok (.invokestatic 181, 3) := by decide +kernel
theorem dX12_init_768 : decode cX12_init 768 = .ok (.lastore, 1) := by decide +kernel
theorem dX12_init_769 : decode cX12_init 769 = .ok (.aload_n 0, 1) := by decide +kernel
theorem dX12_init_770 : decode cX12_init 770 = .ok (.getfield 34, 3) := by decide +kernel
theorem dX12_init_773 : decode cX12_init 773 = .ok (.bipush 16, 2) := by decide +kernel
theorem dX12_init_775 : decode cX12_init 775 = .ok (.bipush 114, 2) := by decide +kernel
theorem dX12_init_777 : decode cX12_init 777 = .ok (.bipush 97, 2) := by decide +kernel
theorem dX12_init_779 : decode cX12_init 779 = .ok (.bipush 110, 2) := by decide +kernel
theorem dX12_init_781 : decode cX12_init 781 = .ok (.bipush 107, 2) := by decide +kernel
theorem dX12_init_783 : decode cX12_init 783 = .ok (.iconst 0, 1) := by decide +kernel
theorem dX12_init_784 : decode cX12_init 784 = .ok (.iconst 0, 1) := by decide +kernel
theorem dX12_init_785 : decode cX12_init 785 = .ok (.iconst 0, 1) := by decide +kernel
theorem dX12_init_786 : decode cX12_init 786 = .ok (.invokestatic 181, 3) := by decide +kernel
theorem dX12_init_789 : decode cX12_init 789 = .ok (.lastore, 1) := by decide +kernel
theorem dX12_init_790 : decode cX12_init 790 = .ok (.aload_n 0, 1) := by decide +kernel
theorem dX12_init_791 : decode cX12_init 791 = .ok (.invokevirtual 185, 3) := by decide +kernel
theorem dX12_init_794 : decode cX12_init 794 = .ok (.aload_n 0, 1) := by decide +kernel
theorem dX12_init_795 : decode cX12_init 795 = .ok (.invokevirtual 188, 3) := by decide +kernel
theorem dX12_init_798 : decode cX12_init 798 = .ok (.return_, 1) := by decide +kernel
theorem dX12_feed_0 : decode cX12_feed 0 = .ok (.aload_n 0, 1) := by decide +kernel
theorem dX12_feed_1 : decode cX12_feed 1 = .ok (.getfield 191, 3) := by decide +kernel
theorem dX12_feed_4 : decode cX12_feed 4 = .ok (.bipush 20, 2) := by decide +kernel
theorem dX12_feed_6 : decode cX12_feed 6 = .ok (.iadd, 1) := by decide +kernel
theorem dX12_feed_7 : decode cX12_feed 7 = .ok (.sipush 2000, 3) := by decide +kernel
theorem dX12_feed_10 : decode cX12_feed 10 = .ok (.if_icmp .le 5, 3) := by decide +kernel
theorem dX12_feed_13 : decode cX12_feed 13 = .ok (.iconst (-1), 1) := by decide +kernel
theorem dX12_feed_14 : decode cX12_feed 14 = .ok (.ireturn, 1) := by decide +kernel
theorem dX12_feed_15 : decode cX12_feed 15 = .ok (.aload_n 0, 1) := by decide +kernel
theorem dX12_feed_16 : decode cX12_feed 16 = .ok (.iload_n 1, 1) := by decide +kernel
theorem dX12_feed_17 : decode cX12_feed 17 = .ok (.invokevirtual 194, 3) := by decide +kernel
theorem dX12_feed_20 : decode cX12_feed 20 = .ok (.aload_n 0, 1) := by decide +kernel
theorem dX12_feed_21 : decode cX12_feed 21 = .ok (.iload_n 2, 1) := by decide +kernel
theorem dX12_feed_22 : decode cX12_feed 22 = .ok (.invokevirtual 194, 3) := by decide +kernel
theorem dX12_feed_25 : decode cX12_feed 25 = .ok (.aload_n 0, 1) := by decide +kernel
theorem dX12_feed_26 : decode cX12_feed 26 = .ok (.iload_n 3, 1) := by decide +kernel
theorem dX12_feed_27 : decode cX12_feed 27 = .ok (.invokevirtual 194, 3) := by decide +kernel
theorem dX12_feed_30 : decode cX12_feed 30 = .ok (.aload_n 0, 1) := by decide +kernel
theorem dX12_feed_31 : decode cX12_feed 31 = .ok (.iload 4, 2) := by decide +kernel
theorem dX12_feed_33 : decode cX12_feed 33 = .ok (.invokevirtual 194, 3) := by decide +kernel
theorem dX12_feed_36 : decode cX12_feed 36 = .ok (.aload_n 0, 1) := by decide +kernel
theorem dX12_feed_37 : decode cX12_feed 37 = .ok (.iload 5, 2) := by decide +kernel
theorem dX12_feed_39 : decode cX12_feed 39 = .ok (.invokevirtual 194, 3) := by decide +kernel
theorem dX12_feed_42 : decode cX12_feed 42 = .ok (.aload_n 0, 1) := by decide +kernel
theorem dX12_feed_43 : decode cX12_feed 43 = .ok (.getfield 191, 3) := by decide +kernel
theorem dX12_feed_46 : decode cX12_feed 46 = .ok (.ireturn, 1) := by decide +kernel
theorem dX12_put_0 : decode cX12_put 0 = .ok (.bipush 24, 2) := by decide +kernel
theorem dX12_put_2 : decode cX12_put 2 = .ok (.istore_n 2, 1) := by decide +kernel
theorem dX12_put_3 : decode cX12_put 3 = .ok (.iload_n 2, 1) := by decide +kernel
theorem dX12_put_4 : decode cX12_put 4 = .ok (.ifCond .lt 32, 3) := by decide +kernel
theorem dX12_put_7 : decode cX12_put 7 = .ok (.aload_n 0, 1) := by decide +kernel
theorem dX12_put_8 : decode cX12_put 8 = .ok (.getfield 13, 3) := by decide +kernel
theorem dX12_put_11 : decode cX12_put 11 = .ok (.aload_n 0, 1) := by decide +kernel
theorem dX12_put_12 : decode cX12_put 12 = .ok (.getfield 191, 3) := by decide +kernel
theorem dX12_put_15 : decode cX12_put 15 = .ok (.iload_n 1, 1) := by decide +kernel
theorem dX12_put_16 : decode cX12_put 16 = .ok (.iload_n 2, 1) := by decide +kernel
theorem dX12_put_17 : decode cX12_put 17 = .ok (.ishr, 1) := by decide +kernel
theorem dX12_put_18 : decode cX12_put 18 = .ok (.i2b, 1) := by decide +kernel
theorem dX12_put_19 : decode cX12_put 19 = .ok (.bastore, 1) := by decide +kernel
theorem dX12_put_20 : decode cX12_put 20 = .ok (.aload_n 0, 1) := by decide +kernel
theorem dX12_put_21 : decode cX12_put 21 = .ok (.dup, 1) := by decide +kernel
theorem dX12_put_22 : decode cX12_put 22 = .ok (.getfield 191, 3) := by decide +kernel
theorem dX12_put_25 : decode cX12_put 25 = .ok (.iconst 1, 1) := by decide +kernel
theorem dX12_put_26 : decode cX12_put 26 = .ok (.iadd, 1) := by decide +kernel
theorem dX12_put_27 : decode cX12_put 27 = .ok (.putfield 191, 3) := by decide +kernel
theorem dX12_put_30 : decode cX12_put 30 = .ok (.iinc 2 (-8), 3) := by decide +kernel
theorem dX12_put_33 : decode cX12_put 33 = .ok (.goto (-30), 3) := by decide +kernel
theorem dX12_put_36 : decode cX12_put 36 = .ok (.return_, 1) := by decide +kernel
theorem dX12_back_0 : decode cX12_back 0 = .ok (.iload_n 1, 1) := by decide +kernel
theorem dX12_back_1 : decode cX12_back 1 = .ok (.ifCond .lt 11, 3) := by decide +kernel
theorem dX12_back_4 : decode cX12_back 4 = .ok (.iload_n 1, 1) := by decide +kernel
theorem dX12_back_5 : decode cX12_back 5 = .ok (.aload_n 0, 1) := by decide +kernel
theorem dX12_back_6 : decode cX12_back 6 = .ok (.getfield 191, 3) := by decide +kernel
theorem dX12_back_9 : decode cX12_back 9 = .ok (.if_icmp .le 5, 3) := by decide +kernel
theorem dX12_back_12 : decode cX12_back 12 = .ok (.iconst (-1), 1) := by decide +kernel
theorem dX12_back_13 : decode cX12_back 13 = .ok (.ireturn, 1) := by decide +kernel
theorem dX12_back_14 : decode cX12_back 14 = .ok (.aload_n 0, 1) := by decide +kernel
theorem dX12_back_15 : decode cX12_back 15 = .ok (.dup, 1) := by decide +kernel
theorem dX12_back_16 : decode cX12_back 16 = .ok (.getfield 191, 3) := by decide +kernel
theorem dX12_back_19 : decode cX12_back 19 = .ok (.iload_n 1, 1) := by decide +kernel
theorem dX12_back_20 : decode cX12_back 20 = .ok (.isub, 1) := by decide +kernel
theorem dX12_back_21 : decode cX12_back 21 = .ok (.putfield 191, 3) := by decide +kernel
theorem dX12_back_24 : decode cX12_back 24 = .ok (.aload_n 0, 1) := by decide +kernel
theorem dX12_back_25 : decode cX12_back 25 = .ok (.getfield 191, 3) := by decide +kernel
theorem dX12_back_28 : decode cX12_back 28 = .ok (.ireturn, 1) := by decide +kernel
theorem dX12_byteAt_0 : decode cX12_byteAt 0 = .ok (.iload_n 1, 1) := by decide +kernel
theorem dX12_byteAt_1 : decode cX12_byteAt 1 = .ok (.aload_n 0, 1) := by decide +kernel
theorem dX12_byteAt_2 : decode cX12_byteAt 2 = .ok (.getfield 197, 3) := by decide +kernel
theorem dX12_byteAt_5 : decode cX12_byteAt 5 = .ok (.if_icmp .ge 16, 3) := by decide +kernel
theorem dX12_byteAt_8 : decode cX12_byteAt 8 = .ok (.aload_n 0, 1) := by decide +kernel
theorem dX12_byteAt_9 : decode cX12_byteAt 9 = .ok (.getfield 17, 3) := by decide +kernel
theorem dX12_byteAt_12 : decode cX12_byteAt 12 = .ok (.iload_n 1, 1) := by decide +kernel
theorem dX12_byteAt_13 : decode cX12_byteAt 13 = .ok (.baload, 1) := by decide +kernel
theorem dX12_byteAt_14 : decode cX12_byteAt 14 = .ok (.sipush 255, 3) := by decide +kernel
theorem dX12_byteAt_17 : decode cX12_byteAt 17 = .ok (.iand, 1) := by decide +kernel
theorem dX12_byteAt_18 : decode cX12_byteAt 18 = .ok (.goto 4, 3) := by decide +kernel
theorem dX12_byteAt_21 : decode cX12_byteAt 21 = .ok (.iconst 0, 1) := by decide +kernel
theorem dX12_byteAt_22 : decode cX12_byteAt 22 = .ok (.ireturn, 1) := by decide +kernel
theorem dX12_isDigit_0 : decode cX12_isDigit 0 = .ok (.iload_n 0, 1) := by decide +kernel
theorem dX12_isDigit_1 : decode cX12_isDigit 1 = .ok (.bipush 48, 2) := by decide +kernel
theorem dX12_isDigit_3 : decode cX12_isDigit 3 = .ok (.if_icmp .lt 13, 3) := by decide +kernel
theorem dX12_isDigit_6 : decode cX12_isDigit 6 = .ok (.iload_n 0, 1) := by decide +kernel
theorem dX12_isDigit_7 : decode cX12_isDigit 7 = .ok (.bipush 57, 2) := by decide +kernel
theorem dX12_isDigit_9 : decode cX12_isDigit 9 = .ok (.if_icmp .gt 7, 3) := by decide +kernel
theorem dX12_isDigit_12 : decode cX12_isDigit 12 = .ok (.iconst 1, 1) := by decide +kernel
theorem dX12_isDigit_13 : decode cX12_isDigit 13 = .ok (.goto 4, 3) := by decide +kernel
theorem dX12_isDigit_16 : decode cX12_isDigit 16 = .ok (.iconst 0, 1) := by decide +kernel
theorem dX12_isDigit_17 : decode cX12_isDigit 17 = .ok (.ireturn, 1) := by decide +kernel
theorem dX12_isLetter_0 : decode cX12_isLetter 0 = .ok (.iload_n 0, 1) := by decide +kernel
theorem dX12_isLetter_1 : decode cX12_isLetter 1 = .ok (.bipush 97, 2) := by decide +kernel
theorem dX12_isLetter_3 : decode cX12_isLetter 3 = .ok (.if_icmp .lt 13, 3) := by decide +kernel
theorem dX12_isLetter_6 : decode cX12_isLetter 6 = .ok (.iload_n 0, 1) := by decide +kernel
theorem dX12_isLetter_7 : decode cX12_isLetter 7 = .ok (.bipush 122, 2) := by decide +kernel
theorem dX12_isLetter_9 : decode cX12_isLetter 9 = .ok (.if_icmp .gt 7, 3) := by decide +kernel
theorem dX12_isLetter_12 : decode cX12_isLetter 12 = .ok (.iconst 1, 1) := by decide +kernel
theorem dX12_isLetter_13 : decode cX12_isLetter 13 = .ok (.goto 4, 3) := by decide +kernel
theorem dX12_isLetter_16 : decode cX12_isLetter 16 = .ok (.iconst 0, 1) := by decide +kernel
theorem dX12_isLetter_17 : decode cX12_isLetter 17 = .ok (.ireturn, 1) := by decide +kernel
theorem dX12_appends_0 : decode cX12_appends 0 = .ok (.iload_n 2, 1) := by decide +kernel
theorem dX12_appends_1 : decode cX12_appends 1 = .ok (.ifCond .ne 7, 3) := by decide +kernel
theorem dX12_appends_4 : decode cX12_appends 4 = .ok (.lload_n 0, 1) := by decide +kernel
theorem dX12_appends_5 : decode cX12_appends 5 = .ok (.goto 16, 3) := by decide +kernel
theorem dX12_appends_8 : decode cX12_appends 8 = .ok (.ldc2_w 200, 3) := by decide +kernel
theorem dX12_appends_11 : decode cX12_appends 11 = .ok (.lload_n 0, 1) := by decide +kernel
theorem dX12_appends_12 : decode cX12_appends 12 = .ok (.lmul, 1) := by decide +kernel
theorem dX12_appends_13 : decode cX12_appends 13 = .ok (.iload_n 2, 1) := by decide +kernel
theorem dX12_appends_14 : decode cX12_appends 14 = .ok (.bipush 97, 2) := by decide +kernel
theorem dX12_appends_16 : decode cX12_appends 16 = .ok (.isub, 1) := by decide +kernel
theorem dX12_appends_17 : decode cX12_appends 17 = .ok (.iconst 1, 1) := by decide +kernel
theorem dX12_appends_18 : decode cX12_appends 18 = .ok (.iadd, 1) := by decide +kernel
theorem dX12_appends_19 : decode cX12_appends 19 = .ok (.i2l, 1) := by decide +kernel
theorem dX12_appends_20 : decode cX12_appends 20 = .ok (.ladd, 1) := by decide +kernel
theorem dX12_appends_21 : decode cX12_appends 21 = .ok (.lreturn, 1) := by decide +kernel
theorem dX12_word_0 : decode cX12_word 0 = .ok (.lconst 0, 1) := by decide +kernel
theorem dX12_word_1 : decode cX12_word 1 = .ok (.iload_n 0, 1) := by decide +kernel
theorem dX12_word_2 : decode cX12_word 2 = .ok (.invokestatic 202, 3) := by decide +kernel
theorem dX12_word_5 : decode cX12_word 5 = .ok (.iload_n 1, 1) := by decide +kernel
theorem dX12_word_6 : decode cX12_word 6 = .ok (.invokestatic 202, 3) := by decide +kernel
theorem dX12_word_9 : decode cX12_word 9 = .ok (.iload_n 2, 1) := by decide +kernel
theorem dX12_word_10 : decode cX12_word 10 = .ok (.invokestatic 202, 3) := by decide +kernel
theorem dX12_word_13 : decode cX12_word 13 = .ok (.iload_n 3, 1) := by decide +kernel
theorem dX12_word_14 : decode cX12_word 14 = .ok (.invokestatic 202, 3) := by decide +kernel
theorem dX12_word_17 : decode cX12_word 17 = .ok (.iload 4, 2) := by decide +kernel
theorem dX12_word_19 : decode cX12_word 19 = .ok (.invokestatic 202, 3) := by decide +kernel
theorem dX12_word_22 : decode cX12_word 22 = .ok (.iload 5, 2) := by decide +kernel
theorem dX12_word_24 : decode cX12_word 24 = .ok (.invokestatic 202, 3) := by decide +kernel
theorem dX12_word_27 : decode cX12_word 27 = .ok (.iload 6, 2) := by decide +kernel
theorem dX12_word_29 : decode cX12_word 29 = .ok (.invokestatic 202, 3) := by decide +kernel
theorem dX12_word_32 : decode cX12_word 32 = .ok (.lreturn, 1) := by decide +kernel
theorem dX12_token_0 : decode cX12_token 0 = .ok (.aload_n 0, 1) := by decide +kernel
theorem dX12_token_1 : decode cX12_token 1 = .ok (.getfield 20, 3) := by decide +kernel
theorem dX12_token_4 : decode cX12_token 4 = .ok (.aload_n 0, 1) := by decide +kernel
theorem dX12_token_5 : decode cX12_token 5 = .ok (.getfield 206, 3) := by decide +kernel
theorem dX12_token_8 : decode cX12_token 8 = .ok (.iload_n 1, 1) := by decide +kernel
theorem dX12_token_9 : decode cX12_token 9 = .ok (.iastore, 1) := by decide +kernel
theorem dX12_token_10 : decode cX12_token 10 = .ok (.aload_n 0, 1) := by decide +kernel
theorem dX12_token_11 : decode cX12_token 11 = .ok (.getfield 24, 3) := by decide +kernel
theorem dX12_token_14 : decode cX12_token 14 = .ok (.aload_n 0, 1) := by decide +kernel
theorem dX12_token_15 : decode cX12_token 15 = .ok (.getfield 206, 3) := by decide +kernel
theorem dX12_token_18 : decode cX12_token 18 = .ok (.iload_n 2, 1) := by decide +kernel
theorem dX12_token_19 : decode cX12_token 19 = .ok (.iastore, 1) := by decide +kernel
theorem dX12_token_20 : decode cX12_token 20 = .ok (.aload_n 0, 1) := by decide +kernel
theorem dX12_token_21 : decode cX12_token 21 = .ok (.getfield 27, 3) := by decide +kernel
theorem dX12_token_24 : decode cX12_token 24 = .ok (.aload_n 0, 1) := by decide +kernel
theorem dX12_token_25 : decode cX12_token 25 = .ok (.getfield 206, 3) := by decide +kernel
theorem dX12_token_28 : decode cX12_token 28 = .ok (.iload_n 3, 1) := by decide +kernel
theorem dX12_token_29 : decode cX12_token 29 = .ok (.iastore, 1) := by decide +kernel
theorem dX12_token_30 : decode cX12_token 30 = .ok (.aload_n 0, 1) := by decide +kernel
theorem dX12_token_31 : decode cX12_token 31 = .ok (.getfield 30, 3) := by decide +kernel
theorem dX12_token_34 : decode cX12_token 34 = .ok (.aload_n 0, 1) := by decide +kernel
theorem dX12_token_35 : decode cX12_token 35 = .ok (.getfield 206, 3) := by decide +kernel
theorem dX12_token_38 : decode cX12_token 38 = .ok (.lload 4, 2) := by decide +kernel
theorem dX12_token_40 : decode cX12_token 40 = .ok (.lastore, 1) := by decide +kernel
theorem dX12_token_41 : decode cX12_token 41 = .ok (.aload_n 0, 1) := by decide +kernel
theorem dX12_token_42 : decode cX12_token 42 = .ok (.dup, 1) := by decide +kernel
theorem dX12_token_43 : decode cX12_token 43 = .ok (.getfield 206, 3) := by decide +kernel
theorem dX12_token_46 : decode cX12_token 46 = .ok (.iconst 1, 1) := by decide +kernel
theorem dX12_token_47 : decode cX12_token 47 = .ok (.iadd, 1) := by decide +kernel
theorem dX12_token_48 : decode cX12_token 48 = .ok (.putfield 206, 3) := by decide +kernel
theorem dX12_token_51 : decode cX12_token 51 = .ok (.return_, 1) := by decide +kernel
theorem dX12_cut0_0 : decode cX12_cut0 0 = .ok (.aload_n 0, 1) := by decide +kernel
theorem dX12_cut0_1 : decode cX12_cut0 1 = .ok (.iconst 0, 1) := by decide +kernel
theorem dX12_cut0_2 : decode cX12_cut0 2 = .ok (.putfield 206, 3) := by decide +kernel
theorem dX12_cut0_5 : decode cX12_cut0 5 = .ok (.iconst 0, 1) := by decide +kernel
theorem dX12_cut0_6 : decode cX12_cut0 6 = .ok (.istore_n 1, 1) := by decide +kernel
theorem dX12_cut0_7 : decode cX12_cut0 7 = .ok (.aload_n 0, 1) := by decide +kernel
theorem dX12_cut0_8 : decode cX12_cut0 8 = .ok (.getfield 206, 3) := by decide +kernel
theorem dX12_cut0_11 : decode cX12_cut0 11 = .ok (.sipush 400, 3) := by decide +kernel
theorem dX12_cut0_14 : decode cX12_cut0 14 = .ok (.if_icmp .gt 280, 3) := by decide +kernel
theorem dX12_cut0_17 : decode cX12_cut0 17 = .ok (.aload_n 0, 1) := by decide +kernel
theorem dX12_cut0_18 : decode cX12_cut0 18 = .ok (.iload_n 1, 1) := by decide +kernel
theorem dX12_cut0_19 : decode cX12_cut0 19 = .ok (.invokevirtual 209, 3) := by decide +kernel
theorem dX12_cut0_22 : decode cX12_cut0 22 = .ok (.istore_n 2, 1) := by decide +kernel
theorem dX12_cut0_23 : decode cX12_cut0 23 = .ok (.iload_n 1, 1) := by decide +kernel
theorem dX12_cut0_24 : decode cX12_cut0 24 = .ok (.aload_n 0, 1) := by decide +kernel
theorem dX12_cut0_25 : decode cX12_cut0 25 = .ok (.getfield 197, 3) := by decide +kernel
theorem dX12_cut0_28 : decode cX12_cut0 28 = .ok (.if_icmp .lt 15, 3) := by decide +kernel
theorem dX12_cut0_31 : decode cX12_cut0 31 = .ok (.aload_n 0, 1) := by decide +kernel
theorem dX12_cut0_32 : decode cX12_cut0 32 = .ok (.iconst 0, 1) := by decide +kernel
theorem dX12_cut0_33 : decode cX12_cut0 33 = .ok (.aload_n 0, 1) := by decide +kernel
theorem dX12_cut0_34 : decode cX12_cut0 34 = .ok (.getfield 197, 3) := by decide +kernel
theorem dX12_cut0_37 : decode cX12_cut0 37 = .ok (.iconst 0, 1) := by decide +kernel
theorem dX12_cut0_38 : decode cX12_cut0 38 = .ok (.lconst 0, 1) := by decide +kernel
theorem dX12_cut0_39 : decode cX12_cut0 39 = .ok (.invokevirtual 213, 3) := by decide +kernel
theorem dX12_cut0_42 : decode cX12_cut0 42 = .ok (.return_, 1) := by decide +kernel
theorem dX12_cut0_43 : decode cX12_cut0 43 = .ok (.iload_n 2, 1) := by decide +kernel
theorem dX12_cut0_44 : decode cX12_cut0 44 = .ok (.bipush 9, 2) := by decide +kernel
theorem dX12_cut0_46 : decode cX12_cut0 46 = .ok (.if_icmp .eq 21, 3) := by decide +kernel
theorem dX12_cut0_49 : decode cX12_cut0 49 = .ok (.iload_n 2, 1) := by decide +kernel
theorem dX12_cut0_50 : decode cX12_cut0 50 = .ok (.bipush 10, 2) := by decide +kernel
theorem dX12_cut0_52 : decode cX12_cut0 52 = .ok (.if_icmp .eq 15, 3) := by decide +kernel
theorem dX12_cut0_55 : decode cX12_cut0 55 = .ok (.iload_n 2, 1) := by decide +kernel
theorem dX12_cut0_56 : decode cX12_cut0 56 = .ok (.bipush 13, 2) := by decide +kernel
theorem dX12_cut0_58 : decode cX12_cut0 58 = .ok (.if_icmp .eq 9, 3) := by decide +kernel
theorem dX12_cut0_61 : decode cX12_cut0 61 = .ok (.iload_n 2, 1) := by decide +kernel
theorem dX12_cut0_62 : decode cX12_cut0 62 = .ok (.bipush 32, 2) := by decide +kernel
theorem dX12_cut0_64 : decode cX12_cut0 64 = .ok (.if_icmp .ne 9, 3) := by decide +kernel
theorem dX12_cut0_67 : decode cX12_cut0 67 = .ok (.iinc 1 1, 3) := by decide +kernel
theorem dX12_cut0_70 : decode cX12_cut0 70 = .ok (.goto 221, 3) := by decide +kernel
theorem dX12_cut0_73 : decode cX12_cut0 73 = .ok (.iload_n 2, 1) := by decide +kernel
theorem dX12_cut0_74 : decode cX12_cut0 74 = .ok (.invokestatic 217, 3) := by decide +kernel
theorem dX12_cut0_77 : decode cX12_cut0 77 = .ok (.ifCond .eq 119, 3) := by decide +kernel
theorem dX12_cut0_80 : decode cX12_cut0 80 = .ok (.iconst 0, 1) := by decide +kernel
theorem dX12_cut0_81 : decode cX12_cut0 81 = .ok (.istore_n 3, 1) := by decide +kernel
theorem dX12_cut0_82 : decode cX12_cut0 82 = .ok (.lconst 0, 1) := by decide +kernel
theorem dX12_cut0_83 : decode cX12_cut0 83 = .ok (.lstore 4, 2) := by decide +kernel
theorem dX12_cut0_85 : decode cX12_cut0 85 = .ok (.aload_n 0, 1) := by decide +kernel
theorem dX12_cut0_86 : decode cX12_cut0 86 = .ok (.iload_n 1, 1) := by decide +kernel
theorem dX12_cut0_87 : decode cX12_cut0 87 = .ok (.iload_n 3, 1) := by decide +kernel
theorem dX12_cut0_88 : decode cX12_cut0 88 = .ok (.iadd, 1) := by decide +kernel
theorem dX12_cut0_89 : decode cX12_cut0 89 = .ok (.invokevirtual 209, 3) := by decide +kernel
theorem dX12_cut0_92 : decode cX12_cut0 92 = .ok (.invokestatic 217, 3) := by decide +kernel
theorem dX12_cut0_95 : decode cX12_cut0 95 = .ok (.ifCond .eq 29, 3) := by decide +kernel
theorem dX12_cut0_98 : decode cX12_cut0 98 = .ok (.iload_n 3, 1) := by decide +kernel
theorem dX12_cut0_99 : decode cX12_cut0 99 = .ok (.bipush 8, 2) := by decide +kernel
theorem dX12_cut0_101 : decode cX12_cut0 101 = .ok (.if_icmp .ge 17, 3) := by decide +kernel
theorem dX12_cut0_104 : decode cX12_cut0 104 = .ok (.lload 4, 2) := by decide +kernel
theorem dX12_cut0_106 : decode cX12_cut0 106 = .ok (.aload_n 0, 1) := by decide +kernel
theorem dX12_cut0_107 : decode cX12_cut0 107 = .ok (.iload_n 1, 1) := by decide +kernel
theorem dX12_cut0_108 : decode cX12_cut0 108 = .ok (.iload_n 3, 1) := by decide +kernel
theorem dX12_cut0_109 : decode cX12_cut0 109 = .ok (.iadd, 1) := by decide +kernel
theorem dX12_cut0_110 : decode cX12_cut0 110 = .ok (.invokevirtual 209, 3) := by decide +kernel
theorem dX12_cut0_113 : decode cX12_cut0 113 = .ok (.invokestatic 202, 3) := by decide +kernel
theorem dX12_cut0_116 : decode cX12_cut0 116 = .ok (.lstore 4, 2) := by decide +kernel
theorem dX12_cut0_118 : decode cX12_cut0 118 = .ok (.iinc 3 1, 3) := by decide +kernel
theorem dX12_cut0_121 : decode cX12_cut0 121 = .ok (.goto (-36), 3) := by decide +kernel
theorem dX12_cut0_124 : decode cX12_cut0 124 = .ok (.iload_n 3, 1) := by decide +kernel
theorem dX12_cut0_125 : decode cX12_cut0 125 = .ok (.bipush 8, 2) := by decide +kernel
theorem dX12_cut0_127 : decode cX12_cut0 127 = .ok (.if_icmp .le 7, 3) := by decide +kernel
theorem dX12_cut0_130 : decode cX12_cut0 130 = .ok (.iconst 3, 1) := by decide +kernel
theorem dX12_cut0_131 : decode cX12_cut0 131 = .ok (.goto 4, 3) := by decide +kernel
theorem dX12_cut0_134 : decode cX12_cut0 134 = .ok (.iconst 1, 1) := by decide +kernel
theorem dX12_cut0_135 : decode cX12_cut0 135 = .ok (.istore 6, 2) := by decide +kernel
theorem dX12_cut0_137 : decode cX12_cut0 137 = .ok (.iload_n 3, 1) := by decide +kernel
theorem dX12_cut0_138 : decode cX12_cut0 138 = .ok (.bipush 7, 2) := by decide +kernel
theorem dX12_cut0_140 : decode cX12_cut0 140 = .ok (.if_icmp .gt 39, 3) := by decide +kernel
theorem dX12_cut0_143 : decode cX12_cut0 143 = .ok (.iconst 0, 1) := by decide +kernel
theorem dX12_cut0_144 : decode cX12_cut0 144 = .ok (.istore 7, 2) := by decide +kernel
theorem dX12_cut0_146 : decode cX12_cut0 146 = .ok (.iload 7, 2) := by decide +kernel
theorem dX12_cut0_148 : decode cX12_cut0 148 = .ok (.bipush 17, 2) := by decide +kernel
theorem dX12_cut0_150 : decode cX12_cut0 150 = .ok (.if_icmp .ge 29, 3) := by decide +kernel
theorem dX12_cut0_153 : decode cX12_cut0 153 = .ok (.aload_n 0, 1) := by decide +kernel
theorem dX12_cut0_154 : decode cX12_cut0 154 = .ok (.getfield 34, 3) := by decide +kernel
theorem dX12_cut0_157 : decode cX12_cut0 157 = .ok (.iload 7, 2) := by decide +kernel
theorem dX12_cut0_159 : decode cX12_cut0 159 = .ok (.laload, 1) := by decide +kernel
theorem dX12_cut0_160 : decode cX12_cut0 160 = .ok (.lload 4, 2) := by decide +kernel
theorem dX12_cut0_162 : decode cX12_cut0 162 = .ok (.lcmp, 1) := by decide +kernel
theorem dX12_cut0_163 : decode cX12_cut0 163 = .ok (.ifCond .ne 10, 3) := by decide +kernel
theorem dX12_cut0_166 : decode cX12_cut0 166 = .ok (.bipush 20, 2) := by decide +kernel
theorem dX12_cut0_168 : decode cX12_cut0 168 = .ok (.iload 7, 2) := by decide +kernel
theorem dX12_cut0_170 : decode cX12_cut0 170 = .ok (.iadd, 1) := by decide +kernel
theorem dX12_cut0_171 : decode cX12_cut0 171 = .ok (.istore 6, 2) := by decide +kernel
theorem dX12_cut0_173 : decode cX12_cut0 173 = .ok (.iinc 7 1, 3) := by decide +kernel
theorem dX12_cut0_176 : decode cX12_cut0 176 = .ok (.goto (-30), 3) := by decide +kernel
theorem dX12_cut0_179 : decode cX12_cut0 179 = .ok (.aload_n 0, 1) := by decide +kernel
theorem dX12_cut0_180 : decode cX12_cut0 180 = .ok (.iload 6, 2) := by decide +kernel
theorem dX12_cut0_182 : decode cX12_cut0 182 = .ok (.iload_n 1, 1) := by decide +kernel
theorem dX12_cut0_183 : decode cX12_cut0 183 = .ok (.iconst 0, 1) := by decide +kernel
theorem dX12_cut0_184 : decode cX12_cut0 184 = .ok (.lload 4, 2) := by decide +kernel
theorem dX12_cut0_186 : decode cX12_cut0 186 = .ok (.invokevirtual 213, 3) := by decide +kernel
theorem dX12_cut0_189 : decode cX12_cut0 189 = .ok (.iload_n 1, 1) := by decide +kernel
theorem dX12_cut0_190 : decode cX12_cut0 190 = .ok (.iload_n 3, 1) := by decide +kernel
theorem dX12_cut0_191 : decode cX12_cut0 191 = .ok (.iadd, 1) := by decide +kernel
theorem dX12_cut0_192 : decode cX12_cut0 192 = .ok (.istore_n 1, 1) := by decide +kernel
theorem dX12_cut0_193 : decode cX12_cut0 193 = .ok (.goto 98, 3) := by decide +kernel
theorem dX12_cut0_196 : decode cX12_cut0 196 = .ok (.iload_n 2, 1) := by decide +kernel
theorem dX12_cut0_197 : decode cX12_cut0 197 = .ok (.invokestatic 221, 3) := by decide +kernel
theorem dX12_cut0_200 : decode cX12_cut0 200 = .ok (.ifCond .eq 75, 3) := by decide +kernel
theorem dX12_cut0_203 : decode cX12_cut0 203 = .ok (.iconst 0, 1) := by decide +kernel
theorem dX12_cut0_204 : decode cX12_cut0 204 = .ok (.istore_n 3, 1) := by decide +kernel
theorem dX12_cut0_205 : decode cX12_cut0 205 = .ok (.iconst 0, 1) := by decide +kernel
theorem dX12_cut0_206 : decode cX12_cut0 206 = .ok (.istore 4, 2) := by decide +kernel
theorem dX12_cut0_208 : decode cX12_cut0 208 = .ok (.aload_n 0, 1) := by decide +kernel
theorem dX12_cut0_209 : decode cX12_cut0 209 = .ok (.iload_n 1, 1) := by decide +kernel
theorem dX12_cut0_210 : decode cX12_cut0 210 = .ok (.iload_n 3, 1) := by decide +kernel
theorem dX12_cut0_211 : decode cX12_cut0 211 = .ok (.iadd, 1) := by decide +kernel
theorem dX12_cut0_212 : decode cX12_cut0 212 = .ok (.invokevirtual 209, 3) := by decide +kernel
theorem dX12_cut0_215 : decode cX12_cut0 215 = .ok (.invokestatic 221, 3) := by decide +kernel
theorem dX12_cut0_218 : decode cX12_cut0 218 = .ok (.ifCond .eq 32, 3) := by decide +kernel
theorem dX12_cut0_221 : decode cX12_cut0 221 = .ok (.iload_n 3, 1) := by decide +kernel
theorem dX12_cut0_222 : decode cX12_cut0 222 = .ok (.iconst 4, 1) := by decide +kernel
theorem dX12_cut0_223 : decode cX12_cut0 223 = .ok (.if_icmp .ge 21, 3) := by decide +kernel
theorem dX12_cut0_226 : decode cX12_cut0 226 = .ok (.bipush 10, 2) := by decide +kernel
theorem dX12_cut0_228 : decode cX12_cut0 228 = .ok (.iload 4, 2) := by decide +kernel
theorem dX12_cut0_230 : decode cX12_cut0 230 = .ok (.imul, 1) := by decide +kernel
theorem dX12_cut0_231 : decode cX12_cut0 231 = .ok (.aload_n 0, 1) := by decide +kernel
theorem dX12_cut0_232 : decode cX12_cut0 232 = .ok (.iload_n 1, 1) := by decide +kernel
theorem dX12_cut0_233 : decode cX12_cut0 233 = .ok (.iload_n 3, 1) := by decide +kernel
theorem dX12_cut0_234 : decode cX12_cut0 234 = .ok (.iadd, 1) := by decide +kernel
theorem dX12_cut0_235 : decode cX12_cut0 235 = .ok (.invokevirtual 209, 3) := by decide +kernel
theorem dX12_cut0_238 : decode cX12_cut0 238 = .ok (.iadd, 1) := by decide +kernel
theorem dX12_cut0_239 : decode cX12_cut0 239 = .ok (.bipush 48, 2) := by decide +kernel
theorem dX12_cut0_241 : decode cX12_cut0 241 = .ok (.isub, 1) := by decide +kernel
theorem dX12_cut0_242 : decode cX12_cut0 242 = .ok (.istore 4, 2) := by decide +kernel
theorem dX12_cut0_244 : decode cX12_cut0 244 = .ok (.iinc 3 1, 3) := by decide +kernel
theorem dX12_cut0_247 : decode cX12_cut0 247 = .ok (.goto (-39), 3) := by decide +kernel
theorem dX12_cut0_250 : decode cX12_cut0 250 = .ok (.aload_n 0, 1) := by decide +kernel
theorem dX12_cut0_251 : decode cX12_cut0 251 = .ok (.iload_n 3, 1) := by decide +kernel
theorem dX12_cut0_252 : decode cX12_cut0 252 = .ok (.iconst 4, 1) := by decide +kernel
theorem dX12_cut0_253 : decode cX12_cut0 253 = .ok (.if_icmp .le 7, 3) := by decide +kernel
theorem dX12_cut0_256 : decode cX12_cut0 256 = .ok (.iconst 3, 1) := by decide +kernel
theorem dX12_cut0_257 : decode cX12_cut0 257 = .ok (.goto 4, 3) := by decide +kernel
theorem dX12_cut0_260 : decode cX12_cut0 260 = .ok (.iconst 2, 1) := by decide +kernel
theorem dX12_cut0_261 : decode cX12_cut0 261 = .ok (.iload_n 1, 1) := by decide +kernel
theorem dX12_cut0_262 : decode cX12_cut0 262 = .ok (.iload 4, 2) := by decide +kernel
theorem dX12_cut0_264 : decode cX12_cut0 264 = .ok (.lconst 0, 1) := by decide +kernel
theorem dX12_cut0_265 : decode cX12_cut0 265 = .ok (.invokevirtual 213, 3) := by decide +kernel
theorem dX12_cut0_268 : decode cX12_cut0 268 = .ok (.iload_n 1, 1) := by decide +kernel
theorem dX12_cut0_269 : decode cX12_cut0 269 = .ok (.iload_n 3, 1) := by decide +kernel
theorem dX12_cut0_270 : decode cX12_cut0 270 = .ok (.iadd, 1) := by decide +kernel
theorem dX12_cut0_271 : decode cX12_cut0 271 = .ok (.istore_n 1, 1) := by decide +kernel
theorem dX12_cut0_272 : decode cX12_cut0 272 = .ok (.goto 19, 3) := by decide +kernel
theorem dX12_cut0_275 : decode cX12_cut0 275 = .ok (.iload_n 1, 1) := by decide +kernel
theorem dX12_cut0_276 : decode cX12_cut0 276 = .ok (.aload_n 0, 1) := by decide +kernel
theorem dX12_cut0_277 : decode cX12_cut0 277 = .ok (.iload_n 1, 1) := by decide +kernel
theorem dX12_cut0_278 : decode cX12_cut0 278 = .ok (.iload_n 2, 1) := by decide +kernel
theorem dX12_cut0_279 : decode cX12_cut0 279 = .ok (.aload_n 0, 1) := by decide +kernel
theorem dX12_cut0_280 : decode cX12_cut0 280 = .ok (.iload_n 1, 1) := by decide +kernel
theorem dX12_cut0_281 : decode cX12_cut0 281 = .ok (.iconst 1, 1) := by decide +kernel
theorem dX12_cut0_282 : decode cX12_cut0 282 = .ok (.iadd, 1) := by decide +kernel
theorem dX12_cut0_283 : decode cX12_cut0 283 = .ok (.invokevirtual 209, 3) := by decide +kernel
theorem dX12_cut0_286 : decode cX12_cut0 286 = .ok (.invokevirtual 224, 3) := by decide +kernel
theorem dX12_cut0_289 : decode cX12_cut0 289 = .ok (.iadd, 1) := by decide +kernel
theorem dX12_cut0_290 : decode cX12_cut0 290 = .ok (.istore_n 1, 1) := by decide +kernel
theorem dX12_cut0_291 : decode cX12_cut0 291 = .ok (.goto (-284), 3) := by decide +kernel
theorem dX12_cut0_294 : decode cX12_cut0 294 = .ok (.return_, 1) := by decide +kernel
theorem dX12_sign_0 : decode cX12_sign 0 = .ok (.iload_n 2, 1) := by decide +kernel
theorem dX12_sign_1 : decode cX12_sign 1 = .ok (.bipush 59, 2) := by decide +kernel
theorem dX12_sign_3 : decode cX12_sign 3 = .ok (.if_icmp .ne 7, 3) := by decide +kernel
theorem dX12_sign_6 : decode cX12_sign 6 = .ok (.iconst 4, 1) := by decide +kernel
theorem dX12_sign_7 : decode cX12_sign 7 = .ok (.goto 36, 3) := by decide +kernel
theorem dX12_sign_10 : decode cX12_sign 10 = .ok (.iload_n 2, 1) := by decide +kernel
theorem dX12_sign_11 : decode cX12_sign 11 = .ok (.bipush 61, 2) := by decide +kernel
theorem dX12_sign_13 : decode cX12_sign 13 = .ok (.if_icmp .ne 7, 3) := by decide +kernel
theorem dX12_sign_16 : decode cX12_sign 16 = .ok (.iconst 5, 1) := by decide +kernel
theorem dX12_sign_17 : decode cX12_sign 17 = .ok (.goto 26, 3) := by decide +kernel
theorem dX12_sign_20 : decode cX12_sign 20 = .ok (.iload_n 2, 1) := by decide +kernel
theorem dX12_sign_21 : decode cX12_sign 21 = .ok (.bipush 40, 2) := by decide +kernel
theorem dX12_sign_23 : decode cX12_sign 23 = .ok (.if_icmp .ne 8, 3) := by decide +kernel
theorem dX12_sign_26 : decode cX12_sign 26 = .ok (.bipush 6, 2) := by decide +kernel
theorem dX12_sign_28 : decode cX12_sign 28 = .ok (.goto 15, 3) := by decide +kernel
theorem dX12_sign_31 : decode cX12_sign 31 = .ok (.iload_n 2, 1) := by decide +kernel
theorem dX12_sign_32 : decode cX12_sign 32 = .ok (.bipush 41, 2) := by decide +kernel
theorem dX12_sign_34 : decode cX12_sign 34 = .ok (.if_icmp .ne 8, 3) := by decide +kernel
theorem dX12_sign_37 : decode cX12_sign 37 = .ok (.bipush 7, 2) := by decide +kernel
theorem dX12_sign_39 : decode cX12_sign 39 = .ok (.goto 4, 3) := by decide +kernel
theorem dX12_sign_42 : decode cX12_sign 42 = .ok (.iconst 3, 1) := by decide +kernel
theorem dX12_sign_43 : decode cX12_sign 43 = .ok (.istore 4, 2) := by decide +kernel
theorem dX12_sign_45 : decode cX12_sign 45 = .ok (.iload_n 2, 1) := by decide +kernel
theorem dX12_sign_46 : decode cX12_sign 46 = .ok (.bipush 43, 2) := by decide +kernel
theorem dX12_sign_48 : decode cX12_sign 48 = .ok (.if_icmp .ne 7, 3) := by decide +kernel
theorem dX12_sign_51 : decode cX12_sign 51 = .ok (.bipush 8, 2) := by decide +kernel
theorem dX12_sign_53 : decode cX12_sign 53 = .ok (.istore 4, 2) := by decide +kernel
theorem dX12_sign_55 : decode cX12_sign 55 = .ok (.iload_n 2, 1) := by decide +kernel
theorem dX12_sign_56 : decode cX12_sign 56 = .ok (.bipush 45, 2) := by decide +kernel
theorem dX12_sign_58 : decode cX12_sign 58 = .ok (.if_icmp .ne 7, 3) := by decide +kernel
theorem dX12_sign_61 : decode cX12_sign 61 = .ok (.bipush 9, 2) := by decide +kernel
theorem dX12_sign_63 : decode cX12_sign 63 = .ok (.istore 4, 2) := by decide +kernel
theorem dX12_sign_65 : decode cX12_sign 65 = .ok (.iload_n 2, 1) := by decide +kernel
theorem dX12_sign_66 : decode cX12_sign 66 = .ok (.bipush 42, 2) := by decide +kernel
theorem dX12_sign_68 : decode cX12_sign 68 = .ok (.if_icmp .ne 7, 3) := by decide +kernel
theorem dX12_sign_71 : decode cX12_sign 71 = .ok (.bipush 10, 2) := by decide +kernel
theorem dX12_sign_73 : decode cX12_sign 73 = .ok (.istore 4, 2) := by decide +kernel
theorem dX12_sign_75 : decode cX12_sign 75 = .ok (.iload_n 2, 1) := by decide +kernel
theorem dX12_sign_76 : decode cX12_sign 76 = .ok (.bipush 47, 2) := by decide +kernel
theorem dX12_sign_78 : decode cX12_sign 78 = .ok (.if_icmp .ne 7, 3) := by decide +kernel
theorem dX12_sign_81 : decode cX12_sign 81 = .ok (.bipush 15, 2) := by decide +kernel
theorem dX12_sign_83 : decode cX12_sign 83 = .ok (.istore 4, 2) := by decide +kernel
theorem dX12_sign_85 : decode cX12_sign 85 = .ok (.iload_n 2, 1) := by decide +kernel
theorem dX12_sign_86 : decode cX12_sign 86 = .ok (.bipush 60, 2) := by decide +kernel
theorem dX12_sign_88 : decode cX12_sign 88 = .ok (.if_icmp .ne 7, 3) := by decide +kernel
theorem dX12_sign_91 : decode cX12_sign 91 = .ok (.bipush 13, 2) := by decide +kernel
theorem dX12_sign_93 : decode cX12_sign 93 = .ok (.istore 4, 2) := by decide +kernel
theorem dX12_sign_95 : decode cX12_sign 95 = .ok (.aload_n 0, 1) := by decide +kernel
theorem dX12_sign_96 : decode cX12_sign 96 = .ok (.iload 4, 2) := by decide +kernel
theorem dX12_sign_98 : decode cX12_sign 98 = .ok (.iload_n 1, 1) := by decide +kernel
theorem dX12_sign_99 : decode cX12_sign 99 = .ok (.iconst 0, 1) := by decide +kernel
theorem dX12_sign_100 : decode cX12_sign 100 = .ok (.lconst 0, 1) := by decide +kernel
theorem dX12_sign_101 : decode cX12_sign 101 = .ok (.invokevirtual 213, 3) := by decide +kernel
theorem dX12_sign_104 : decode cX12_sign 104 = .ok (.iconst 1, 1) := by decide +kernel
theorem dX12_sign_105 : decode cX12_sign 105 = .ok (.ireturn, 1) := by decide +kernel
theorem dX12_is_0 : decode cX12_is 0 = .ok (.aload_n 0, 1) := by decide +kernel
theorem dX12_is_1 : decode cX12_is 1 = .ok (.getfield 228, 3) := by decide +kernel
theorem dX12_is_4 : decode cX12_is 4 = .ok (.ifCond .ne 20, 3) := by decide +kernel
theorem dX12_is_7 : decode cX12_is 7 = .ok (.aload_n 0, 1) := by decide +kernel
theorem dX12_is_8 : decode cX12_is 8 = .ok (.getfield 20, 3) := by decide +kernel
theorem dX12_is_11 : decode cX12_is 11 = .ok (.aload_n 0, 1) := by decide +kernel
theorem dX12_is_12 : decode cX12_is 12 = .ok (.getfield 231, 3) := by decide +kernel
theorem dX12_is_15 : decode cX12_is 15 = .ok (.iaload, 1) := by decide +kernel
theorem dX12_is_16 : decode cX12_is 16 = .ok (.iload_n 1, 1) := by decide +kernel
theorem dX12_is_17 : decode cX12_is 17 = .ok (.if_icmp .ne 7, 3) := by decide +kernel
theorem dX12_is_20 : decode cX12_is 20 = .ok (.iconst 1, 1) := by decide +kernel
theorem dX12_is_21 : decode cX12_is 21 = .ok (.goto 4, 3) := by decide +kernel
theorem dX12_is_24 : decode cX12_is 24 = .ok (.iconst 0, 1) := by decide +kernel
theorem dX12_is_25 : decode cX12_is 25 = .ok (.ireturn, 1) := by decide +kernel
theorem dX12_fail_0 : decode cX12_fail 0 = .ok (.aload_n 0, 1) := by decide +kernel
theorem dX12_fail_1 : decode cX12_fail 1 = .ok (.getfield 228, 3) := by decide +kernel
theorem dX12_fail_4 : decode cX12_fail 4 = .ok (.ifCond .le 4, 3) := by decide +kernel
theorem dX12_fail_7 : decode cX12_fail 7 = .ok (.return_, 1) := by decide +kernel
theorem dX12_fail_8 : decode cX12_fail 8 = .ok (.aload_n 0, 1) := by decide +kernel
theorem dX12_fail_9 : decode cX12_fail 9 = .ok (.iload_n 1, 1) := by decide +kernel
theorem dX12_fail_10 : decode cX12_fail 10 = .ok (.putfield 228, 3) := by decide +kernel
theorem dX12_fail_13 : decode cX12_fail 13 = .ok (.aload_n 0, 1) := by decide +kernel
theorem dX12_fail_14 : decode cX12_fail 14 = .ok (.aload_n 0, 1) := by decide +kernel
theorem dX12_fail_15 : decode cX12_fail 15 = .ok (.getfield 24, 3) := by decide +kernel
theorem dX12_fail_18 : decode cX12_fail 18 = .ok (.aload_n 0, 1) := by decide +kernel
theorem dX12_fail_19 : decode cX12_fail 19 = .ok (.getfield 231, 3) := by decide +kernel
theorem dX12_fail_22 : decode cX12_fail 22 = .ok (.iaload, 1) := by decide +kernel
theorem dX12_fail_23 : decode cX12_fail 23 = .ok (.putfield 234, 3) := by decide +kernel
theorem dX12_fail_26 : decode cX12_fail 26 = .ok (.return_, 1) := by decide +kernel
theorem dX12_wrong_0 : decode cX12_wrong 0 = .ok (.aload_n 0, 1) := by decide +kernel
theorem dX12_wrong_1 : decode cX12_wrong 1 = .ok (.getfield 24, 3) := by decide +kernel
theorem dX12_wrong_4 : decode cX12_wrong 4 = .ok (.iload_n 2, 1) := by decide +kernel
theorem dX12_wrong_5 : decode cX12_wrong 5 = .ok (.iaload, 1) := by decide +kernel
theorem dX12_wrong_6 : decode cX12_wrong 6 = .ok (.istore_n 3, 1) := by decide +kernel
theorem dX12_wrong_7 : decode cX12_wrong 7 = .ok (.aload_n 0, 1) := by decide +kernel
theorem dX12_wrong_8 : decode cX12_wrong 8 = .ok (.getfield 228, 3) := by decide +kernel
theorem dX12_wrong_11 : decode cX12_wrong 11 = .ok (.ifCond .gt 34, 3) := by decide +kernel
theorem dX12_wrong_14 : decode cX12_wrong 14 = .ok (.aload_n 0, 1) := by decide +kernel
theorem dX12_wrong_15 : decode cX12_wrong 15 = .ok (.getfield 237, 3) := by decide +kernel
theorem dX12_wrong_18 : decode cX12_wrong 18 = .ok (.ifCond .eq 28, 3) := by decide +kernel
theorem dX12_wrong_21 : decode cX12_wrong 21 = .ok (.iload_n 3, 1) := by decide +kernel
theorem dX12_wrong_22 : decode cX12_wrong 22 = .ok (.aload_n 0, 1) := by decide +kernel
theorem dX12_wrong_23 : decode cX12_wrong 23 = .ok (.getfield 240, 3) := by decide +kernel
theorem dX12_wrong_26 : decode cX12_wrong 26 = .ok (.if_icmp .gt 19, 3) := by decide +kernel
theorem dX12_wrong_29 : decode cX12_wrong 29 = .ok (.iload_n 3, 1) := by decide +kernel
theorem dX12_wrong_30 : decode cX12_wrong 30 = .ok (.aload_n 0, 1) := by decide +kernel
theorem dX12_wrong_31 : decode cX12_wrong 31 = .ok (.getfield 240, 3) := by decide +kernel
theorem dX12_wrong_34 : decode cX12_wrong 34 = .ok (.if_icmp .ne 12, 3) := by decide +kernel
theorem dX12_wrong_37 : decode cX12_wrong 37 = .ok (.iload_n 1, 1) := by decide +kernel
theorem dX12_wrong_38 : decode cX12_wrong 38 = .ok (.aload_n 0, 1) := by decide +kernel
theorem dX12_wrong_39 : decode cX12_wrong 39 = .ok (.getfield 237, 3) := by decide +kernel
theorem dX12_wrong_42 : decode cX12_wrong 42 = .ok (.if_icmp .lt 4, 3) := by decide +kernel
theorem dX12_wrong_45 : decode cX12_wrong 45 = .ok (.return_, 1) := by decide +kernel
theorem dX12_wrong_46 : decode cX12_wrong 46 = .ok (.aload_n 0, 1) := by decide +kernel
theorem dX12_wrong_47 : decode cX12_wrong 47 = .ok (.iload_n 1, 1) := by decide +kernel
theorem dX12_wrong_48 : decode cX12_wrong 48 = .ok (.putfield 237, 3) := by decide +kernel
theorem dX12_wrong_51 : decode cX12_wrong 51 = .ok (.aload_n 0, 1) := by decide +kernel
theorem dX12_wrong_52 : decode cX12_wrong 52 = .ok (.iload_n 3, 1) := by decide +kernel
theorem dX12_wrong_53 : decode cX12_wrong 53 = .ok (.putfield 240, 3) := by decide +kernel
theorem dX12_wrong_56 : decode cX12_wrong 56 = .ok (.return_, 1) := by decide +kernel
theorem dX12_goesOn_0 : decode cX12_goesOn 0 = .ok (.aload_n 0, 1) := by decide +kernel
theorem dX12_goesOn_1 : decode cX12_goesOn 1 = .ok (.getfield 231, 3) := by decide +kernel
theorem dX12_goesOn_4 : decode cX12_goesOn 4 = .ok (.sipush 400, 3) := by decide +kernel
theorem dX12_goesOn_7 : decode cX12_goesOn 7 = .ok (.if_icmp .ne 11, 3) := by decide +kernel
theorem dX12_goesOn_10 : decode cX12_goesOn 10 = .ok (.aload_n 0, 1) := by decide +kernel
theorem dX12_goesOn_11 : decode cX12_goesOn 11 = .ok (.iconst 2, 1) := by decide +kernel
theorem dX12_goesOn_12 : decode cX12_goesOn 12 = .ok (.invokevirtual 243, 3) := by decide +kernel
theorem dX12_goesOn_15 : decode cX12_goesOn 15 = .ok (.goto 13, 3) := by decide +kernel
theorem dX12_goesOn_18 : decode cX12_goesOn 18 = .ok (.aload_n 0, 1) := by decide +kernel
theorem dX12_goesOn_19 : decode cX12_goesOn 19 = .ok (.dup, 1) := by decide +kernel
theorem dX12_goesOn_20 : decode cX12_goesOn 20 = .ok (.getfield 231, 3) := by decide +kernel
theorem dX12_goesOn_23 : decode cX12_goesOn 23 = .ok (.iconst 1, 1) := by decide +kernel
theorem dX12_goesOn_24 : decode cX12_goesOn 24 = .ok (.iadd, 1) := by decide +kernel
theorem dX12_goesOn_25 : decode cX12_goesOn 25 = .ok (.putfield 231, 3) := by decide +kernel
theorem dX12_goesOn_28 : decode cX12_goesOn 28 = .ok (.return_, 1) := by decide +kernel
theorem dX12_must_0 : decode cX12_must 0 = .ok (.aload_n 0, 1) := by decide +kernel
theorem dX12_must_1 : decode cX12_must 1 = .ok (.iload_n 1, 1) := by decide +kernel
theorem dX12_must_2 : decode cX12_must 2 = .ok (.invokevirtual 246, 3) := by decide +kernel
theorem dX12_must_5 : decode cX12_must 5 = .ok (.ifCond .eq 10, 3) := by decide +kernel
theorem dX12_must_8 : decode cX12_must 8 = .ok (.aload_n 0, 1) := by decide +kernel
theorem dX12_must_9 : decode cX12_must 9 = .ok (.invokevirtual 249, 3) := by decide +kernel
theorem dX12_must_12 : decode cX12_must 12 = .ok (.goto 8, 3) := by decide +kernel
theorem dX12_must_15 : decode cX12_must 15 = .ok (.aload_n 0, 1) := by decide +kernel
theorem dX12_must_16 : decode cX12_must 16 = .ok (.iconst 1, 1) := by decide +kernel
theorem dX12_must_17 : decode cX12_must 17 = .ok (.invokevirtual 243, 3) := by decide +kernel
theorem dX12_must_20 : decode cX12_must 20 = .ok (.return_, 1) := by decide +kernel
theorem dX12_plain0_0 : decode cX12_plain0 0 = .ok (.aload_n 0, 1) := by decide +kernel
theorem dX12_plain0_1 : decode cX12_plain0 1 = .ok (.getfield 43, 3) := by decide +kernel
theorem dX12_plain0_4 : decode cX12_plain0 4 = .ok (.iload_n 1, 1) := by decide +kernel
theorem dX12_plain0_5 : decode cX12_plain0 5 = .ok (.bipush 6, 2) := by decide +kernel
theorem dX12_plain0_7 : decode cX12_plain0 7 = .ok (.iastore, 1) := by decide +kernel
theorem dX12_plain0_8 : decode cX12_plain0 8 = .ok (.aload_n 0, 1) := by decide +kernel
theorem dX12_plain0_9 : decode cX12_plain0 9 = .ok (.getfield 46, 3) := by decide +kernel
theorem dX12_plain0_12 : decode cX12_plain0 12 = .ok (.iload_n 1, 1) := by decide +kernel
theorem dX12_plain0_13 : decode cX12_plain0 13 = .ok (.bipush 6, 2) := by decide +kernel
theorem dX12_plain0_15 : decode cX12_plain0 15 = .ok (.iastore, 1) := by decide +kernel
theorem dX12_plain0_16 : decode cX12_plain0 16 = .ok (.aload_n 0, 1) := by decide +kernel
theorem dX12_plain0_17 : decode cX12_plain0 17 = .ok (.getfield 49, 3) := by decide +kernel
theorem dX12_plain0_20 : decode cX12_plain0 20 = .ok (.iload_n 1, 1) := by decide +kernel
theorem dX12_plain0_21 : decode cX12_plain0 21 = .ok (.iconst 0, 1) := by decide +kernel
theorem dX12_plain0_22 : decode cX12_plain0 22 = .ok (.iastore, 1) := by decide +kernel
theorem dX12_plain0_23 : decode cX12_plain0 23 = .ok (.aload_n 0, 1) := by decide +kernel
theorem dX12_plain0_24 : decode cX12_plain0 24 = .ok (.getfield 70, 3) := by decide +kernel
theorem dX12_plain0_27 : decode cX12_plain0 27 = .ok (.iload_n 1, 1) := by decide +kernel
theorem dX12_plain0_28 : decode cX12_plain0 28 = .ok (.iconst 0, 1) := by decide +kernel
theorem dX12_plain0_29 : decode cX12_plain0 29 = .ok (.iastore, 1) := by decide +kernel
theorem dX12_plain0_30 : decode cX12_plain0 30 = .ok (.aload_n 0, 1) := by decide +kernel
theorem dX12_plain0_31 : decode cX12_plain0 31 = .ok (.getfield 79, 3) := by decide +kernel
theorem dX12_plain0_34 : decode cX12_plain0 34 = .ok (.iload_n 1, 1) := by decide +kernel
theorem dX12_plain0_35 : decode cX12_plain0 35 = .ok (.iconst 0, 1) := by decide +kernel
theorem dX12_plain0_36 : decode cX12_plain0 36 = .ok (.iastore, 1) := by decide +kernel
theorem dX12_plain0_37 : decode cX12_plain0 37 = .ok (.iconst 0, 1) := by decide +kernel
theorem dX12_plain0_38 : decode cX12_plain0 38 = .ok (.istore_n 2, 1) := by decide +kernel
theorem dX12_plain0_39 : decode cX12_plain0 39 = .ok (.iload_n 2, 1) := by decide +kernel
theorem dX12_plain0_40 : decode cX12_plain0 40 = .ok (.bipush 8, 2) := by decide +kernel
theorem dX12_plain0_42 : decode cX12_plain0 42 = .ok (.if_icmp .ge 33, 3) := by decide +kernel
theorem dX12_plain0_45 : decode cX12_plain0 45 = .ok (.aload_n 0, 1) := by decide +kernel
theorem dX12_plain0_46 : decode cX12_plain0 46 = .ok (.getfield 91, 3) := by decide +kernel
theorem dX12_plain0_49 : decode cX12_plain0 49 = .ok (.bipush 8, 2) := by decide +kernel
theorem dX12_plain0_51 : decode cX12_plain0 51 = .ok (.iload_n 1, 1) := by decide +kernel
theorem dX12_plain0_52 : decode cX12_plain0 52 = .ok (.imul, 1) := by decide +kernel
theorem dX12_plain0_53 : decode cX12_plain0 53 = .ok (.iload_n 2, 1) := by decide +kernel
theorem dX12_plain0_54 : decode cX12_plain0 54 = .ok (.iadd, 1) := by decide +kernel
theorem dX12_plain0_55 : decode cX12_plain0 55 = .ok (.iconst 0, 1) := by decide +kernel
theorem dX12_plain0_56 : decode cX12_plain0 56 = .ok (.iastore, 1) := by decide +kernel
theorem dX12_plain0_57 : decode cX12_plain0 57 = .ok (.aload_n 0, 1) := by decide +kernel
theorem dX12_plain0_58 : decode cX12_plain0 58 = .ok (.getfield 94, 3) := by decide +kernel
theorem dX12_plain0_61 : decode cX12_plain0 61 = .ok (.bipush 8, 2) := by decide +kernel
theorem dX12_plain0_63 : decode cX12_plain0 63 = .ok (.iload_n 1, 1) := by decide +kernel
theorem dX12_plain0_64 : decode cX12_plain0 64 = .ok (.imul, 1) := by decide +kernel
theorem dX12_plain0_65 : decode cX12_plain0 65 = .ok (.iload_n 2, 1) := by decide +kernel
theorem dX12_plain0_66 : decode cX12_plain0 66 = .ok (.iadd, 1) := by decide +kernel
theorem dX12_plain0_67 : decode cX12_plain0 67 = .ok (.iconst 0, 1) := by decide +kernel
theorem dX12_plain0_68 : decode cX12_plain0 68 = .ok (.iastore, 1) := by decide +kernel
theorem dX12_plain0_69 : decode cX12_plain0 69 = .ok (.iinc 2 1, 3) := by decide +kernel
theorem dX12_plain0_72 : decode cX12_plain0 72 = .ok (.goto (-33), 3) := by decide +kernel
theorem dX12_plain0_75 : decode cX12_plain0 75 = .ok (.iconst 0, 1) := by decide +kernel
theorem dX12_plain0_76 : decode cX12_plain0 76 = .ok (.istore_n 2, 1) := by decide +kernel
theorem dX12_plain0_77 : decode cX12_plain0 77 = .ok (.iload_n 2, 1) := by decide +kernel
theorem dX12_plain0_78 : decode cX12_plain0 78 = .ok (.bipush 7, 2) := by decide +kernel
theorem dX12_plain0_80 : decode cX12_plain0 80 = .ok (.if_icmp .ge 33, 3) := by decide +kernel
theorem dX12_plain0_83 : decode cX12_plain0 83 = .ok (.aload_n 0, 1) := by decide +kernel
theorem dX12_plain0_84 : decode cX12_plain0 84 = .ok (.getfield 58, 3) := by decide +kernel
theorem dX12_plain0_87 : decode cX12_plain0 87 = .ok (.bipush 7, 2) := by decide +kernel
theorem dX12_plain0_89 : decode cX12_plain0 89 = .ok (.iload_n 1, 1) := by decide +kernel
theorem dX12_plain0_90 : decode cX12_plain0 90 = .ok (.imul, 1) := by decide +kernel
theorem dX12_plain0_91 : decode cX12_plain0 91 = .ok (.iload_n 2, 1) := by decide +kernel
theorem dX12_plain0_92 : decode cX12_plain0 92 = .ok (.iadd, 1) := by decide +kernel
theorem dX12_plain0_93 : decode cX12_plain0 93 = .ok (.iconst 0, 1) := by decide +kernel
theorem dX12_plain0_94 : decode cX12_plain0 94 = .ok (.iastore, 1) := by decide +kernel
theorem dX12_plain0_95 : decode cX12_plain0 95 = .ok (.aload_n 0, 1) := by decide +kernel
theorem dX12_plain0_96 : decode cX12_plain0 96 = .ok (.getfield 61, 3) := by decide +kernel
theorem dX12_plain0_99 : decode cX12_plain0 99 = .ok (.bipush 7, 2) := by decide +kernel
theorem dX12_plain0_101 : decode cX12_plain0 101 = .ok (.iload_n 1, 1) := by decide +kernel
theorem dX12_plain0_102 : decode cX12_plain0 102 = .ok (.imul, 1) := by decide +kernel
theorem dX12_plain0_103 : decode cX12_plain0 103 = .ok (.iload_n 2, 1) := by decide +kernel
theorem dX12_plain0_104 : decode cX12_plain0 104 = .ok (.iadd, 1) := by decide +kernel
theorem dX12_plain0_105 : decode cX12_plain0 105 = .ok (.iconst 0, 1) := by decide +kernel
theorem dX12_plain0_106 : decode cX12_plain0 106 = .ok (.iastore, 1) := by decide +kernel
theorem dX12_plain0_107 : decode cX12_plain0 107 = .ok (.iinc 2 1, 3) := by decide +kernel
theorem dX12_plain0_110 : decode cX12_plain0 110 = .ok (.goto (-33), 3) := by decide +kernel
theorem dX12_plain0_113 : decode cX12_plain0 113 = .ok (.return_, 1) := by decide +kernel
theorem dX12_read_0 : decode cX12_read 0 = .ok (.aload_n 0, 1) := by decide +kernel
theorem dX12_read_1 : decode cX12_read 1 = .ok (.aload_n 0, 1) := by decide +kernel
theorem dX12_read_2 : decode cX12_read 2 = .ok (.getfield 191, 3) := by decide +kernel
theorem dX12_read_5 : decode cX12_read 5 = .ok (.putfield 197, 3) := by decide +kernel
theorem dX12_read_8 : decode cX12_read 8 = .ok (.iconst 0, 1) := by decide +kernel
theorem dX12_read_9 : decode cX12_read 9 = .ok (.istore_n 1, 1) := by decide +kernel
theorem dX12_read_10 : decode cX12_read 10 = .ok (.iload_n 1, 1) := by decide +kernel
theorem dX12_read_11 : decode cX12_read 11 = .ok (.aload_n 0, 1) := by decide +kernel
theorem dX12_read_12 : decode cX12_read 12 = .ok (.getfield 197, 3) := by decide +kernel
theorem dX12_read_15 : decode cX12_read 15 = .ok (.if_icmp .ge 21, 3) := by decide +kernel
theorem dX12_read_18 : decode cX12_read 18 = .ok (.aload_n 0, 1) := by decide +kernel
theorem dX12_read_19 : decode cX12_read 19 = .ok (.getfield 17, 3) := by decide +kernel
theorem dX12_read_22 : decode cX12_read 22 = .ok (.iload_n 1, 1) := by decide +kernel
theorem dX12_read_23 : decode cX12_read 23 = .ok (.aload_n 0, 1) := by decide +kernel
theorem dX12_read_24 : decode cX12_read 24 = .ok (.getfield 13, 3) := by decide +kernel
theorem dX12_read_27 : decode cX12_read 27 = .ok (.iload_n 1, 1) := by decide +kernel
theorem dX12_read_28 : decode cX12_read 28 = .ok (.baload, 1) := by decide +kernel
theorem dX12_read_29 : decode cX12_read 29 = .ok (.bastore, 1) := by decide +kernel
theorem dX12_read_30 : decode cX12_read 30 = .ok (.iinc 1 1, 3) := by decide +kernel
theorem dX12_read_33 : decode cX12_read 33 = .ok (.goto (-23), 3) := by decide +kernel
theorem dX12_read_36 : decode cX12_read 36 = .ok (.aload_n 0, 1) := by decide +kernel
theorem dX12_read_37 : decode cX12_read 37 = .ok (.iconst 0, 1) := by decide +kernel
theorem dX12_read_38 : decode cX12_read 38 = .ok (.putfield 191, 3) := by decide +kernel
theorem dX12_read_41 : decode cX12_read 41 = .ok (.aload_n 0, 1) := by decide +kernel
theorem dX12_read_42 : decode cX12_read 42 = .ok (.invokevirtual 252, 3) := by decide +kernel
theorem dX12_read_45 : decode cX12_read 45 = .ok (.aload_n 0, 1) := by decide +kernel
theorem dX12_read_46 : decode cX12_read 46 = .ok (.iconst 0, 1) := by decide +kernel
theorem dX12_read_47 : decode cX12_read 47 = .ok (.putfield 231, 3) := by decide +kernel
theorem dX12_read_50 : decode cX12_read 50 = .ok (.aload_n 0, 1) := by decide +kernel
theorem dX12_read_51 : decode cX12_read 51 = .ok (.iconst 0, 1) := by decide +kernel
theorem dX12_read_52 : decode cX12_read 52 = .ok (.putfield 255, 3) := by decide +kernel
theorem dX12_read_55 : decode cX12_read 55 = .ok (.aload_n 0, 1) := by decide +kernel
theorem dX12_read_56 : decode cX12_read 56 = .ok (.iconst 0, 1) := by decide +kernel
theorem dX12_read_57 : decode cX12_read 57 = .ok (.putfield 228, 3) := by decide +kernel
theorem dX12_read_60 : decode cX12_read 60 = .ok (.aload_n 0, 1) := by decide +kernel
theorem dX12_read_61 : decode cX12_read 61 = .ok (.iconst 0, 1) := by decide +kernel
theorem dX12_read_62 : decode cX12_read 62 = .ok (.putfield 237, 3) := by decide +kernel
theorem dX12_read_65 : decode cX12_read 65 = .ok (.aload_n 0, 1) := by decide +kernel
theorem dX12_read_66 : decode cX12_read 66 = .ok (.iconst 1, 1) := by decide +kernel
theorem dX12_read_67 : decode cX12_read 67 = .ok (.aload_n 0, 1) := by decide +kernel
theorem dX12_read_68 : decode cX12_read 68 = .ok (.getfield 258, 3) := by decide +kernel
theorem dX12_read_71 : decode cX12_read 71 = .ok (.isub, 1) := by decide +kernel
theorem dX12_read_72 : decode cX12_read 72 = .ok (.putfield 261, 3) := by decide +kernel
theorem dX12_read_75 : decode cX12_read 75 = .ok (.aload_n 0, 1) := by decide +kernel
theorem dX12_read_76 : decode cX12_read 76 = .ok (.iconst 0, 1) := by decide +kernel
theorem dX12_read_77 : decode cX12_read 77 = .ok (.putfield 264, 3) := by decide +kernel
theorem dX12_read_80 : decode cX12_read 80 = .ok (.aload_n 0, 1) := by decide +kernel
theorem dX12_read_81 : decode cX12_read 81 = .ok (.iconst 0, 1) := by decide +kernel
theorem dX12_read_82 : decode cX12_read 82 = .ok (.putfield 267, 3) := by decide +kernel
theorem dX12_read_85 : decode cX12_read 85 = .ok (.aload_n 0, 1) := by decide +kernel
theorem dX12_read_86 : decode cX12_read 86 = .ok (.aload_n 0, 1) := by decide +kernel
theorem dX12_read_87 : decode cX12_read 87 = .ok (.getfield 261, 3) := by decide +kernel
theorem dX12_read_90 : decode cX12_read 90 = .ok (.invokevirtual 177, 3) := by decide +kernel
theorem dX12_read_93 : decode cX12_read 93 = .ok (.aload_n 0, 1) := by decide +kernel
theorem dX12_read_94 : decode cX12_read 94 = .ok (.sipush 130, 3) := by decide +kernel
theorem dX12_read_97 : decode cX12_read 97 = .ok (.aload_n 0, 1) := by decide +kernel
theorem dX12_read_98 : decode cX12_read 98 = .ok (.getfield 261, 3) := by decide +kernel
theorem dX12_read_101 : decode cX12_read 101 = .ok (.imul, 1) := by decide +kernel
theorem dX12_read_102 : decode cX12_read 102 = .ok (.putfield 270, 3) := by decide +kernel
theorem dX12_read_105 : decode cX12_read 105 = .ok (.aload_n 0, 1) := by decide +kernel
theorem dX12_read_106 : decode cX12_read 106 = .ok (.sipush 420, 3) := by decide +kernel
theorem dX12_read_109 : decode cX12_read 109 = .ok (.aload_n 0, 1) := by decide +kernel
theorem dX12_read_110 : decode cX12_read 110 = .ok (.getfield 261, 3) := by decide +kernel
theorem dX12_read_113 : decode cX12_read 113 = .ok (.imul, 1) := by decide +kernel
theorem dX12_read_114 : decode cX12_read 114 = .ok (.putfield 273, 3) := by decide +kernel
theorem dX12_read_117 : decode cX12_read 117 = .ok (.aload_n 0, 1) := by decide +kernel
theorem dX12_read_118 : decode cX12_read 118 = .ok (.getfield 228, 3) := by decide +kernel
theorem dX12_read_121 : decode cX12_read 121 = .ok (.ifCond .ne 18, 3) := by decide +kernel
theorem dX12_read_124 : decode cX12_read 124 = .ok (.aload_n 0, 1) := by decide +kernel
theorem dX12_read_125 : decode cX12_read 125 = .ok (.iconst 0, 1) := by decide +kernel
theorem dX12_read_126 : decode cX12_read 126 = .ok (.invokevirtual 246, 3) := by decide +kernel
theorem dX12_read_129 : decode cX12_read 129 = .ok (.ifCond .ne 10, 3) := by decide +kernel
theorem dX12_read_132 : decode cX12_read 132 = .ok (.aload_n 0, 1) := by decide +kernel
theorem dX12_read_133 : decode cX12_read 133 = .ok (.invokevirtual 276, 3) := by decide +kernel
theorem dX12_read_136 : decode cX12_read 136 = .ok (.goto (-19), 3) := by decide +kernel
theorem dX12_read_139 : decode cX12_read 139 = .ok (.iconst 0, 1) := by decide +kernel
theorem dX12_read_140 : decode cX12_read 140 = .ok (.istore_n 1, 1) := by decide +kernel
theorem dX12_read_141 : decode cX12_read 141 = .ok (.iload_n 1, 1) := by decide +kernel
theorem dX12_read_142 : decode cX12_read 142 = .ok (.aload_n 0, 1) := by decide +kernel
theorem dX12_read_143 : decode cX12_read 143 = .ok (.getfield 267, 3) := by decide +kernel
theorem dX12_read_146 : decode cX12_read 146 = .ok (.if_icmp .ge 71, 3) := by decide +kernel
theorem dX12_read_149 : decode cX12_read 149 = .ok (.aload_n 0, 1) := by decide +kernel
theorem dX12_read_150 : decode cX12_read 150 = .ok (.getfield 228, 3) := by decide +kernel
theorem dX12_read_153 : decode cX12_read 153 = .ok (.ifCond .ne 64, 3) := by decide +kernel
theorem dX12_read_156 : decode cX12_read 156 = .ok (.aload_n 0, 1) := by decide +kernel
theorem dX12_read_157 : decode cX12_read 157 = .ok (.getfield 237, 3) := by decide +kernel
theorem dX12_read_160 : decode cX12_read 160 = .ok (.ifCond .ne 57, 3) := by decide +kernel
theorem dX12_read_163 : decode cX12_read 163 = .ok (.aload_n 0, 1) := by decide +kernel
theorem dX12_read_164 : decode cX12_read 164 = .ok (.getfield 82, 3) := by decide +kernel
theorem dX12_read_167 : decode cX12_read 167 = .ok (.iload_n 1, 1) := by decide +kernel
theorem dX12_read_168 : decode cX12_read 168 = .ok (.iaload, 1) := by decide +kernel
theorem dX12_read_169 : decode cX12_read 169 = .ok (.aload_n 0, 1) := by decide +kernel
theorem dX12_read_170 : decode cX12_read 170 = .ok (.getfield 43, 3) := by decide +kernel
theorem dX12_read_173 : decode cX12_read 173 = .ok (.aload_n 0, 1) := by decide +kernel
theorem dX12_read_174 : decode cX12_read 174 = .ok (.getfield 261, 3) := by decide +kernel
theorem dX12_read_177 : decode cX12_read 177 = .ok (.iaload, 1) := by decide +kernel
theorem dX12_read_178 : decode cX12_read 178 = .ok (.if_icmp .ge 21, 3) := by decide +kernel
theorem dX12_read_181 : decode cX12_read 181 = .ok (.aload_n 0, 1) := by decide +kernel
theorem dX12_read_182 : decode cX12_read 182 = .ok (.getfield 85, 3) := by decide +kernel
theorem dX12_read_185 : decode cX12_read 185 = .ok (.iload_n 1, 1) := by decide +kernel
theorem dX12_read_186 : decode cX12_read 186 = .ok (.iaload, 1) := by decide +kernel
theorem dX12_read_187 : decode cX12_read 187 = .ok (.aload_n 0, 1) := by decide +kernel
theorem dX12_read_188 : decode cX12_read 188 = .ok (.getfield 46, 3) := by decide +kernel
theorem dX12_read_191 : decode cX12_read 191 = .ok (.aload_n 0, 1) := by decide +kernel
theorem dX12_read_192 : decode cX12_read 192 = .ok (.getfield 261, 3) := by decide +kernel
theorem dX12_read_195 : decode cX12_read 195 = .ok (.iaload, 1) := by decide +kernel
theorem dX12_read_196 : decode cX12_read 196 = .ok (.if_icmp .lt 15, 3) := by decide +kernel
theorem dX12_read_199 : decode cX12_read 199 = .ok (.aload_n 0, 1) := by decide +kernel
theorem dX12_read_200 : decode cX12_read 200 = .ok (.bipush 6, 2) := by decide +kernel
theorem dX12_read_202 : decode cX12_read 202 = .ok (.aload_n 0, 1) := by decide +kernel
theorem dX12_read_203 : decode cX12_read 203 = .ok (.getfield 88, 3) := by decide +kernel
theorem dX12_read_206 : decode cX12_read 206 = .ok (.iload_n 1, 1) := by decide +kernel
theorem dX12_read_207 : decode cX12_read 207 = .ok (.iaload, 1) := by decide +kernel
theorem dX12_read_208 : decode cX12_read 208 = .ok (.invokevirtual 279, 3) := by decide +kernel
theorem dX12_read_211 : decode cX12_read 211 = .ok (.iinc 1 1, 3) := by decide +kernel
theorem dX12_read_214 : decode cX12_read 214 = .ok (.goto (-73), 3) := by decide +kernel
theorem dX12_read_217 : decode cX12_read 217 = .ok (.aload_n 0, 1) := by decide +kernel
theorem dX12_read_218 : decode cX12_read 218 = .ok (.aload_n 0, 1) := by decide +kernel
theorem dX12_read_219 : decode cX12_read 219 = .ok (.getfield 228, 3) := by decide +kernel
theorem dX12_read_222 : decode cX12_read 222 = .ok (.ifCond .le 10, 3) := by decide +kernel
theorem dX12_read_225 : decode cX12_read 225 = .ok (.aload_n 0, 1) := by decide +kernel
theorem dX12_read_226 : decode cX12_read 226 = .ok (.getfield 234, 3) := by decide +kernel
theorem dX12_read_229 : decode cX12_read 229 = .ok (.goto 18, 3) := by decide +kernel
theorem dX12_read_232 : decode cX12_read 232 = .ok (.aload_n 0, 1) := by decide +kernel
theorem dX12_read_233 : decode cX12_read 233 = .ok (.getfield 237, 3) := by decide +kernel
theorem dX12_read_236 : decode cX12_read 236 = .ok (.ifCond .le 10, 3) := by decide +kernel
theorem dX12_read_239 : decode cX12_read 239 = .ok (.aload_n 0, 1) := by decide +kernel
theorem dX12_read_240 : decode cX12_read 240 = .ok (.getfield 240, 3) := by decide +kernel
theorem dX12_read_243 : decode cX12_read 243 = .ok (.goto 4, 3) := by decide +kernel
theorem dX12_read_246 : decode cX12_read 246 = .ok (.iconst (-1), 1) := by decide +kernel
theorem dX12_read_247 : decode cX12_read 247 = .ok (.putfield 37, 3) := by decide +kernel
theorem dX12_read_250 : decode cX12_read 250 = .ok (.aload_n 0, 1) := by decide +kernel
theorem dX12_read_251 : decode cX12_read 251 = .ok (.getfield 228, 3) := by decide +kernel
theorem dX12_read_254 : decode cX12_read 254 = .ok (.ifCond .le 8, 3) := by decide +kernel
theorem dX12_read_257 : decode cX12_read 257 = .ok (.aload_n 0, 1) := by decide +kernel
theorem dX12_read_258 : decode cX12_read 258 = .ok (.getfield 228, 3) := by decide +kernel
theorem dX12_read_261 : decode cX12_read 261 = .ok (.ireturn, 1) := by decide +kernel
theorem dX12_read_262 : decode cX12_read 262 = .ok (.aload_n 0, 1) := by decide +kernel
theorem dX12_read_263 : decode cX12_read 263 = .ok (.getfield 237, 3) := by decide +kernel
theorem dX12_read_266 : decode cX12_read 266 = .ok (.ifCond .le 8, 3) := by decide +kernel
theorem dX12_read_269 : decode cX12_read 269 = .ok (.aload_n 0, 1) := by decide +kernel
theorem dX12_read_270 : decode cX12_read 270 = .ok (.getfield 237, 3) := by decide +kernel
theorem dX12_read_273 : decode cX12_read 273 = .ok (.ireturn, 1) := by decide +kernel
theorem dX12_read_274 : decode cX12_read 274 = .ok (.aload_n 0, 1) := by decide +kernel
theorem dX12_read_275 : decode cX12_read 275 = .ok (.aload_n 0, 1) := by decide +kernel
theorem dX12_read_276 : decode cX12_read 276 = .ok (.getfield 261, 3) := by decide +kernel
theorem dX12_read_279 : decode cX12_read 279 = .ok (.putfield 258, 3) := by decide +kernel
theorem dX12_read_282 : decode cX12_read 282 = .ok (.aload_n 0, 1) := by decide +kernel
theorem dX12_read_283 : decode cX12_read 283 = .ok (.invokevirtual 185, 3) := by decide +kernel
theorem dX12_read_286 : decode cX12_read 286 = .ok (.aload_n 0, 1) := by decide +kernel
theorem dX12_read_287 : decode cX12_read 287 = .ok (.invokevirtual 188, 3) := by decide +kernel
theorem dX12_read_290 : decode cX12_read 290 = .ok (.aload_n 0, 1) := by decide +kernel
theorem dX12_read_291 : decode cX12_read 291 = .ok (.iconst 0, 1) := by decide +kernel
theorem dX12_read_292 : decode cX12_read 292 = .ok (.putfield 283, 3) := by decide +kernel
theorem dX12_read_295 : decode cX12_read 295 = .ok (.aload_n 0, 1) := by decide +kernel
theorem dX12_read_296 : decode cX12_read 296 = .ok (.iconst 0, 1) := by decide +kernel
theorem dX12_read_297 : decode cX12_read 297 = .ok (.putfield 286, 3) := by decide +kernel
theorem dX12_read_300 : decode cX12_read 300 = .ok (.iconst 0, 1) := by decide +kernel
theorem dX12_read_301 : decode cX12_read 301 = .ok (.istore_n 1, 1) := by decide +kernel
theorem dX12_read_302 : decode cX12_read 302 = .ok (.iload_n 1, 1) := by decide +kernel
theorem dX12_read_303 : decode cX12_read 303 = .ok (.iconst 3, 1) := by decide +kernel
theorem dX12_read_304 : decode cX12_read 304 = .ok (.if_icmp .ge 16, 3) := by decide +kernel
theorem dX12_read_307 : decode cX12_read 307 = .ok (.aload_n 0, 1) := by decide +kernel
theorem dX12_read_308 : decode cX12_read 308 = .ok (.getfield 171, 3) := by decide +kernel
theorem dX12_read_311 : decode cX12_read 311 = .ok (.iload_n 1, 1) := by decide +kernel
theorem dX12_read_312 : decode cX12_read 312 = .ok (.iconst 0, 1) := by decide +kernel
theorem dX12_read_313 : decode cX12_read 313 = .ok (.bastore, 1) := by decide +kernel
theorem dX12_read_314 : decode cX12_read 314 = .ok (.iinc 1 1, 3) := by decide +kernel
theorem dX12_read_317 : decode cX12_read 317 = .ok (.goto (-15), 3) := by decide +kernel
theorem dX12_read_320 : decode cX12_read 320 = .ok (.iconst 0, 1) := by decide +kernel
theorem dX12_read_321 : decode cX12_read 321 = .ok (.ireturn, 1) := by decide +kernel
theorem dX12_place_0 : decode cX12_place 0 = .ok (.aload_n 0, 1) := by decide +kernel
theorem dX12_place_1 : decode cX12_place 1 = .ok (.getfield 37, 3) := by decide +kernel
theorem dX12_place_4 : decode cX12_place 4 = .ok (.ireturn, 1) := by decide +kernel
theorem dX12_roomFor_0 : decode cX12_roomFor 0 = .ok (.iload_n 1, 1) := by decide +kernel
theorem dX12_roomFor_1 : decode cX12_roomFor 1 = .ok (.iload_n 2, 1) := by decide +kernel
theorem dX12_roomFor_2 : decode cX12_roomFor 2 = .ok (.if_icmp .ne 8, 3) := by decide +kernel
theorem dX12_roomFor_5 : decode cX12_roomFor 5 = .ok (.aload_n 0, 1) := by decide +kernel
theorem dX12_roomFor_6 : decode cX12_roomFor 6 = .ok (.iconst 2, 1) := by decide +kernel
theorem dX12_roomFor_7 : decode cX12_roomFor 7 = .ok (.invokevirtual 243, 3) := by decide +kernel
theorem dX12_roomFor_10 : decode cX12_roomFor 10 = .ok (.aload_n 0, 1) := by decide +kernel
theorem dX12_roomFor_11 : decode cX12_roomFor 11 = .ok (.getfield 228, 3) := by decide +kernel
theorem dX12_roomFor_14 : decode cX12_roomFor 14 = .ok (.ifCond .ne 7, 3) := by decide +kernel
theorem dX12_roomFor_17 : decode cX12_roomFor 17 = .ok (.aload_n 0, 1) := by decide +kernel
theorem dX12_roomFor_18 : decode cX12_roomFor 18 = .ok (.invokevirtual 249, 3) := by decide +kernel
theorem dX12_roomFor_21 : decode cX12_roomFor 21 = .ok (.return_, 1) := by decide +kernel
theorem dX12_tell0_0 : decode cX12_tell0 0 = .ok (.aload_n 0, 1) := by decide +kernel
theorem dX12_tell0_1 : decode cX12_tell0 1 = .ok (.getfield 20, 3) := by decide +kernel
theorem dX12_tell0_4 : decode cX12_tell0 4 = .ok (.aload_n 0, 1) := by decide +kernel
theorem dX12_tell0_5 : decode cX12_tell0 5 = .ok (.getfield 231, 3) := by decide +kernel
theorem dX12_tell0_8 : decode cX12_tell0 8 = .ok (.iaload, 1) := by decide +kernel
theorem dX12_tell0_9 : decode cX12_tell0 9 = .ok (.tableswitch 264 20 27 #[47, 91, 120, 135, 148, 155, 184, 235], 47) := by decide +kernel
theorem dX12_tell0_56 : decode cX12_tell0 56 = .ok (.aload_n 0, 1) := by decide +kernel
theorem dX12_tell0_57 : decode cX12_tell0 57 = .ok (.invokevirtual 249, 3) := by decide +kernel
theorem dX12_tell0_60 : decode cX12_tell0 60 = .ok (.aload_n 0, 1) := by decide +kernel
theorem dX12_tell0_61 : decode cX12_tell0 61 = .ok (.getfield 43, 3) := by decide +kernel
theorem dX12_tell0_64 : decode cX12_tell0 64 = .ok (.aload_n 0, 1) := by decide +kernel
theorem dX12_tell0_65 : decode cX12_tell0 65 = .ok (.getfield 261, 3) := by decide +kernel
theorem dX12_tell0_68 : decode cX12_tell0 68 = .ok (.aload_n 0, 1) := by decide +kernel
theorem dX12_tell0_69 : decode cX12_tell0 69 = .ok (.iconst 2, 1) := by decide +kernel
theorem dX12_tell0_70 : decode cX12_tell0 70 = .ok (.bipush 12, 2) := by decide +kernel
theorem dX12_tell0_72 : decode cX12_tell0 72 = .ok (.invokevirtual 289, 3) := by decide +kernel
theorem dX12_tell0_75 : decode cX12_tell0 75 = .ok (.iastore, 1) := by decide +kernel
theorem dX12_tell0_76 : decode cX12_tell0 76 = .ok (.aload_n 0, 1) := by decide +kernel
theorem dX12_tell0_77 : decode cX12_tell0 77 = .ok (.getfield 46, 3) := by decide +kernel
theorem dX12_tell0_80 : decode cX12_tell0 80 = .ok (.aload_n 0, 1) := by decide +kernel
theorem dX12_tell0_81 : decode cX12_tell0 81 = .ok (.getfield 261, 3) := by decide +kernel
theorem dX12_tell0_84 : decode cX12_tell0 84 = .ok (.aload_n 0, 1) := by decide +kernel
theorem dX12_tell0_85 : decode cX12_tell0 85 = .ok (.iconst 2, 1) := by decide +kernel
theorem dX12_tell0_86 : decode cX12_tell0 86 = .ok (.bipush 12, 2) := by decide +kernel
theorem dX12_tell0_88 : decode cX12_tell0 88 = .ok (.invokevirtual 289, 3) := by decide +kernel
theorem dX12_tell0_91 : decode cX12_tell0 91 = .ok (.iastore, 1) := by decide +kernel
theorem dX12_tell0_92 : decode cX12_tell0 92 = .ok (.aload_n 0, 1) := by decide +kernel
theorem dX12_tell0_93 : decode cX12_tell0 93 = .ok (.iconst 4, 1) := by decide +kernel
theorem dX12_tell0_94 : decode cX12_tell0 94 = .ok (.invokevirtual 293, 3) := by decide +kernel
theorem dX12_tell0_97 : decode cX12_tell0 97 = .ok (.goto 181, 3) := by decide +kernel
theorem dX12_tell0_100 : decode cX12_tell0 100 = .ok (.aload_n 0, 1) := by decide +kernel
theorem dX12_tell0_101 : decode cX12_tell0 101 = .ok (.aload_n 0, 1) := by decide +kernel
theorem dX12_tell0_102 : decode cX12_tell0 102 = .ok (.getfield 49, 3) := by decide +kernel
theorem dX12_tell0_105 : decode cX12_tell0 105 = .ok (.aload_n 0, 1) := by decide +kernel
theorem dX12_tell0_106 : decode cX12_tell0 106 = .ok (.getfield 261, 3) := by decide +kernel
theorem dX12_tell0_109 : decode cX12_tell0 109 = .ok (.iaload, 1) := by decide +kernel
theorem dX12_tell0_110 : decode cX12_tell0 110 = .ok (.bipush 7, 2) := by decide +kernel
theorem dX12_tell0_112 : decode cX12_tell0 112 = .ok (.invokevirtual 296, 3) := by decide +kernel
theorem dX12_tell0_115 : decode cX12_tell0 115 = .ok (.aload_n 0, 1) := by decide +kernel
theorem dX12_tell0_116 : decode cX12_tell0 116 = .ok (.getfield 228, 3) := by decide +kernel
theorem dX12_tell0_119 : decode cX12_tell0 119 = .ok (.ifCond .ne 159, 3) := by decide +kernel
theorem dX12_tell0_122 : decode cX12_tell0 122 = .ok (.aload_n 0, 1) := by decide +kernel
theorem dX12_tell0_123 : decode cX12_tell0 123 = .ok (.invokevirtual 299, 3) := by decide +kernel
theorem dX12_tell0_126 : decode cX12_tell0 126 = .ok (.goto 152, 3) := by decide +kernel
theorem dX12_tell0_129 : decode cX12_tell0 129 = .ok (.aload_n 0, 1) := by decide +kernel
theorem dX12_tell0_130 : decode cX12_tell0 130 = .ok (.invokevirtual 249, 3) := by decide +kernel
theorem dX12_tell0_133 : decode cX12_tell0 133 = .ok (.aload_n 0, 1) := by decide +kernel
theorem dX12_tell0_134 : decode cX12_tell0 134 = .ok (.aload_n 0, 1) := by decide +kernel
theorem dX12_tell0_135 : decode cX12_tell0 135 = .ok (.invokevirtual 302, 3) := by decide +kernel
theorem dX12_tell0_138 : decode cX12_tell0 138 = .ok (.invokevirtual 306, 3) := by decide +kernel
theorem dX12_tell0_141 : decode cX12_tell0 141 = .ok (.goto 137, 3) := by decide +kernel
theorem dX12_tell0_144 : decode cX12_tell0 144 = .ok (.aload_n 0, 1) := by decide +kernel
theorem dX12_tell0_145 : decode cX12_tell0 145 = .ok (.invokevirtual 249, 3) := by decide +kernel
theorem dX12_tell0_148 : decode cX12_tell0 148 = .ok (.aload_n 0, 1) := by decide +kernel
theorem dX12_tell0_149 : decode cX12_tell0 149 = .ok (.bipush 7, 2) := by decide +kernel
theorem dX12_tell0_151 : decode cX12_tell0 151 = .ok (.invokevirtual 306, 3) := by decide +kernel
theorem dX12_tell0_154 : decode cX12_tell0 154 = .ok (.goto 124, 3) := by decide +kernel
theorem dX12_tell0_157 : decode cX12_tell0 157 = .ok (.aload_n 0, 1) := by decide +kernel
theorem dX12_tell0_158 : decode cX12_tell0 158 = .ok (.invokevirtual 309, 3) := by decide +kernel
theorem dX12_tell0_161 : decode cX12_tell0 161 = .ok (.goto 117, 3) := by decide +kernel
theorem dX12_tell0_164 : decode cX12_tell0 164 = .ok (.aload_n 0, 1) := by decide +kernel
theorem dX12_tell0_165 : decode cX12_tell0 165 = .ok (.aload_n 0, 1) := by decide +kernel
theorem dX12_tell0_166 : decode cX12_tell0 166 = .ok (.getfield 70, 3) := by decide +kernel
theorem dX12_tell0_169 : decode cX12_tell0 169 = .ok (.aload_n 0, 1) := by decide +kernel
theorem dX12_tell0_170 : decode cX12_tell0 170 = .ok (.getfield 261, 3) := by decide +kernel
theorem dX12_tell0_173 : decode cX12_tell0 173 = .ok (.iaload, 1) := by decide +kernel
theorem dX12_tell0_174 : decode cX12_tell0 174 = .ok (.bipush 6, 2) := by decide +kernel
theorem dX12_tell0_176 : decode cX12_tell0 176 = .ok (.invokevirtual 296, 3) := by decide +kernel
theorem dX12_tell0_179 : decode cX12_tell0 179 = .ok (.aload_n 0, 1) := by decide +kernel
theorem dX12_tell0_180 : decode cX12_tell0 180 = .ok (.getfield 228, 3) := by decide +kernel
theorem dX12_tell0_183 : decode cX12_tell0 183 = .ok (.ifCond .ne 95, 3) := by decide +kernel
theorem dX12_tell0_186 : decode cX12_tell0 186 = .ok (.aload_n 0, 1) := by decide +kernel
theorem dX12_tell0_187 : decode cX12_tell0 187 = .ok (.invokevirtual 312, 3) := by decide +kernel
theorem dX12_tell0_190 : decode cX12_tell0 190 = .ok (.goto 88, 3) := by decide +kernel
theorem dX12_tell0_193 : decode cX12_tell0 193 = .ok (.aload_n 0, 1) := by decide +kernel
theorem dX12_tell0_194 : decode cX12_tell0 194 = .ok (.invokevirtual 249, 3) := by decide +kernel
theorem dX12_tell0_197 : decode cX12_tell0 197 = .ok (.aload_n 0, 1) := by decide +kernel
theorem dX12_tell0_198 : decode cX12_tell0 198 = .ok (.invokevirtual 302, 3) := by decide +kernel
theorem dX12_tell0_201 : decode cX12_tell0 201 = .ok (.istore_n 1, 1) := by decide +kernel
theorem dX12_tell0_202 : decode cX12_tell0 202 = .ok (.aload_n 0, 1) := by decide +kernel
theorem dX12_tell0_203 : decode cX12_tell0 203 = .ok (.iconst 0, 1) := by decide +kernel
theorem dX12_tell0_204 : decode cX12_tell0 204 = .ok (.bipush 9, 2) := by decide +kernel
theorem dX12_tell0_206 : decode cX12_tell0 206 = .ok (.invokevirtual 289, 3) := by decide +kernel
theorem dX12_tell0_209 : decode cX12_tell0 209 = .ok (.istore_n 2, 1) := by decide +kernel
theorem dX12_tell0_210 : decode cX12_tell0 210 = .ok (.aload_n 0, 1) := by decide +kernel
theorem dX12_tell0_211 : decode cX12_tell0 211 = .ok (.iconst 4, 1) := by decide +kernel
theorem dX12_tell0_212 : decode cX12_tell0 212 = .ok (.invokevirtual 293, 3) := by decide +kernel
theorem dX12_tell0_215 : decode cX12_tell0 215 = .ok (.aload_n 0, 1) := by decide +kernel
theorem dX12_tell0_216 : decode cX12_tell0 216 = .ok (.getfield 228, 3) := by decide +kernel
theorem dX12_tell0_219 : decode cX12_tell0 219 = .ok (.ifCond .ne 59, 3) := by decide +kernel
theorem dX12_tell0_222 : decode cX12_tell0 222 = .ok (.iload_n 1, 1) := by decide +kernel
theorem dX12_tell0_223 : decode cX12_tell0 223 = .ok (.ifCond .lt 55, 3) := by decide +kernel
theorem dX12_tell0_226 : decode cX12_tell0 226 = .ok (.aload_n 0, 1) := by decide +kernel
theorem dX12_tell0_227 : decode cX12_tell0 227 = .ok (.getfield 58, 3) := by decide +kernel
theorem dX12_tell0_230 : decode cX12_tell0 230 = .ok (.bipush 7, 2) := by decide +kernel
theorem dX12_tell0_232 : decode cX12_tell0 232 = .ok (.aload_n 0, 1) := by decide +kernel
theorem dX12_tell0_233 : decode cX12_tell0 233 = .ok (.getfield 261, 3) := by decide +kernel
theorem dX12_tell0_236 : decode cX12_tell0 236 = .ok (.imul, 1) := by decide +kernel
theorem dX12_tell0_237 : decode cX12_tell0 237 = .ok (.iload_n 1, 1) := by decide +kernel
theorem dX12_tell0_238 : decode cX12_tell0 238 = .ok (.iadd, 1) := by decide +kernel
theorem dX12_tell0_239 : decode cX12_tell0 239 = .ok (.iload_n 2, 1) := by decide +kernel
theorem dX12_tell0_240 : decode cX12_tell0 240 = .ok (.iastore, 1) := by decide +kernel
theorem dX12_tell0_241 : decode cX12_tell0 241 = .ok (.goto 37, 3) := by decide +kernel
theorem dX12_tell0_244 : decode cX12_tell0 244 = .ok (.aload_n 0, 1) := by decide +kernel
theorem dX12_tell0_245 : decode cX12_tell0 245 = .ok (.invokevirtual 249, 3) := by decide +kernel
theorem dX12_tell0_248 : decode cX12_tell0 248 = .ok (.aload_n 0, 1) := by decide +kernel
theorem dX12_tell0_249 : decode cX12_tell0 249 = .ok (.getfield 79, 3) := by decide +kernel
theorem dX12_tell0_252 : decode cX12_tell0 252 = .ok (.aload_n 0, 1) := by decide +kernel
theorem dX12_tell0_253 : decode cX12_tell0 253 = .ok (.getfield 261, 3) := by decide +kernel
theorem dX12_tell0_256 : decode cX12_tell0 256 = .ok (.aload_n 0, 1) := by decide +kernel
theorem dX12_tell0_257 : decode cX12_tell0 257 = .ok (.iconst 0, 1) := by decide +kernel
theorem dX12_tell0_258 : decode cX12_tell0 258 = .ok (.sipush 9999, 3) := by decide +kernel
theorem dX12_tell0_261 : decode cX12_tell0 261 = .ok (.invokevirtual 289, 3) := by decide +kernel
theorem dX12_tell0_264 : decode cX12_tell0 264 = .ok (.iastore, 1) := by decide +kernel
theorem dX12_tell0_265 : decode cX12_tell0 265 = .ok (.aload_n 0, 1) := by decide +kernel
theorem dX12_tell0_266 : decode cX12_tell0 266 = .ok (.iconst 4, 1) := by decide +kernel
theorem dX12_tell0_267 : decode cX12_tell0 267 = .ok (.invokevirtual 293, 3) := by decide +kernel
theorem dX12_tell0_270 : decode cX12_tell0 270 = .ok (.goto 8, 3) := by decide +kernel
theorem dX12_tell0_273 : decode cX12_tell0 273 = .ok (.aload_n 0, 1) := by decide +kernel
theorem dX12_tell0_274 : decode cX12_tell0 274 = .ok (.iconst 1, 1) := by decide +kernel
theorem dX12_tell0_275 : decode cX12_tell0 275 = .ok (.invokevirtual 243, 3) := by decide +kernel
theorem dX12_tell0_278 : decode cX12_tell0 278 = .ok (.return_, 1) := by decide +kernel
theorem dX12_manAt_0 : decode cX12_manAt 0 = .ok (.aload_n 0, 1) := by decide +kernel
theorem dX12_manAt_1 : decode cX12_manAt 1 = .ok (.getfield 20, 3) := by decide +kernel
theorem dX12_manAt_4 : decode cX12_manAt 4 = .ok (.iload_n 1, 1) := by decide +kernel
theorem dX12_manAt_5 : decode cX12_manAt 5 = .ok (.iaload, 1) := by decide +kernel
theorem dX12_manAt_6 : decode cX12_manAt 6 = .ok (.iconst 1, 1) := by decide +kernel
theorem dX12_manAt_7 : decode cX12_manAt 7 = .ok (.if_icmp .ne 37, 3) := by decide +kernel
theorem dX12_manAt_10 : decode cX12_manAt 10 = .ok (.iconst 0, 1) := by decide +kernel
theorem dX12_manAt_11 : decode cX12_manAt 11 = .ok (.istore_n 2, 1) := by decide +kernel
theorem dX12_manAt_12 : decode cX12_manAt 12 = .ok (.iload_n 2, 1) := by decide +kernel
theorem dX12_manAt_13 : decode cX12_manAt 13 = .ok (.aload_n 0, 1) := by decide +kernel
theorem dX12_manAt_14 : decode cX12_manAt 14 = .ok (.getfield 264, 3) := by decide +kernel
theorem dX12_manAt_17 : decode cX12_manAt 17 = .ok (.if_icmp .ge 27, 3) := by decide +kernel
theorem dX12_manAt_20 : decode cX12_manAt 20 = .ok (.aload_n 0, 1) := by decide +kernel
theorem dX12_manAt_21 : decode cX12_manAt 21 = .ok (.getfield 40, 3) := by decide +kernel
theorem dX12_manAt_24 : decode cX12_manAt 24 = .ok (.iload_n 2, 1) := by decide +kernel
theorem dX12_manAt_25 : decode cX12_manAt 25 = .ok (.laload, 1) := by decide +kernel
theorem dX12_manAt_26 : decode cX12_manAt 26 = .ok (.aload_n 0, 1) := by decide +kernel
theorem dX12_manAt_27 : decode cX12_manAt 27 = .ok (.getfield 30, 3) := by decide +kernel
theorem dX12_manAt_30 : decode cX12_manAt 30 = .ok (.iload_n 1, 1) := by decide +kernel
theorem dX12_manAt_31 : decode cX12_manAt 31 = .ok (.laload, 1) := by decide +kernel
theorem dX12_manAt_32 : decode cX12_manAt 32 = .ok (.lcmp, 1) := by decide +kernel
theorem dX12_manAt_33 : decode cX12_manAt 33 = .ok (.ifCond .ne 5, 3) := by decide +kernel
theorem dX12_manAt_36 : decode cX12_manAt 36 = .ok (.iload_n 2, 1) := by decide +kernel
theorem dX12_manAt_37 : decode cX12_manAt 37 = .ok (.ireturn, 1) := by decide +kernel
theorem dX12_manAt_38 : decode cX12_manAt 38 = .ok (.iinc 2 1, 3) := by decide +kernel
theorem dX12_manAt_41 : decode cX12_manAt 41 = .ok (.goto (-29), 3) := by decide +kernel
theorem dX12_manAt_44 : decode cX12_manAt 44 = .ok (.iconst (-1), 1) := by decide +kernel
theorem dX12_manAt_45 : decode cX12_manAt 45 = .ok (.ireturn, 1) := by decide +kernel
theorem dX12_known_0 : decode cX12_known 0 = .ok (.aload_n 0, 1) := by decide +kernel
theorem dX12_known_1 : decode cX12_known 1 = .ok (.getfield 231, 3) := by decide +kernel
theorem dX12_known_4 : decode cX12_known 4 = .ok (.istore_n 1, 1) := by decide +kernel
theorem dX12_known_5 : decode cX12_known 5 = .ok (.aload_n 0, 1) := by decide +kernel
theorem dX12_known_6 : decode cX12_known 6 = .ok (.iconst 1, 1) := by decide +kernel
theorem dX12_known_7 : decode cX12_known 7 = .ok (.invokevirtual 293, 3) := by decide +kernel
theorem dX12_known_10 : decode cX12_known 10 = .ok (.aload_n 0, 1) := by decide +kernel
theorem dX12_known_11 : decode cX12_known 11 = .ok (.getfield 228, 3) := by decide +kernel
theorem dX12_known_14 : decode cX12_known 14 = .ok (.ifCond .le 5, 3) := by decide +kernel
theorem dX12_known_17 : decode cX12_known 17 = .ok (.iconst (-1), 1) := by decide +kernel
theorem dX12_known_18 : decode cX12_known 18 = .ok (.ireturn, 1) := by decide +kernel
theorem dX12_known_19 : decode cX12_known 19 = .ok (.aload_n 0, 1) := by decide +kernel
theorem dX12_known_20 : decode cX12_known 20 = .ok (.iload_n 1, 1) := by decide +kernel
theorem dX12_known_21 : decode cX12_known 21 = .ok (.invokevirtual 315, 3) := by decide +kernel
theorem dX12_known_24 : decode cX12_known 24 = .ok (.istore_n 2, 1) := by decide +kernel
theorem dX12_known_25 : decode cX12_known 25 = .ok (.iload_n 2, 1) := by decide +kernel
theorem dX12_known_26 : decode cX12_known 26 = .ok (.ifCond .ge 9, 3) := by decide +kernel
theorem dX12_known_29 : decode cX12_known 29 = .ok (.aload_n 0, 1) := by decide +kernel
theorem dX12_known_30 : decode cX12_known 30 = .ok (.iconst 4, 1) := by decide +kernel
theorem dX12_known_31 : decode cX12_known 31 = .ok (.iload_n 1, 1) := by decide +kernel
theorem dX12_known_32 : decode cX12_known 32 = .ok (.invokevirtual 279, 3) := by decide +kernel
theorem dX12_known_35 : decode cX12_known 35 = .ok (.iload_n 2, 1) := by decide +kernel
theorem dX12_known_36 : decode cX12_known 36 = .ok (.ireturn, 1) := by decide +kernel
theorem dX12_bounded_0 : decode cX12_bounded 0 = .ok (.aload_n 0, 1) := by decide +kernel
theorem dX12_bounded_1 : decode cX12_bounded 1 = .ok (.getfield 228, 3) := by decide +kernel
theorem dX12_bounded_4 : decode cX12_bounded 4 = .ok (.ifCond .gt 11, 3) := by decide +kernel
theorem dX12_bounded_7 : decode cX12_bounded 7 = .ok (.aload_n 0, 1) := by decide +kernel
theorem dX12_bounded_8 : decode cX12_bounded 8 = .ok (.iconst 2, 1) := by decide +kernel
theorem dX12_bounded_9 : decode cX12_bounded 9 = .ok (.invokevirtual 246, 3) := by decide +kernel
theorem dX12_bounded_12 : decode cX12_bounded 12 = .ok (.ifCond .ne 10, 3) := by decide +kernel
theorem dX12_bounded_15 : decode cX12_bounded 15 = .ok (.aload_n 0, 1) := by decide +kernel
theorem dX12_bounded_16 : decode cX12_bounded 16 = .ok (.iconst 1, 1) := by decide +kernel
theorem dX12_bounded_17 : decode cX12_bounded 17 = .ok (.invokevirtual 243, 3) := by decide +kernel
theorem dX12_bounded_20 : decode cX12_bounded 20 = .ok (.iload_n 1, 1) := by decide +kernel
theorem dX12_bounded_21 : decode cX12_bounded 21 = .ok (.ireturn, 1) := by decide +kernel
theorem dX12_bounded_22 : decode cX12_bounded 22 = .ok (.aload_n 0, 1) := by decide +kernel
theorem dX12_bounded_23 : decode cX12_bounded 23 = .ok (.getfield 27, 3) := by decide +kernel
theorem dX12_bounded_26 : decode cX12_bounded 26 = .ok (.aload_n 0, 1) := by decide +kernel
theorem dX12_bounded_27 : decode cX12_bounded 27 = .ok (.getfield 231, 3) := by decide +kernel
theorem dX12_bounded_30 : decode cX12_bounded 30 = .ok (.iaload, 1) := by decide +kernel
theorem dX12_bounded_31 : decode cX12_bounded 31 = .ok (.istore_n 3, 1) := by decide +kernel
theorem dX12_bounded_32 : decode cX12_bounded 32 = .ok (.iload_n 3, 1) := by decide +kernel
theorem dX12_bounded_33 : decode cX12_bounded 33 = .ok (.iload_n 1, 1) := by decide +kernel
theorem dX12_bounded_34 : decode cX12_bounded 34 = .ok (.if_icmp .lt 8, 3) := by decide +kernel
theorem dX12_bounded_37 : decode cX12_bounded 37 = .ok (.iload_n 3, 1) := by decide +kernel
theorem dX12_bounded_38 : decode cX12_bounded 38 = .ok (.iload_n 2, 1) := by decide +kernel
theorem dX12_bounded_39 : decode cX12_bounded 39 = .ok (.if_icmp .le 12, 3) := by decide +kernel
theorem dX12_bounded_42 : decode cX12_bounded 42 = .ok (.aload_n 0, 1) := by decide +kernel
theorem dX12_bounded_43 : decode cX12_bounded 43 = .ok (.iconst 5, 1) := by decide +kernel
theorem dX12_bounded_44 : decode cX12_bounded 44 = .ok (.aload_n 0, 1) := by decide +kernel
theorem dX12_bounded_45 : decode cX12_bounded 45 = .ok (.getfield 231, 3) := by decide +kernel
theorem dX12_bounded_48 : decode cX12_bounded 48 = .ok (.invokevirtual 279, 3) := by decide +kernel
theorem dX12_bounded_51 : decode cX12_bounded 51 = .ok (.aload_n 0, 1) := by decide +kernel
theorem dX12_bounded_52 : decode cX12_bounded 52 = .ok (.invokevirtual 249, 3) := by decide +kernel
theorem dX12_bounded_55 : decode cX12_bounded 55 = .ok (.iload_n 3, 1) := by decide +kernel
theorem dX12_bounded_56 : decode cX12_bounded 56 = .ok (.ireturn, 1) := by decide +kernel
theorem dX12_notesCorner_0 : decode cX12_notesCorner 0 = .ok (.aload_n 0, 1) := by decide +kernel
theorem dX12_notesCorner_1 : decode cX12_notesCorner 1 = .ok (.getfield 82, 3) := by decide +kernel
theorem dX12_notesCorner_4 : decode cX12_notesCorner 4 = .ok (.aload_n 0, 1) := by decide +kernel
theorem dX12_notesCorner_5 : decode cX12_notesCorner 5 = .ok (.getfield 267, 3) := by decide +kernel
theorem dX12_notesCorner_8 : decode cX12_notesCorner 8 = .ok (.iload_n 2, 1) := by decide +kernel
theorem dX12_notesCorner_9 : decode cX12_notesCorner 9 = .ok (.iastore, 1) := by decide +kernel
theorem dX12_notesCorner_10 : decode cX12_notesCorner 10 = .ok (.aload_n 0, 1) := by decide +kernel
theorem dX12_notesCorner_11 : decode cX12_notesCorner 11 = .ok (.getfield 85, 3) := by decide +kernel
theorem dX12_notesCorner_14 : decode cX12_notesCorner 14 = .ok (.aload_n 0, 1) := by decide +kernel
theorem dX12_notesCorner_15 : decode cX12_notesCorner 15 = .ok (.getfield 267, 3) := by decide +kernel
theorem dX12_notesCorner_18 : decode cX12_notesCorner 18 = .ok (.iload_n 3, 1) := by decide +kernel
theorem dX12_notesCorner_19 : decode cX12_notesCorner 19 = .ok (.iastore, 1) := by decide +kernel
theorem dX12_notesCorner_20 : decode cX12_notesCorner 20 = .ok (.aload_n 0, 1) := by decide +kernel
theorem dX12_notesCorner_21 : decode cX12_notesCorner 21 = .ok (.getfield 88, 3) := by decide +kernel
theorem dX12_notesCorner_24 : decode cX12_notesCorner 24 = .ok (.aload_n 0, 1) := by decide +kernel
theorem dX12_notesCorner_25 : decode cX12_notesCorner 25 = .ok (.getfield 267, 3) := by decide +kernel
theorem dX12_notesCorner_28 : decode cX12_notesCorner 28 = .ok (.iload_n 1, 1) := by decide +kernel
theorem dX12_notesCorner_29 : decode cX12_notesCorner 29 = .ok (.iastore, 1) := by decide +kernel
theorem dX12_notesCorner_30 : decode cX12_notesCorner 30 = .ok (.aload_n 0, 1) := by decide +kernel
theorem dX12_notesCorner_31 : decode cX12_notesCorner 31 = .ok (.dup, 1) := by decide +kernel
theorem dX12_notesCorner_32 : decode cX12_notesCorner 32 = .ok (.getfield 267, 3) := by decide +kernel
theorem dX12_notesCorner_35 : decode cX12_notesCorner 35 = .ok (.iconst 1, 1) := by decide +kernel
theorem dX12_notesCorner_36 : decode cX12_notesCorner 36 = .ok (.iadd, 1) := by decide +kernel
theorem dX12_notesCorner_37 : decode cX12_notesCorner 37 = .ok (.putfield 267, 3) := by decide +kernel
theorem dX12_notesCorner_40 : decode cX12_notesCorner 40 = .ok (.return_, 1) := by decide +kernel
theorem dX12_tellMan_0 : decode cX12_tellMan 0 = .ok (.bipush 7, 2) := by decide +kernel
theorem dX12_tellMan_2 : decode cX12_tellMan 2 = .ok (.aload_n 0, 1) := by decide +kernel
theorem dX12_tellMan_3 : decode cX12_tellMan 3 = .ok (.getfield 261, 3) := by decide +kernel
theorem dX12_tellMan_6 : decode cX12_tellMan 6 = .ok (.imul, 1) := by decide +kernel
theorem dX12_tellMan_7 : decode cX12_tellMan 7 = .ok (.aload_n 0, 1) := by decide +kernel
theorem dX12_tellMan_8 : decode cX12_tellMan 8 = .ok (.getfield 49, 3) := by decide +kernel
theorem dX12_tellMan_11 : decode cX12_tellMan 11 = .ok (.aload_n 0, 1) := by decide +kernel
theorem dX12_tellMan_12 : decode cX12_tellMan 12 = .ok (.getfield 261, 3) := by decide +kernel
theorem dX12_tellMan_15 : decode cX12_tellMan 15 = .ok (.iaload, 1) := by decide +kernel
theorem dX12_tellMan_16 : decode cX12_tellMan 16 = .ok (.iadd, 1) := by decide +kernel
theorem dX12_tellMan_17 : decode cX12_tellMan 17 = .ok (.istore_n 1, 1) := by decide +kernel
theorem dX12_tellMan_18 : decode cX12_tellMan 18 = .ok (.aload_n 0, 1) := by decide +kernel
theorem dX12_tellMan_19 : decode cX12_tellMan 19 = .ok (.getfield 231, 3) := by decide +kernel
theorem dX12_tellMan_22 : decode cX12_tellMan 22 = .ok (.istore_n 2, 1) := by decide +kernel
theorem dX12_tellMan_23 : decode cX12_tellMan 23 = .ok (.aload_n 0, 1) := by decide +kernel
theorem dX12_tellMan_24 : decode cX12_tellMan 24 = .ok (.iconst 1, 1) := by decide +kernel
theorem dX12_tellMan_25 : decode cX12_tellMan 25 = .ok (.invokevirtual 293, 3) := by decide +kernel
theorem dX12_tellMan_28 : decode cX12_tellMan 28 = .ok (.aload_n 0, 1) := by decide +kernel
theorem dX12_tellMan_29 : decode cX12_tellMan 29 = .ok (.getfield 228, 3) := by decide +kernel
theorem dX12_tellMan_32 : decode cX12_tellMan 32 = .ok (.ifCond .ne 17, 3) := by decide +kernel
theorem dX12_tellMan_35 : decode cX12_tellMan 35 = .ok (.aload_n 0, 1) := by decide +kernel
theorem dX12_tellMan_36 : decode cX12_tellMan 36 = .ok (.iload_n 2, 1) := by decide +kernel
theorem dX12_tellMan_37 : decode cX12_tellMan 37 = .ok (.invokevirtual 315, 3) := by decide +kernel
theorem dX12_tellMan_40 : decode cX12_tellMan 40 = .ok (.ifCond .lt 9, 3) := by decide +kernel
theorem dX12_tellMan_43 : decode cX12_tellMan 43 = .ok (.aload_n 0, 1) := by decide +kernel
theorem dX12_tellMan_44 : decode cX12_tellMan 44 = .ok (.iconst 3, 1) := by decide +kernel
theorem dX12_tellMan_45 : decode cX12_tellMan 45 = .ok (.iload_n 2, 1) := by decide +kernel
theorem dX12_tellMan_46 : decode cX12_tellMan 46 = .ok (.invokevirtual 279, 3) := by decide +kernel
theorem dX12_tellMan_49 : decode cX12_tellMan 49 = .ok (.aload_n 0, 1) := by decide +kernel
theorem dX12_tellMan_50 : decode cX12_tellMan 50 = .ok (.getfield 231, 3) := by decide +kernel
theorem dX12_tellMan_53 : decode cX12_tellMan 53 = .ok (.istore_n 3, 1) := by decide +kernel
theorem dX12_tellMan_54 : decode cX12_tellMan 54 = .ok (.aload_n 0, 1) := by decide +kernel
theorem dX12_tellMan_55 : decode cX12_tellMan 55 = .ok (.getfield 52, 3) := by decide +kernel
theorem dX12_tellMan_58 : decode cX12_tellMan 58 = .ok (.iload_n 1, 1) := by decide +kernel
theorem dX12_tellMan_59 : decode cX12_tellMan 59 = .ok (.aload_n 0, 1) := by decide +kernel
theorem dX12_tellMan_60 : decode cX12_tellMan 60 = .ok (.iconst 0, 1) := by decide +kernel
theorem dX12_tellMan_61 : decode cX12_tellMan 61 = .ok (.bipush 11, 2) := by decide +kernel
theorem dX12_tellMan_63 : decode cX12_tellMan 63 = .ok (.invokevirtual 289, 3) := by decide +kernel
theorem dX12_tellMan_66 : decode cX12_tellMan 66 = .ok (.iastore, 1) := by decide +kernel
theorem dX12_tellMan_67 : decode cX12_tellMan 67 = .ok (.aload_n 0, 1) := by decide +kernel
theorem dX12_tellMan_68 : decode cX12_tellMan 68 = .ok (.getfield 55, 3) := by decide +kernel
theorem dX12_tellMan_71 : decode cX12_tellMan 71 = .ok (.iload_n 1, 1) := by decide +kernel
theorem dX12_tellMan_72 : decode cX12_tellMan 72 = .ok (.aload_n 0, 1) := by decide +kernel
theorem dX12_tellMan_73 : decode cX12_tellMan 73 = .ok (.iconst 0, 1) := by decide +kernel
theorem dX12_tellMan_74 : decode cX12_tellMan 74 = .ok (.bipush 11, 2) := by decide +kernel
theorem dX12_tellMan_76 : decode cX12_tellMan 76 = .ok (.invokevirtual 289, 3) := by decide +kernel
theorem dX12_tellMan_79 : decode cX12_tellMan 79 = .ok (.iastore, 1) := by decide +kernel
theorem dX12_tellMan_80 : decode cX12_tellMan 80 = .ok (.aload_n 0, 1) := by decide +kernel
theorem dX12_tellMan_81 : decode cX12_tellMan 81 = .ok (.iconst 4, 1) := by decide +kernel
theorem dX12_tellMan_82 : decode cX12_tellMan 82 = .ok (.invokevirtual 293, 3) := by decide +kernel
theorem dX12_tellMan_85 : decode cX12_tellMan 85 = .ok (.aload_n 0, 1) := by decide +kernel
theorem dX12_tellMan_86 : decode cX12_tellMan 86 = .ok (.getfield 228, 3) := by decide +kernel
theorem dX12_tellMan_89 : decode cX12_tellMan 89 = .ok (.ifCond .le 4, 3) := by decide +kernel
theorem dX12_tellMan_92 : decode cX12_tellMan 92 = .ok (.return_, 1) := by decide +kernel
theorem dX12_tellMan_93 : decode cX12_tellMan 93 = .ok (.aload_n 0, 1) := by decide +kernel
theorem dX12_tellMan_94 : decode cX12_tellMan 94 = .ok (.iload_n 3, 1) := by decide +kernel
theorem dX12_tellMan_95 : decode cX12_tellMan 95 = .ok (.aload_n 0, 1) := by decide +kernel
theorem dX12_tellMan_96 : decode cX12_tellMan 96 = .ok (.getfield 52, 3) := by decide +kernel
theorem dX12_tellMan_99 : decode cX12_tellMan 99 = .ok (.iload_n 1, 1) := by decide +kernel
theorem dX12_tellMan_100 : decode cX12_tellMan 100 = .ok (.iaload, 1) := by decide +kernel
theorem dX12_tellMan_101 : decode cX12_tellMan 101 = .ok (.aload_n 0, 1) := by decide +kernel
theorem dX12_tellMan_102 : decode cX12_tellMan 102 = .ok (.getfield 55, 3) := by decide +kernel
theorem dX12_tellMan_105 : decode cX12_tellMan 105 = .ok (.iload_n 1, 1) := by decide +kernel
theorem dX12_tellMan_106 : decode cX12_tellMan 106 = .ok (.iaload, 1) := by decide +kernel
theorem dX12_tellMan_107 : decode cX12_tellMan 107 = .ok (.invokevirtual 318, 3) := by decide +kernel
theorem dX12_tellMan_110 : decode cX12_tellMan 110 = .ok (.aload_n 0, 1) := by decide +kernel
theorem dX12_tellMan_111 : decode cX12_tellMan 111 = .ok (.getfield 40, 3) := by decide +kernel
theorem dX12_tellMan_114 : decode cX12_tellMan 114 = .ok (.aload_n 0, 1) := by decide +kernel
theorem dX12_tellMan_115 : decode cX12_tellMan 115 = .ok (.getfield 264, 3) := by decide +kernel
theorem dX12_tellMan_118 : decode cX12_tellMan 118 = .ok (.aload_n 0, 1) := by decide +kernel
theorem dX12_tellMan_119 : decode cX12_tellMan 119 = .ok (.getfield 30, 3) := by decide +kernel
theorem dX12_tellMan_122 : decode cX12_tellMan 122 = .ok (.iload_n 2, 1) := by decide +kernel
theorem dX12_tellMan_123 : decode cX12_tellMan 123 = .ok (.laload, 1) := by decide +kernel
theorem dX12_tellMan_124 : decode cX12_tellMan 124 = .ok (.lastore, 1) := by decide +kernel
theorem dX12_tellMan_125 : decode cX12_tellMan 125 = .ok (.aload_n 0, 1) := by decide +kernel
theorem dX12_tellMan_126 : decode cX12_tellMan 126 = .ok (.dup, 1) := by decide +kernel
theorem dX12_tellMan_127 : decode cX12_tellMan 127 = .ok (.getfield 264, 3) := by decide +kernel
theorem dX12_tellMan_130 : decode cX12_tellMan 130 = .ok (.iconst 1, 1) := by decide +kernel
theorem dX12_tellMan_131 : decode cX12_tellMan 131 = .ok (.iadd, 1) := by decide +kernel
theorem dX12_tellMan_132 : decode cX12_tellMan 132 = .ok (.putfield 264, 3) := by decide +kernel
theorem dX12_tellMan_135 : decode cX12_tellMan 135 = .ok (.aload_n 0, 1) := by decide +kernel
theorem dX12_tellMan_136 : decode cX12_tellMan 136 = .ok (.getfield 49, 3) := by decide +kernel
theorem dX12_tellMan_139 : decode cX12_tellMan 139 = .ok (.aload_n 0, 1) := by decide +kernel
theorem dX12_tellMan_140 : decode cX12_tellMan 140 = .ok (.getfield 261, 3) := by decide +kernel
theorem dX12_tellMan_143 : decode cX12_tellMan 143 = .ok (.dup2, 1) := by decide +kernel
theorem dX12_tellMan_144 : decode cX12_tellMan 144 = .ok (.iaload, 1) := by decide +kernel
theorem dX12_tellMan_145 : decode cX12_tellMan 145 = .ok (.iconst 1, 1) := by decide +kernel
theorem dX12_tellMan_146 : decode cX12_tellMan 146 = .ok (.iadd, 1) := by decide +kernel
theorem dX12_tellMan_147 : decode cX12_tellMan 147 = .ok (.iastore, 1) := by decide +kernel
theorem dX12_tellMan_148 : decode cX12_tellMan 148 = .ok (.return_, 1) := by decide +kernel
theorem dX12_tellErrand_0 : decode cX12_tellErrand 0 = .ok (.aload_n 0, 1) := by decide +kernel
theorem dX12_tellErrand_1 : decode cX12_tellErrand 1 = .ok (.aload_n 0, 1) := by decide +kernel
theorem dX12_tellErrand_2 : decode cX12_tellErrand 2 = .ok (.getfield 231, 3) := by decide +kernel
theorem dX12_tellErrand_5 : decode cX12_tellErrand 5 = .ok (.iconst 1, 1) := by decide +kernel
theorem dX12_tellErrand_6 : decode cX12_tellErrand 6 = .ok (.iadd, 1) := by decide +kernel
theorem dX12_tellErrand_7 : decode cX12_tellErrand 7 = .ok (.invokevirtual 315, 3) := by decide +kernel
theorem dX12_tellErrand_10 : decode cX12_tellErrand 10 = .ok (.istore_n 1, 1) := by decide +kernel
theorem dX12_tellErrand_11 : decode cX12_tellErrand 11 = .ok (.iload_n 1, 1) := by decide +kernel
theorem dX12_tellErrand_12 : decode cX12_tellErrand 12 = .ok (.ifCond .lt 27, 3) := by decide +kernel
theorem dX12_tellErrand_15 : decode cX12_tellErrand 15 = .ok (.aload_n 0, 1) := by decide +kernel
theorem dX12_tellErrand_16 : decode cX12_tellErrand 16 = .ok (.getfield 61, 3) := by decide +kernel
theorem dX12_tellErrand_19 : decode cX12_tellErrand 19 = .ok (.bipush 7, 2) := by decide +kernel
theorem dX12_tellErrand_21 : decode cX12_tellErrand 21 = .ok (.aload_n 0, 1) := by decide +kernel
theorem dX12_tellErrand_22 : decode cX12_tellErrand 22 = .ok (.getfield 261, 3) := by decide +kernel
theorem dX12_tellErrand_25 : decode cX12_tellErrand 25 = .ok (.imul, 1) := by decide +kernel
theorem dX12_tellErrand_26 : decode cX12_tellErrand 26 = .ok (.iload_n 1, 1) := by decide +kernel
theorem dX12_tellErrand_27 : decode cX12_tellErrand 27 = .ok (.iadd, 1) := by decide +kernel
theorem dX12_tellErrand_28 : decode cX12_tellErrand 28 = .ok (.iaload, 1) := by decide +kernel
theorem dX12_tellErrand_29 : decode cX12_tellErrand 29 = .ok (.bipush 6, 2) := by decide +kernel
theorem dX12_tellErrand_31 : decode cX12_tellErrand 31 = .ok (.if_icmp .ne 8, 3) := by decide +kernel
theorem dX12_tellErrand_34 : decode cX12_tellErrand 34 = .ok (.aload_n 0, 1) := by decide +kernel
theorem dX12_tellErrand_35 : decode cX12_tellErrand 35 = .ok (.iconst 2, 1) := by decide +kernel
theorem dX12_tellErrand_36 : decode cX12_tellErrand 36 = .ok (.invokevirtual 243, 3) := by decide +kernel
theorem dX12_tellErrand_39 : decode cX12_tellErrand 39 = .ok (.aload_n 0, 1) := by decide +kernel
theorem dX12_tellErrand_40 : decode cX12_tellErrand 40 = .ok (.getfield 228, 3) := by decide +kernel
theorem dX12_tellErrand_43 : decode cX12_tellErrand 43 = .ok (.ifCond .le 4, 3) := by decide +kernel
theorem dX12_tellErrand_46 : decode cX12_tellErrand 46 = .ok (.return_, 1) := by decide +kernel
theorem dX12_tellErrand_47 : decode cX12_tellErrand 47 = .ok (.aload_n 0, 1) := by decide +kernel
theorem dX12_tellErrand_48 : decode cX12_tellErrand 48 = .ok (.invokevirtual 249, 3) := by decide +kernel
theorem dX12_tellErrand_51 : decode cX12_tellErrand 51 = .ok (.aload_n 0, 1) := by decide +kernel
theorem dX12_tellErrand_52 : decode cX12_tellErrand 52 = .ok (.invokevirtual 302, 3) := by decide +kernel
theorem dX12_tellErrand_55 : decode cX12_tellErrand 55 = .ok (.pop, 1) := by decide +kernel
theorem dX12_tellErrand_56 : decode cX12_tellErrand 56 = .ok (.aload_n 0, 1) := by decide +kernel
theorem dX12_tellErrand_57 : decode cX12_tellErrand 57 = .ok (.getfield 231, 3) := by decide +kernel
theorem dX12_tellErrand_60 : decode cX12_tellErrand 60 = .ok (.istore_n 2, 1) := by decide +kernel
theorem dX12_tellErrand_61 : decode cX12_tellErrand 61 = .ok (.aload_n 0, 1) := by decide +kernel
theorem dX12_tellErrand_62 : decode cX12_tellErrand 62 = .ok (.iconst 0, 1) := by decide +kernel
theorem dX12_tellErrand_63 : decode cX12_tellErrand 63 = .ok (.bipush 11, 2) := by decide +kernel
theorem dX12_tellErrand_65 : decode cX12_tellErrand 65 = .ok (.invokevirtual 289, 3) := by decide +kernel
theorem dX12_tellErrand_68 : decode cX12_tellErrand 68 = .ok (.istore_n 3, 1) := by decide +kernel
theorem dX12_tellErrand_69 : decode cX12_tellErrand 69 = .ok (.aload_n 0, 1) := by decide +kernel
theorem dX12_tellErrand_70 : decode cX12_tellErrand 70 = .ok (.iconst 0, 1) := by decide +kernel
theorem dX12_tellErrand_71 : decode cX12_tellErrand 71 = .ok (.bipush 11, 2) := by decide +kernel
theorem dX12_tellErrand_73 : decode cX12_tellErrand 73 = .ok (.invokevirtual 289, 3) := by decide +kernel
theorem dX12_tellErrand_76 : decode cX12_tellErrand 76 = .ok (.istore 4, 2) := by decide +kernel
theorem dX12_tellErrand_78 : decode cX12_tellErrand 78 = .ok (.aload_n 0, 1) := by decide +kernel
theorem dX12_tellErrand_79 : decode cX12_tellErrand 79 = .ok (.iconst 4, 1) := by decide +kernel
theorem dX12_tellErrand_80 : decode cX12_tellErrand 80 = .ok (.invokevirtual 293, 3) := by decide +kernel
theorem dX12_tellErrand_83 : decode cX12_tellErrand 83 = .ok (.aload_n 0, 1) := by decide +kernel
theorem dX12_tellErrand_84 : decode cX12_tellErrand 84 = .ok (.getfield 228, 3) := by decide +kernel
theorem dX12_tellErrand_87 : decode cX12_tellErrand 87 = .ok (.ifCond .gt 7, 3) := by decide +kernel
theorem dX12_tellErrand_90 : decode cX12_tellErrand 90 = .ok (.iload_n 1, 1) := by decide +kernel
theorem dX12_tellErrand_91 : decode cX12_tellErrand 91 = .ok (.ifCond .ge 4, 3) := by decide +kernel
theorem dX12_tellErrand_94 : decode cX12_tellErrand 94 = .ok (.return_, 1) := by decide +kernel
theorem dX12_tellErrand_95 : decode cX12_tellErrand 95 = .ok (.bipush 42, 2) := by decide +kernel
theorem dX12_tellErrand_97 : decode cX12_tellErrand 97 = .ok (.aload_n 0, 1) := by decide +kernel
theorem dX12_tellErrand_98 : decode cX12_tellErrand 98 = .ok (.getfield 261, 3) := by decide +kernel
theorem dX12_tellErrand_101 : decode cX12_tellErrand 101 = .ok (.imul, 1) := by decide +kernel
theorem dX12_tellErrand_102 : decode cX12_tellErrand 102 = .ok (.bipush 6, 2) := by decide +kernel
theorem dX12_tellErrand_104 : decode cX12_tellErrand 104 = .ok (.iload_n 1, 1) := by decide +kernel
theorem dX12_tellErrand_105 : decode cX12_tellErrand 105 = .ok (.imul, 1) := by decide +kernel
theorem dX12_tellErrand_106 : decode cX12_tellErrand 106 = .ok (.iadd, 1) := by decide +kernel
theorem dX12_tellErrand_107 : decode cX12_tellErrand 107 = .ok (.aload_n 0, 1) := by decide +kernel
theorem dX12_tellErrand_108 : decode cX12_tellErrand 108 = .ok (.getfield 61, 3) := by decide +kernel
theorem dX12_tellErrand_111 : decode cX12_tellErrand 111 = .ok (.bipush 7, 2) := by decide +kernel
theorem dX12_tellErrand_113 : decode cX12_tellErrand 113 = .ok (.aload_n 0, 1) := by decide +kernel
theorem dX12_tellErrand_114 : decode cX12_tellErrand 114 = .ok (.getfield 261, 3) := by decide +kernel
theorem dX12_tellErrand_117 : decode cX12_tellErrand 117 = .ok (.imul, 1) := by decide +kernel
theorem dX12_tellErrand_118 : decode cX12_tellErrand 118 = .ok (.iload_n 1, 1) := by decide +kernel
theorem dX12_tellErrand_119 : decode cX12_tellErrand 119 = .ok (.iadd, 1) := by decide +kernel
theorem dX12_tellErrand_120 : decode cX12_tellErrand 120 = .ok (.iaload, 1) := by decide +kernel
theorem dX12_tellErrand_121 : decode cX12_tellErrand 121 = .ok (.iadd, 1) := by decide +kernel
theorem dX12_tellErrand_122 : decode cX12_tellErrand 122 = .ok (.istore 5, 2) := by decide +kernel
theorem dX12_tellErrand_124 : decode cX12_tellErrand 124 = .ok (.aload_n 0, 1) := by decide +kernel
theorem dX12_tellErrand_125 : decode cX12_tellErrand 125 = .ok (.getfield 64, 3) := by decide +kernel
theorem dX12_tellErrand_128 : decode cX12_tellErrand 128 = .ok (.iload 5, 2) := by decide +kernel
theorem dX12_tellErrand_130 : decode cX12_tellErrand 130 = .ok (.iload_n 3, 1) := by decide +kernel
theorem dX12_tellErrand_131 : decode cX12_tellErrand 131 = .ok (.iastore, 1) := by decide +kernel
theorem dX12_tellErrand_132 : decode cX12_tellErrand 132 = .ok (.aload_n 0, 1) := by decide +kernel
theorem dX12_tellErrand_133 : decode cX12_tellErrand 133 = .ok (.getfield 67, 3) := by decide +kernel
theorem dX12_tellErrand_136 : decode cX12_tellErrand 136 = .ok (.iload 5, 2) := by decide +kernel
theorem dX12_tellErrand_138 : decode cX12_tellErrand 138 = .ok (.iload 4, 2) := by decide +kernel
theorem dX12_tellErrand_140 : decode cX12_tellErrand 140 = .ok (.iastore, 1) := by decide +kernel
theorem dX12_tellErrand_141 : decode cX12_tellErrand 141 = .ok (.aload_n 0, 1) := by decide +kernel
theorem dX12_tellErrand_142 : decode cX12_tellErrand 142 = .ok (.getfield 61, 3) := by decide +kernel
theorem dX12_tellErrand_145 : decode cX12_tellErrand 145 = .ok (.bipush 7, 2) := by decide +kernel
theorem dX12_tellErrand_147 : decode cX12_tellErrand 147 = .ok (.aload_n 0, 1) := by decide +kernel
theorem dX12_tellErrand_148 : decode cX12_tellErrand 148 = .ok (.getfield 261, 3) := by decide +kernel
theorem dX12_tellErrand_151 : decode cX12_tellErrand 151 = .ok (.imul, 1) := by decide +kernel
theorem dX12_tellErrand_152 : decode cX12_tellErrand 152 = .ok (.iload_n 1, 1) := by decide +kernel
theorem dX12_tellErrand_153 : decode cX12_tellErrand 153 = .ok (.iadd, 1) := by decide +kernel
theorem dX12_tellErrand_154 : decode cX12_tellErrand 154 = .ok (.dup2, 1) := by decide +kernel
theorem dX12_tellErrand_155 : decode cX12_tellErrand 155 = .ok (.iaload, 1) := by decide +kernel
theorem dX12_tellErrand_156 : decode cX12_tellErrand 156 = .ok (.iconst 1, 1) := by decide +kernel
theorem dX12_tellErrand_157 : decode cX12_tellErrand 157 = .ok (.iadd, 1) := by decide +kernel
theorem dX12_tellErrand_158 : decode cX12_tellErrand 158 = .ok (.iastore, 1) := by decide +kernel
theorem dX12_tellErrand_159 : decode cX12_tellErrand 159 = .ok (.aload_n 0, 1) := by decide +kernel
theorem dX12_tellErrand_160 : decode cX12_tellErrand 160 = .ok (.iload_n 2, 1) := by decide +kernel
theorem dX12_tellErrand_161 : decode cX12_tellErrand 161 = .ok (.iload_n 3, 1) := by decide +kernel
theorem dX12_tellErrand_162 : decode cX12_tellErrand 162 = .ok (.iload 4, 2) := by decide +kernel
theorem dX12_tellErrand_164 : decode cX12_tellErrand 164 = .ok (.invokevirtual 318, 3) := by decide +kernel
theorem dX12_tellErrand_167 : decode cX12_tellErrand 167 = .ok (.return_, 1) := by decide +kernel
theorem dX12_tellPillar_0 : decode cX12_tellPillar 0 = .ok (.bipush 6, 2) := by decide +kernel
theorem dX12_tellPillar_2 : decode cX12_tellPillar 2 = .ok (.aload_n 0, 1) := by decide +kernel
theorem dX12_tellPillar_3 : decode cX12_tellPillar 3 = .ok (.getfield 261, 3) := by decide +kernel
theorem dX12_tellPillar_6 : decode cX12_tellPillar 6 = .ok (.imul, 1) := by decide +kernel
theorem dX12_tellPillar_7 : decode cX12_tellPillar 7 = .ok (.aload_n 0, 1) := by decide +kernel
theorem dX12_tellPillar_8 : decode cX12_tellPillar 8 = .ok (.getfield 70, 3) := by decide +kernel
theorem dX12_tellPillar_11 : decode cX12_tellPillar 11 = .ok (.aload_n 0, 1) := by decide +kernel
theorem dX12_tellPillar_12 : decode cX12_tellPillar 12 = .ok (.getfield 261, 3) := by decide +kernel
theorem dX12_tellPillar_15 : decode cX12_tellPillar 15 = .ok (.iaload, 1) := by decide +kernel
theorem dX12_tellPillar_16 : decode cX12_tellPillar 16 = .ok (.iadd, 1) := by decide +kernel
theorem dX12_tellPillar_17 : decode cX12_tellPillar 17 = .ok (.istore_n 1, 1) := by decide +kernel
theorem dX12_tellPillar_18 : decode cX12_tellPillar 18 = .ok (.aload_n 0, 1) := by decide +kernel
theorem dX12_tellPillar_19 : decode cX12_tellPillar 19 = .ok (.getfield 73, 3) := by decide +kernel
theorem dX12_tellPillar_22 : decode cX12_tellPillar 22 = .ok (.iload_n 1, 1) := by decide +kernel
theorem dX12_tellPillar_23 : decode cX12_tellPillar 23 = .ok (.aload_n 0, 1) := by decide +kernel
theorem dX12_tellPillar_24 : decode cX12_tellPillar 24 = .ok (.iconst 0, 1) := by decide +kernel
theorem dX12_tellPillar_25 : decode cX12_tellPillar 25 = .ok (.bipush 10, 2) := by decide +kernel
theorem dX12_tellPillar_27 : decode cX12_tellPillar 27 = .ok (.invokevirtual 289, 3) := by decide +kernel
theorem dX12_tellPillar_30 : decode cX12_tellPillar 30 = .ok (.iastore, 1) := by decide +kernel
theorem dX12_tellPillar_31 : decode cX12_tellPillar 31 = .ok (.aload_n 0, 1) := by decide +kernel
theorem dX12_tellPillar_32 : decode cX12_tellPillar 32 = .ok (.getfield 76, 3) := by decide +kernel
theorem dX12_tellPillar_35 : decode cX12_tellPillar 35 = .ok (.iload_n 1, 1) := by decide +kernel
theorem dX12_tellPillar_36 : decode cX12_tellPillar 36 = .ok (.aload_n 0, 1) := by decide +kernel
theorem dX12_tellPillar_37 : decode cX12_tellPillar 37 = .ok (.iconst 0, 1) := by decide +kernel
theorem dX12_tellPillar_38 : decode cX12_tellPillar 38 = .ok (.bipush 10, 2) := by decide +kernel
theorem dX12_tellPillar_40 : decode cX12_tellPillar 40 = .ok (.invokevirtual 289, 3) := by decide +kernel
theorem dX12_tellPillar_43 : decode cX12_tellPillar 43 = .ok (.iastore, 1) := by decide +kernel
theorem dX12_tellPillar_44 : decode cX12_tellPillar 44 = .ok (.aload_n 0, 1) := by decide +kernel
theorem dX12_tellPillar_45 : decode cX12_tellPillar 45 = .ok (.iconst 4, 1) := by decide +kernel
theorem dX12_tellPillar_46 : decode cX12_tellPillar 46 = .ok (.invokevirtual 293, 3) := by decide +kernel
theorem dX12_tellPillar_49 : decode cX12_tellPillar 49 = .ok (.aload_n 0, 1) := by decide +kernel
theorem dX12_tellPillar_50 : decode cX12_tellPillar 50 = .ok (.getfield 228, 3) := by decide +kernel
theorem dX12_tellPillar_53 : decode cX12_tellPillar 53 = .ok (.ifCond .ne 16, 3) := by decide +kernel
theorem dX12_tellPillar_56 : decode cX12_tellPillar 56 = .ok (.aload_n 0, 1) := by decide +kernel
theorem dX12_tellPillar_57 : decode cX12_tellPillar 57 = .ok (.getfield 70, 3) := by decide +kernel
theorem dX12_tellPillar_60 : decode cX12_tellPillar 60 = .ok (.aload_n 0, 1) := by decide +kernel
theorem dX12_tellPillar_61 : decode cX12_tellPillar 61 = .ok (.getfield 261, 3) := by decide +kernel
theorem dX12_tellPillar_64 : decode cX12_tellPillar 64 = .ok (.dup2, 1) := by decide +kernel
theorem dX12_tellPillar_65 : decode cX12_tellPillar 65 = .ok (.iaload, 1) := by decide +kernel
theorem dX12_tellPillar_66 : decode cX12_tellPillar 66 = .ok (.iconst 1, 1) := by decide +kernel
theorem dX12_tellPillar_67 : decode cX12_tellPillar 67 = .ok (.iadd, 1) := by decide +kernel
theorem dX12_tellPillar_68 : decode cX12_tellPillar 68 = .ok (.iastore, 1) := by decide +kernel
theorem dX12_tellPillar_69 : decode cX12_tellPillar 69 = .ok (.return_, 1) := by decide +kernel
theorem dX12_tellLaw_0 : decode cX12_tellLaw 0 = .ok (.aload_n 0, 1) := by decide +kernel
theorem dX12_tellLaw_1 : decode cX12_tellLaw 1 = .ok (.iconst 5, 1) := by decide +kernel
theorem dX12_tellLaw_2 : decode cX12_tellLaw 2 = .ok (.invokevirtual 293, 3) := by decide +kernel
theorem dX12_tellLaw_5 : decode cX12_tellLaw 5 = .ok (.aload_n 0, 1) := by decide +kernel
theorem dX12_tellLaw_6 : decode cX12_tellLaw 6 = .ok (.getfield 270, 3) := by decide +kernel
theorem dX12_tellLaw_9 : decode cX12_tellLaw 9 = .ok (.istore_n 2, 1) := by decide +kernel
theorem dX12_tellLaw_10 : decode cX12_tellLaw 10 = .ok (.iconst 0, 1) := by decide +kernel
theorem dX12_tellLaw_11 : decode cX12_tellLaw 11 = .ok (.istore_n 3, 1) := by decide +kernel
theorem dX12_tellLaw_12 : decode cX12_tellLaw 12 = .ok (.aload_n 0, 1) := by decide +kernel
theorem dX12_tellLaw_13 : decode cX12_tellLaw 13 = .ok (.getfield 228, 3) := by decide +kernel
theorem dX12_tellLaw_16 : decode cX12_tellLaw 16 = .ok (.ifCond .ne 113, 3) := by decide +kernel
theorem dX12_tellLaw_19 : decode cX12_tellLaw 19 = .ok (.aload_n 0, 1) := by decide +kernel
theorem dX12_tellLaw_20 : decode cX12_tellLaw 20 = .ok (.bipush 28, 2) := by decide +kernel
theorem dX12_tellLaw_22 : decode cX12_tellLaw 22 = .ok (.invokevirtual 246, 3) := by decide +kernel
theorem dX12_tellLaw_25 : decode cX12_tellLaw 25 = .ok (.ifCond .eq 104, 3) := by decide +kernel
theorem dX12_tellLaw_28 : decode cX12_tellLaw 28 = .ok (.iload_n 3, 1) := by decide +kernel
theorem dX12_tellLaw_29 : decode cX12_tellLaw 29 = .ok (.iconst 4, 1) := by decide +kernel
theorem dX12_tellLaw_30 : decode cX12_tellLaw 30 = .ok (.if_icmp .ne 8, 3) := by decide +kernel
theorem dX12_tellLaw_33 : decode cX12_tellLaw 33 = .ok (.aload_n 0, 1) := by decide +kernel
theorem dX12_tellLaw_34 : decode cX12_tellLaw 34 = .ok (.iconst 2, 1) := by decide +kernel
theorem dX12_tellLaw_35 : decode cX12_tellLaw 35 = .ok (.invokevirtual 243, 3) := by decide +kernel
theorem dX12_tellLaw_38 : decode cX12_tellLaw 38 = .ok (.aload_n 0, 1) := by decide +kernel
theorem dX12_tellLaw_39 : decode cX12_tellLaw 39 = .ok (.getfield 228, 3) := by decide +kernel
theorem dX12_tellLaw_42 : decode cX12_tellLaw 42 = .ok (.ifCond .le 4, 3) := by decide +kernel
theorem dX12_tellLaw_45 : decode cX12_tellLaw 45 = .ok (.return_, 1) := by decide +kernel
theorem dX12_tellLaw_46 : decode cX12_tellLaw 46 = .ok (.iinc 3 1, 3) := by decide +kernel
theorem dX12_tellLaw_49 : decode cX12_tellLaw 49 = .ok (.aload_n 0, 1) := by decide +kernel
theorem dX12_tellLaw_50 : decode cX12_tellLaw 50 = .ok (.invokevirtual 249, 3) := by decide +kernel
theorem dX12_tellLaw_53 : decode cX12_tellLaw 53 = .ok (.aload_n 0, 1) := by decide +kernel
theorem dX12_tellLaw_54 : decode cX12_tellLaw 54 = .ok (.getfield 97, 3) := by decide +kernel
theorem dX12_tellLaw_57 : decode cX12_tellLaw 57 = .ok (.aload_n 0, 1) := by decide +kernel
theorem dX12_tellLaw_58 : decode cX12_tellLaw 58 = .ok (.getfield 270, 3) := by decide +kernel
theorem dX12_tellLaw_61 : decode cX12_tellLaw 61 = .ok (.iconst 1, 1) := by decide +kernel
theorem dX12_tellLaw_62 : decode cX12_tellLaw 62 = .ok (.bastore, 1) := by decide +kernel
theorem dX12_tellLaw_63 : decode cX12_tellLaw 63 = .ok (.aload_n 0, 1) := by decide +kernel
theorem dX12_tellLaw_64 : decode cX12_tellLaw 64 = .ok (.getfield 101, 3) := by decide +kernel
theorem dX12_tellLaw_67 : decode cX12_tellLaw 67 = .ok (.aload_n 0, 1) := by decide +kernel
theorem dX12_tellLaw_68 : decode cX12_tellLaw 68 = .ok (.getfield 270, 3) := by decide +kernel
theorem dX12_tellLaw_71 : decode cX12_tellLaw 71 = .ok (.aload_n 0, 1) := by decide +kernel
theorem dX12_tellLaw_72 : decode cX12_tellLaw 72 = .ok (.getfield 273, 3) := by decide +kernel
theorem dX12_tellLaw_75 : decode cX12_tellLaw 75 = .ok (.iastore, 1) := by decide +kernel
theorem dX12_tellLaw_76 : decode cX12_tellLaw 76 = .ok (.aload_n 0, 1) := by decide +kernel
theorem dX12_tellLaw_77 : decode cX12_tellLaw 77 = .ok (.invokevirtual 322, 3) := by decide +kernel
theorem dX12_tellLaw_80 : decode cX12_tellLaw 80 = .ok (.aload_n 0, 1) := by decide +kernel
theorem dX12_tellLaw_81 : decode cX12_tellLaw 81 = .ok (.bipush 13, 2) := by decide +kernel
theorem dX12_tellLaw_83 : decode cX12_tellLaw 83 = .ok (.invokevirtual 293, 3) := by decide +kernel
theorem dX12_tellLaw_86 : decode cX12_tellLaw 86 = .ok (.aload_n 0, 1) := by decide +kernel
theorem dX12_tellLaw_87 : decode cX12_tellLaw 87 = .ok (.getfield 104, 3) := by decide +kernel
theorem dX12_tellLaw_90 : decode cX12_tellLaw 90 = .ok (.aload_n 0, 1) := by decide +kernel
theorem dX12_tellLaw_91 : decode cX12_tellLaw 91 = .ok (.getfield 270, 3) := by decide +kernel
theorem dX12_tellLaw_94 : decode cX12_tellLaw 94 = .ok (.aload_n 0, 1) := by decide +kernel
theorem dX12_tellLaw_95 : decode cX12_tellLaw 95 = .ok (.getfield 273, 3) := by decide +kernel
theorem dX12_tellLaw_98 : decode cX12_tellLaw 98 = .ok (.iastore, 1) := by decide +kernel
theorem dX12_tellLaw_99 : decode cX12_tellLaw 99 = .ok (.aload_n 0, 1) := by decide +kernel
theorem dX12_tellLaw_100 : decode cX12_tellLaw 100 = .ok (.getfield 228, 3) := by decide +kernel
theorem dX12_tellLaw_103 : decode cX12_tellLaw 103 = .ok (.ifCond .ne 7, 3) := by decide +kernel
theorem dX12_tellLaw_106 : decode cX12_tellLaw 106 = .ok (.aload_n 0, 1) := by decide +kernel
theorem dX12_tellLaw_107 : decode cX12_tellLaw 107 = .ok (.invokevirtual 322, 3) := by decide +kernel
theorem dX12_tellLaw_110 : decode cX12_tellLaw 110 = .ok (.aload_n 0, 1) := by decide +kernel
theorem dX12_tellLaw_111 : decode cX12_tellLaw 111 = .ok (.bipush 29, 2) := by decide +kernel
theorem dX12_tellLaw_113 : decode cX12_tellLaw 113 = .ok (.invokevirtual 293, 3) := by decide +kernel
theorem dX12_tellLaw_116 : decode cX12_tellLaw 116 = .ok (.aload_n 0, 1) := by decide +kernel
theorem dX12_tellLaw_117 : decode cX12_tellLaw 117 = .ok (.invokevirtual 325, 3) := by decide +kernel
theorem dX12_tellLaw_120 : decode cX12_tellLaw 120 = .ok (.aload_n 0, 1) := by decide +kernel
theorem dX12_tellLaw_121 : decode cX12_tellLaw 121 = .ok (.bipush 30, 2) := by decide +kernel
theorem dX12_tellLaw_123 : decode cX12_tellLaw 123 = .ok (.invokevirtual 293, 3) := by decide +kernel
theorem dX12_tellLaw_126 : decode cX12_tellLaw 126 = .ok (.goto (-114), 3) := by decide +kernel
theorem dX12_tellLaw_129 : decode cX12_tellLaw 129 = .ok (.aload_n 0, 1) := by decide +kernel
theorem dX12_tellLaw_130 : decode cX12_tellLaw 130 = .ok (.getfield 97, 3) := by decide +kernel
theorem dX12_tellLaw_133 : decode cX12_tellLaw 133 = .ok (.aload_n 0, 1) := by decide +kernel
theorem dX12_tellLaw_134 : decode cX12_tellLaw 134 = .ok (.getfield 270, 3) := by decide +kernel
theorem dX12_tellLaw_137 : decode cX12_tellLaw 137 = .ok (.iconst 0, 1) := by decide +kernel
theorem dX12_tellLaw_138 : decode cX12_tellLaw 138 = .ok (.bastore, 1) := by decide +kernel
theorem dX12_tellLaw_139 : decode cX12_tellLaw 139 = .ok (.aload_n 0, 1) := by decide +kernel
theorem dX12_tellLaw_140 : decode cX12_tellLaw 140 = .ok (.invokevirtual 325, 3) := by decide +kernel
theorem dX12_tellLaw_143 : decode cX12_tellLaw 143 = .ok (.aload_n 0, 1) := by decide +kernel
theorem dX12_tellLaw_144 : decode cX12_tellLaw 144 = .ok (.iconst 4, 1) := by decide +kernel
theorem dX12_tellLaw_145 : decode cX12_tellLaw 145 = .ok (.invokevirtual 293, 3) := by decide +kernel
theorem dX12_tellLaw_148 : decode cX12_tellLaw 148 = .ok (.aload_n 0, 1) := by decide +kernel
theorem dX12_tellLaw_149 : decode cX12_tellLaw 149 = .ok (.getfield 228, 3) := by decide +kernel
theorem dX12_tellLaw_152 : decode cX12_tellLaw 152 = .ok (.ifCond .gt 7, 3) := by decide +kernel
theorem dX12_tellLaw_155 : decode cX12_tellLaw 155 = .ok (.iload_n 1, 1) := by decide +kernel
theorem dX12_tellLaw_156 : decode cX12_tellLaw 156 = .ok (.ifCond .ge 4, 3) := by decide +kernel
theorem dX12_tellLaw_159 : decode cX12_tellLaw 159 = .ok (.return_, 1) := by decide +kernel
theorem dX12_tellLaw_160 : decode cX12_tellLaw 160 = .ok (.aload_n 0, 1) := by decide +kernel
theorem dX12_tellLaw_161 : decode cX12_tellLaw 161 = .ok (.getfield 91, 3) := by decide +kernel
theorem dX12_tellLaw_164 : decode cX12_tellLaw 164 = .ok (.bipush 8, 2) := by decide +kernel
theorem dX12_tellLaw_166 : decode cX12_tellLaw 166 = .ok (.aload_n 0, 1) := by decide +kernel
theorem dX12_tellLaw_167 : decode cX12_tellLaw 167 = .ok (.getfield 261, 3) := by decide +kernel
theorem dX12_tellLaw_170 : decode cX12_tellLaw 170 = .ok (.imul, 1) := by decide +kernel
theorem dX12_tellLaw_171 : decode cX12_tellLaw 171 = .ok (.iload_n 1, 1) := by decide +kernel
theorem dX12_tellLaw_172 : decode cX12_tellLaw 172 = .ok (.iadd, 1) := by decide +kernel
theorem dX12_tellLaw_173 : decode cX12_tellLaw 173 = .ok (.iload_n 2, 1) := by decide +kernel
theorem dX12_tellLaw_174 : decode cX12_tellLaw 174 = .ok (.iastore, 1) := by decide +kernel
theorem dX12_tellLaw_175 : decode cX12_tellLaw 175 = .ok (.aload_n 0, 1) := by decide +kernel
theorem dX12_tellLaw_176 : decode cX12_tellLaw 176 = .ok (.getfield 94, 3) := by decide +kernel
theorem dX12_tellLaw_179 : decode cX12_tellLaw 179 = .ok (.bipush 8, 2) := by decide +kernel
theorem dX12_tellLaw_181 : decode cX12_tellLaw 181 = .ok (.aload_n 0, 1) := by decide +kernel
theorem dX12_tellLaw_182 : decode cX12_tellLaw 182 = .ok (.getfield 261, 3) := by decide +kernel
theorem dX12_tellLaw_185 : decode cX12_tellLaw 185 = .ok (.imul, 1) := by decide +kernel
theorem dX12_tellLaw_186 : decode cX12_tellLaw 186 = .ok (.iload_n 1, 1) := by decide +kernel
theorem dX12_tellLaw_187 : decode cX12_tellLaw 187 = .ok (.iadd, 1) := by decide +kernel
theorem dX12_tellLaw_188 : decode cX12_tellLaw 188 = .ok (.aload_n 0, 1) := by decide +kernel
theorem dX12_tellLaw_189 : decode cX12_tellLaw 189 = .ok (.getfield 270, 3) := by decide +kernel
theorem dX12_tellLaw_192 : decode cX12_tellLaw 192 = .ok (.iastore, 1) := by decide +kernel
theorem dX12_tellLaw_193 : decode cX12_tellLaw 193 = .ok (.return_, 1) := by decide +kernel
theorem dX12_term_0 : decode cX12_term 0 = .ok (.aload_n 0, 1) := by decide +kernel
theorem dX12_term_1 : decode cX12_term 1 = .ok (.getfield 107, 3) := by decide +kernel
theorem dX12_term_4 : decode cX12_term 4 = .ok (.aload_n 0, 1) := by decide +kernel
theorem dX12_term_5 : decode cX12_term 5 = .ok (.getfield 270, 3) := by decide +kernel
theorem dX12_term_8 : decode cX12_term 8 = .ok (.aload_n 0, 1) := by decide +kernel
theorem dX12_term_9 : decode cX12_term 9 = .ok (.getfield 273, 3) := by decide +kernel
theorem dX12_term_12 : decode cX12_term 12 = .ok (.iastore, 1) := by decide +kernel
theorem dX12_term_13 : decode cX12_term 13 = .ok (.aload_n 0, 1) := by decide +kernel
theorem dX12_term_14 : decode cX12_term 14 = .ok (.getfield 228, 3) := by decide +kernel
theorem dX12_term_17 : decode cX12_term 17 = .ok (.ifCond .ne 7, 3) := by decide +kernel
theorem dX12_term_20 : decode cX12_term 20 = .ok (.aload_n 0, 1) := by decide +kernel
theorem dX12_term_21 : decode cX12_term 21 = .ok (.invokevirtual 322, 3) := by decide +kernel
theorem dX12_term_24 : decode cX12_term 24 = .ok (.aload_n 0, 1) := by decide +kernel
theorem dX12_term_25 : decode cX12_term 25 = .ok (.getfield 110, 3) := by decide +kernel
theorem dX12_term_28 : decode cX12_term 28 = .ok (.aload_n 0, 1) := by decide +kernel
theorem dX12_term_29 : decode cX12_term 29 = .ok (.getfield 270, 3) := by decide +kernel
theorem dX12_term_32 : decode cX12_term 32 = .ok (.aload_n 0, 1) := by decide +kernel
theorem dX12_term_33 : decode cX12_term 33 = .ok (.getfield 273, 3) := by decide +kernel
theorem dX12_term_36 : decode cX12_term 36 = .ok (.iastore, 1) := by decide +kernel
theorem dX12_term_37 : decode cX12_term 37 = .ok (.aload_n 0, 1) := by decide +kernel
theorem dX12_term_38 : decode cX12_term 38 = .ok (.dup, 1) := by decide +kernel
theorem dX12_term_39 : decode cX12_term 39 = .ok (.getfield 270, 3) := by decide +kernel
theorem dX12_term_42 : decode cX12_term 42 = .ok (.iconst 1, 1) := by decide +kernel
theorem dX12_term_43 : decode cX12_term 43 = .ok (.iadd, 1) := by decide +kernel
theorem dX12_term_44 : decode cX12_term 44 = .ok (.putfield 270, 3) := by decide +kernel
theorem dX12_term_47 : decode cX12_term 47 = .ok (.return_, 1) := by decide +kernel
theorem dX12_emit_0 : decode cX12_emit 0 = .ok (.aload_n 0, 1) := by decide +kernel
theorem dX12_emit_1 : decode cX12_emit 1 = .ok (.getfield 113, 3) := by decide +kernel
theorem dX12_emit_4 : decode cX12_emit 4 = .ok (.aload_n 0, 1) := by decide +kernel
theorem dX12_emit_5 : decode cX12_emit 5 = .ok (.getfield 273, 3) := by decide +kernel
theorem dX12_emit_8 : decode cX12_emit 8 = .ok (.iload_n 1, 1) := by decide +kernel
theorem dX12_emit_9 : decode cX12_emit 9 = .ok (.iastore, 1) := by decide +kernel
theorem dX12_emit_10 : decode cX12_emit 10 = .ok (.aload_n 0, 1) := by decide +kernel
theorem dX12_emit_11 : decode cX12_emit 11 = .ok (.getfield 116, 3) := by decide +kernel
theorem dX12_emit_14 : decode cX12_emit 14 = .ok (.aload_n 0, 1) := by decide +kernel
theorem dX12_emit_15 : decode cX12_emit 15 = .ok (.getfield 273, 3) := by decide +kernel
theorem dX12_emit_18 : decode cX12_emit 18 = .ok (.iload_n 2, 1) := by decide +kernel
theorem dX12_emit_19 : decode cX12_emit 19 = .ok (.iastore, 1) := by decide +kernel
theorem dX12_emit_20 : decode cX12_emit 20 = .ok (.aload_n 0, 1) := by decide +kernel
theorem dX12_emit_21 : decode cX12_emit 21 = .ok (.dup, 1) := by decide +kernel
theorem dX12_emit_22 : decode cX12_emit 22 = .ok (.getfield 273, 3) := by decide +kernel
theorem dX12_emit_25 : decode cX12_emit 25 = .ok (.iconst 1, 1) := by decide +kernel
theorem dX12_emit_26 : decode cX12_emit 26 = .ok (.iadd, 1) := by decide +kernel
theorem dX12_emit_27 : decode cX12_emit 27 = .ok (.putfield 273, 3) := by decide +kernel
theorem dX12_emit_30 : decode cX12_emit 30 = .ok (.return_, 1) := by decide +kernel
theorem dX12_comesOut_0 : decode cX12_comesOut 0 = .ok (.aload_n 0, 1) := by decide +kernel
theorem dX12_comesOut_1 : decode cX12_comesOut 1 = .ok (.getfield 328, 3) := by decide +kernel
theorem dX12_comesOut_4 : decode cX12_comesOut 4 = .ok (.ifCond .le 87, 3) := by decide +kernel
theorem dX12_comesOut_7 : decode cX12_comesOut 7 = .ok (.aload_n 0, 1) := by decide +kernel
theorem dX12_comesOut_8 : decode cX12_comesOut 8 = .ok (.getfield 119, 3) := by decide +kernel
theorem dX12_comesOut_11 : decode cX12_comesOut 11 = .ok (.aload_n 0, 1) := by decide +kernel
theorem dX12_comesOut_12 : decode cX12_comesOut 12 = .ok (.getfield 328, 3) := by decide +kernel
theorem dX12_comesOut_15 : decode cX12_comesOut 15 = .ok (.iconst 1, 1) := by decide +kernel
theorem dX12_comesOut_16 : decode cX12_comesOut 16 = .ok (.isub, 1) := by decide +kernel
theorem dX12_comesOut_17 : decode cX12_comesOut 17 = .ok (.iaload, 1) := by decide +kernel
theorem dX12_comesOut_18 : decode cX12_comesOut 18 = .ok (.istore_n 2, 1) := by decide +kernel
theorem dX12_comesOut_19 : decode cX12_comesOut 19 = .ok (.iload_n 2, 1) := by decide +kernel
theorem dX12_comesOut_20 : decode cX12_comesOut 20 = .ok (.bipush 6, 2) := by decide +kernel
theorem dX12_comesOut_22 : decode cX12_comesOut 22 = .ok (.if_icmp .eq 19, 3) := by decide +kernel
theorem dX12_comesOut_25 : decode cX12_comesOut 25 = .ok (.iload_n 1, 1) := by decide +kernel
theorem dX12_comesOut_26 : decode cX12_comesOut 26 = .ok (.ifCond .eq 16, 3) := by decide +kernel
theorem dX12_comesOut_29 : decode cX12_comesOut 29 = .ok (.iload_n 2, 1) := by decide +kernel
theorem dX12_comesOut_30 : decode cX12_comesOut 30 = .ok (.bipush 8, 2) := by decide +kernel
theorem dX12_comesOut_32 : decode cX12_comesOut 32 = .ok (.if_icmp .eq 9, 3) := by decide +kernel
theorem dX12_comesOut_35 : decode cX12_comesOut 35 = .ok (.iload_n 2, 1) := by decide +kernel
theorem dX12_comesOut_36 : decode cX12_comesOut 36 = .ok (.bipush 9, 2) := by decide +kernel
theorem dX12_comesOut_38 : decode cX12_comesOut 38 = .ok (.if_icmp .ne 4, 3) := by decide +kernel
theorem dX12_comesOut_41 : decode cX12_comesOut 41 = .ok (.return_, 1) := by decide +kernel
theorem dX12_comesOut_42 : decode cX12_comesOut 42 = .ok (.aload_n 0, 1) := by decide +kernel
theorem dX12_comesOut_43 : decode cX12_comesOut 43 = .ok (.dup, 1) := by decide +kernel
theorem dX12_comesOut_44 : decode cX12_comesOut 44 = .ok (.getfield 328, 3) := by decide +kernel
theorem dX12_comesOut_47 : decode cX12_comesOut 47 = .ok (.iconst 1, 1) := by decide +kernel
theorem dX12_comesOut_48 : decode cX12_comesOut 48 = .ok (.isub, 1) := by decide +kernel
theorem dX12_comesOut_49 : decode cX12_comesOut 49 = .ok (.putfield 328, 3) := by decide +kernel
theorem dX12_comesOut_52 : decode cX12_comesOut 52 = .ok (.aload_n 0, 1) := by decide +kernel
theorem dX12_comesOut_53 : decode cX12_comesOut 53 = .ok (.iload_n 2, 1) := by decide +kernel
theorem dX12_comesOut_54 : decode cX12_comesOut 54 = .ok (.bipush 8, 2) := by decide +kernel
theorem dX12_comesOut_56 : decode cX12_comesOut 56 = .ok (.if_icmp .ne 7, 3) := by decide +kernel
theorem dX12_comesOut_59 : decode cX12_comesOut 59 = .ok (.iconst 2, 1) := by decide +kernel
theorem dX12_comesOut_60 : decode cX12_comesOut 60 = .ok (.goto 24, 3) := by decide +kernel
theorem dX12_comesOut_63 : decode cX12_comesOut 63 = .ok (.iload_n 2, 1) := by decide +kernel
theorem dX12_comesOut_64 : decode cX12_comesOut 64 = .ok (.bipush 9, 2) := by decide +kernel
theorem dX12_comesOut_66 : decode cX12_comesOut 66 = .ok (.if_icmp .ne 7, 3) := by decide +kernel
theorem dX12_comesOut_69 : decode cX12_comesOut 69 = .ok (.iconst 3, 1) := by decide +kernel
theorem dX12_comesOut_70 : decode cX12_comesOut 70 = .ok (.goto 14, 3) := by decide +kernel
theorem dX12_comesOut_73 : decode cX12_comesOut 73 = .ok (.iload_n 2, 1) := by decide +kernel
theorem dX12_comesOut_74 : decode cX12_comesOut 74 = .ok (.bipush 10, 2) := by decide +kernel
theorem dX12_comesOut_76 : decode cX12_comesOut 76 = .ok (.if_icmp .ne 7, 3) := by decide +kernel
theorem dX12_comesOut_79 : decode cX12_comesOut 79 = .ok (.iconst 4, 1) := by decide +kernel
theorem dX12_comesOut_80 : decode cX12_comesOut 80 = .ok (.goto 4, 3) := by decide +kernel
theorem dX12_comesOut_83 : decode cX12_comesOut 83 = .ok (.iconst 5, 1) := by decide +kernel
theorem dX12_comesOut_84 : decode cX12_comesOut 84 = .ok (.iconst 0, 1) := by decide +kernel
theorem dX12_comesOut_85 : decode cX12_comesOut 85 = .ok (.invokevirtual 331, 3) := by decide +kernel
theorem dX12_comesOut_88 : decode cX12_comesOut 88 = .ok (.goto (-88), 3) := by decide +kernel
theorem dX12_comesOut_91 : decode cX12_comesOut 91 = .ok (.return_, 1) := by decide +kernel
theorem dX12_expression_0 : decode cX12_expression 0 = .ok (.aload_n 0, 1) := by decide +kernel
theorem dX12_expression_1 : decode cX12_expression 1 = .ok (.iconst 0, 1) := by decide +kernel
theorem dX12_expression_2 : decode cX12_expression 2 = .ok (.putfield 328, 3) := by decide +kernel
theorem dX12_expression_5 : decode cX12_expression 5 = .ok (.aload_n 0, 1) := by decide +kernel
theorem dX12_expression_6 : decode cX12_expression 6 = .ok (.getfield 255, 3) := by decide +kernel
theorem dX12_expression_9 : decode cX12_expression 9 = .ok (.istore_n 1, 1) := by decide +kernel
theorem dX12_expression_10 : decode cX12_expression 10 = .ok (.iconst 1, 1) := by decide +kernel
theorem dX12_expression_11 : decode cX12_expression 11 = .ok (.istore_n 2, 1) := by decide +kernel
theorem dX12_expression_12 : decode cX12_expression 12 = .ok (.iload_n 2, 1) := by decide +kernel
theorem dX12_expression_13 : decode cX12_expression 13 = .ok (.ifCond .eq 259, 3) := by decide +kernel
theorem dX12_expression_16 : decode cX12_expression 16 = .ok (.aload_n 0, 1) := by decide +kernel
theorem dX12_expression_17 : decode cX12_expression 17 = .ok (.getfield 228, 3) := by decide +kernel
theorem dX12_expression_20 : decode cX12_expression 20 = .ok (.ifCond .ne 252, 3) := by decide +kernel
theorem dX12_expression_23 : decode cX12_expression 23 = .ok (.aload_n 0, 1) := by decide +kernel
theorem dX12_expression_24 : decode cX12_expression 24 = .ok (.bipush 6, 2) := by decide +kernel
theorem dX12_expression_26 : decode cX12_expression 26 = .ok (.invokevirtual 246, 3) := by decide +kernel
theorem dX12_expression_29 : decode cX12_expression 29 = .ok (.ifCond .eq 55, 3) := by decide +kernel
theorem dX12_expression_32 : decode cX12_expression 32 = .ok (.aload_n 0, 1) := by decide +kernel
theorem dX12_expression_33 : decode cX12_expression 33 = .ok (.getfield 255, 3) := by decide +kernel
theorem dX12_expression_36 : decode cX12_expression 36 = .ok (.bipush 6, 2) := by decide +kernel
theorem dX12_expression_38 : decode cX12_expression 38 = .ok (.if_icmp .ne 8, 3) := by decide +kernel
theorem dX12_expression_41 : decode cX12_expression 41 = .ok (.aload_n 0, 1) := by decide +kernel
theorem dX12_expression_42 : decode cX12_expression 42 = .ok (.iconst 2, 1) := by decide +kernel
theorem dX12_expression_43 : decode cX12_expression 43 = .ok (.invokevirtual 243, 3) := by decide +kernel
theorem dX12_expression_46 : decode cX12_expression 46 = .ok (.aload_n 0, 1) := by decide +kernel
theorem dX12_expression_47 : decode cX12_expression 47 = .ok (.dup, 1) := by decide +kernel
theorem dX12_expression_48 : decode cX12_expression 48 = .ok (.getfield 255, 3) := by decide +kernel
theorem dX12_expression_51 : decode cX12_expression 51 = .ok (.iconst 1, 1) := by decide +kernel
theorem dX12_expression_52 : decode cX12_expression 52 = .ok (.iadd, 1) := by decide +kernel
theorem dX12_expression_53 : decode cX12_expression 53 = .ok (.putfield 255, 3) := by decide +kernel
theorem dX12_expression_56 : decode cX12_expression 56 = .ok (.aload_n 0, 1) := by decide +kernel
theorem dX12_expression_57 : decode cX12_expression 57 = .ok (.invokevirtual 249, 3) := by decide +kernel
theorem dX12_expression_60 : decode cX12_expression 60 = .ok (.aload_n 0, 1) := by decide +kernel
theorem dX12_expression_61 : decode cX12_expression 61 = .ok (.getfield 119, 3) := by decide +kernel
theorem dX12_expression_64 : decode cX12_expression 64 = .ok (.aload_n 0, 1) := by decide +kernel
theorem dX12_expression_65 : decode cX12_expression 65 = .ok (.getfield 328, 3) := by decide +kernel
theorem dX12_expression_68 : decode cX12_expression 68 = .ok (.bipush 6, 2) := by decide +kernel
theorem dX12_expression_70 : decode cX12_expression 70 = .ok (.iastore, 1) := by decide +kernel
theorem dX12_expression_71 : decode cX12_expression 71 = .ok (.aload_n 0, 1) := by decide +kernel
theorem dX12_expression_72 : decode cX12_expression 72 = .ok (.dup, 1) := by decide +kernel
theorem dX12_expression_73 : decode cX12_expression 73 = .ok (.getfield 328, 3) := by decide +kernel
theorem dX12_expression_76 : decode cX12_expression 76 = .ok (.iconst 1, 1) := by decide +kernel
theorem dX12_expression_77 : decode cX12_expression 77 = .ok (.iadd, 1) := by decide +kernel
theorem dX12_expression_78 : decode cX12_expression 78 = .ok (.putfield 328, 3) := by decide +kernel
theorem dX12_expression_81 : decode cX12_expression 81 = .ok (.goto (-58), 3) := by decide +kernel
theorem dX12_expression_84 : decode cX12_expression 84 = .ok (.aload_n 0, 1) := by decide +kernel
theorem dX12_expression_85 : decode cX12_expression 85 = .ok (.invokevirtual 334, 3) := by decide +kernel
theorem dX12_expression_88 : decode cX12_expression 88 = .ok (.aload_n 0, 1) := by decide +kernel
theorem dX12_expression_89 : decode cX12_expression 89 = .ok (.getfield 228, 3) := by decide +kernel
theorem dX12_expression_92 : decode cX12_expression 92 = .ok (.ifCond .le 4, 3) := by decide +kernel
theorem dX12_expression_95 : decode cX12_expression 95 = .ok (.return_, 1) := by decide +kernel
theorem dX12_expression_96 : decode cX12_expression 96 = .ok (.aload_n 0, 1) := by decide +kernel
theorem dX12_expression_97 : decode cX12_expression 97 = .ok (.bipush 7, 2) := by decide +kernel
theorem dX12_expression_99 : decode cX12_expression 99 = .ok (.invokevirtual 246, 3) := by decide +kernel
theorem dX12_expression_102 : decode cX12_expression 102 = .ok (.ifCond .eq 43, 3) := by decide +kernel
theorem dX12_expression_105 : decode cX12_expression 105 = .ok (.aload_n 0, 1) := by decide +kernel
theorem dX12_expression_106 : decode cX12_expression 106 = .ok (.getfield 255, 3) := by decide +kernel
theorem dX12_expression_109 : decode cX12_expression 109 = .ok (.iload_n 1, 1) := by decide +kernel
theorem dX12_expression_110 : decode cX12_expression 110 = .ok (.if_icmp .le 35, 3) := by decide +kernel
theorem dX12_expression_113 : decode cX12_expression 113 = .ok (.aload_n 0, 1) := by decide +kernel
theorem dX12_expression_114 : decode cX12_expression 114 = .ok (.iconst 0, 1) := by decide +kernel
theorem dX12_expression_115 : decode cX12_expression 115 = .ok (.invokevirtual 337, 3) := by decide +kernel
theorem dX12_expression_118 : decode cX12_expression 118 = .ok (.aload_n 0, 1) := by decide +kernel
theorem dX12_expression_119 : decode cX12_expression 119 = .ok (.dup, 1) := by decide +kernel
theorem dX12_expression_120 : decode cX12_expression 120 = .ok (.getfield 328, 3) := by decide +kernel
theorem dX12_expression_123 : decode cX12_expression 123 = .ok (.iconst 1, 1) := by decide +kernel
theorem dX12_expression_124 : decode cX12_expression 124 = .ok (.isub, 1) := by decide +kernel
theorem dX12_expression_125 : decode cX12_expression 125 = .ok (.putfield 328, 3) := by decide +kernel
theorem dX12_expression_128 : decode cX12_expression 128 = .ok (.aload_n 0, 1) := by decide +kernel
theorem dX12_expression_129 : decode cX12_expression 129 = .ok (.dup, 1) := by decide +kernel
theorem dX12_expression_130 : decode cX12_expression 130 = .ok (.getfield 255, 3) := by decide +kernel
theorem dX12_expression_133 : decode cX12_expression 133 = .ok (.iconst 1, 1) := by decide +kernel
theorem dX12_expression_134 : decode cX12_expression 134 = .ok (.isub, 1) := by decide +kernel
theorem dX12_expression_135 : decode cX12_expression 135 = .ok (.putfield 255, 3) := by decide +kernel
theorem dX12_expression_138 : decode cX12_expression 138 = .ok (.aload_n 0, 1) := by decide +kernel
theorem dX12_expression_139 : decode cX12_expression 139 = .ok (.invokevirtual 249, 3) := by decide +kernel
theorem dX12_expression_142 : decode cX12_expression 142 = .ok (.goto (-46), 3) := by decide +kernel
theorem dX12_expression_145 : decode cX12_expression 145 = .ok (.aload_n 0, 1) := by decide +kernel
theorem dX12_expression_146 : decode cX12_expression 146 = .ok (.bipush 8, 2) := by decide +kernel
theorem dX12_expression_148 : decode cX12_expression 148 = .ok (.invokevirtual 246, 3) := by decide +kernel
theorem dX12_expression_151 : decode cX12_expression 151 = .ok (.ifCond .ne 30, 3) := by decide +kernel
theorem dX12_expression_154 : decode cX12_expression 154 = .ok (.aload_n 0, 1) := by decide +kernel
theorem dX12_expression_155 : decode cX12_expression 155 = .ok (.bipush 9, 2) := by decide +kernel
theorem dX12_expression_157 : decode cX12_expression 157 = .ok (.invokevirtual 246, 3) := by decide +kernel
theorem dX12_expression_160 : decode cX12_expression 160 = .ok (.ifCond .ne 21, 3) := by decide +kernel
theorem dX12_expression_163 : decode cX12_expression 163 = .ok (.aload_n 0, 1) := by decide +kernel
theorem dX12_expression_164 : decode cX12_expression 164 = .ok (.bipush 10, 2) := by decide +kernel
theorem dX12_expression_166 : decode cX12_expression 166 = .ok (.invokevirtual 246, 3) := by decide +kernel
theorem dX12_expression_169 : decode cX12_expression 169 = .ok (.ifCond .ne 12, 3) := by decide +kernel
theorem dX12_expression_172 : decode cX12_expression 172 = .ok (.aload_n 0, 1) := by decide +kernel
theorem dX12_expression_173 : decode cX12_expression 173 = .ok (.bipush 15, 2) := by decide +kernel
theorem dX12_expression_175 : decode cX12_expression 175 = .ok (.invokevirtual 246, 3) := by decide +kernel
theorem dX12_expression_178 : decode cX12_expression 178 = .ok (.ifCond .eq 7, 3) := by decide +kernel
theorem dX12_expression_181 : decode cX12_expression 181 = .ok (.iconst 1, 1) := by decide +kernel
theorem dX12_expression_182 : decode cX12_expression 182 = .ok (.goto 4, 3) := by decide +kernel
theorem dX12_expression_185 : decode cX12_expression 185 = .ok (.iconst 0, 1) := by decide +kernel
theorem dX12_expression_186 : decode cX12_expression 186 = .ok (.istore_n 2, 1) := by decide +kernel
theorem dX12_expression_187 : decode cX12_expression 187 = .ok (.iload_n 2, 1) := by decide +kernel
theorem dX12_expression_188 : decode cX12_expression 188 = .ok (.ifCond .ne 22, 3) := by decide +kernel
theorem dX12_expression_191 : decode cX12_expression 191 = .ok (.aload_n 0, 1) := by decide +kernel
theorem dX12_expression_192 : decode cX12_expression 192 = .ok (.getfield 255, 3) := by decide +kernel
theorem dX12_expression_195 : decode cX12_expression 195 = .ok (.iload_n 1, 1) := by decide +kernel
theorem dX12_expression_196 : decode cX12_expression 196 = .ok (.if_icmp .le 8, 3) := by decide +kernel
theorem dX12_expression_199 : decode cX12_expression 199 = .ok (.aload_n 0, 1) := by decide +kernel
theorem dX12_expression_200 : decode cX12_expression 200 = .ok (.iconst 1, 1) := by decide +kernel
theorem dX12_expression_201 : decode cX12_expression 201 = .ok (.invokevirtual 243, 3) := by decide +kernel
theorem dX12_expression_204 : decode cX12_expression 204 = .ok (.aload_n 0, 1) := by decide +kernel
theorem dX12_expression_205 : decode cX12_expression 205 = .ok (.iconst 0, 1) := by decide +kernel
theorem dX12_expression_206 : decode cX12_expression 206 = .ok (.invokevirtual 337, 3) := by decide +kernel
theorem dX12_expression_209 : decode cX12_expression 209 = .ok (.return_, 1) := by decide +kernel
theorem dX12_expression_210 : decode cX12_expression 210 = .ok (.aload_n 0, 1) := by decide +kernel
theorem dX12_expression_211 : decode cX12_expression 211 = .ok (.aload_n 0, 1) := by decide +kernel
theorem dX12_expression_212 : decode cX12_expression 212 = .ok (.bipush 10, 2) := by decide +kernel
theorem dX12_expression_214 : decode cX12_expression 214 = .ok (.invokevirtual 246, 3) := by decide +kernel
theorem dX12_expression_217 : decode cX12_expression 217 = .ok (.ifCond .ne 12, 3) := by decide +kernel
theorem dX12_expression_220 : decode cX12_expression 220 = .ok (.aload_n 0, 1) := by decide +kernel
theorem dX12_expression_221 : decode cX12_expression 221 = .ok (.bipush 15, 2) := by decide +kernel
theorem dX12_expression_223 : decode cX12_expression 223 = .ok (.invokevirtual 246, 3) := by decide +kernel
theorem dX12_expression_226 : decode cX12_expression 226 = .ok (.ifCond .eq 7, 3) := by decide +kernel
theorem dX12_expression_229 : decode cX12_expression 229 = .ok (.iconst 1, 1) := by decide +kernel
theorem dX12_expression_230 : decode cX12_expression 230 = .ok (.goto 4, 3) := by decide +kernel
theorem dX12_expression_233 : decode cX12_expression 233 = .ok (.iconst 0, 1) := by decide +kernel
theorem dX12_expression_234 : decode cX12_expression 234 = .ok (.invokevirtual 337, 3) := by decide +kernel
theorem dX12_expression_237 : decode cX12_expression 237 = .ok (.aload_n 0, 1) := by decide +kernel
theorem dX12_expression_238 : decode cX12_expression 238 = .ok (.getfield 119, 3) := by decide +kernel
theorem dX12_expression_241 : decode cX12_expression 241 = .ok (.aload_n 0, 1) := by decide +kernel
theorem dX12_expression_242 : decode cX12_expression 242 = .ok (.getfield 328, 3) := by decide +kernel
theorem dX12_expression_245 : decode cX12_expression 245 = .ok (.aload_n 0, 1) := by decide +kernel
theorem dX12_expression_246 : decode cX12_expression 246 = .ok (.getfield 20, 3) := by decide +kernel
theorem dX12_expression_249 : decode cX12_expression 249 = .ok (.aload_n 0, 1) := by decide +kernel
theorem dX12_expression_250 : decode cX12_expression 250 = .ok (.getfield 231, 3) := by decide +kernel
theorem dX12_expression_253 : decode cX12_expression 253 = .ok (.iaload, 1) := by decide +kernel
theorem dX12_expression_254 : decode cX12_expression 254 = .ok (.iastore, 1) := by decide +kernel
theorem dX12_expression_255 : decode cX12_expression 255 = .ok (.aload_n 0, 1) := by decide +kernel
theorem dX12_expression_256 : decode cX12_expression 256 = .ok (.dup, 1) := by decide +kernel
theorem dX12_expression_257 : decode cX12_expression 257 = .ok (.getfield 328, 3) := by decide +kernel
theorem dX12_expression_260 : decode cX12_expression 260 = .ok (.iconst 1, 1) := by decide +kernel
theorem dX12_expression_261 : decode cX12_expression 261 = .ok (.iadd, 1) := by decide +kernel
theorem dX12_expression_262 : decode cX12_expression 262 = .ok (.putfield 328, 3) := by decide +kernel
theorem dX12_expression_265 : decode cX12_expression 265 = .ok (.aload_n 0, 1) := by decide +kernel
theorem dX12_expression_266 : decode cX12_expression 266 = .ok (.invokevirtual 249, 3) := by decide +kernel
theorem dX12_expression_269 : decode cX12_expression 269 = .ok (.goto (-257), 3) := by decide +kernel
theorem dX12_expression_272 : decode cX12_expression 272 = .ok (.return_, 1) := by decide +kernel
theorem dX12_unit_0 : decode cX12_unit 0 = .ok (.aload_n 0, 1) := by decide +kernel
theorem dX12_unit_1 : decode cX12_unit 1 = .ok (.iconst 2, 1) := by decide +kernel
theorem dX12_unit_2 : decode cX12_unit 2 = .ok (.invokevirtual 246, 3) := by decide +kernel
theorem dX12_unit_5 : decode cX12_unit 5 = .ok (.ifCond .eq 24, 3) := by decide +kernel
theorem dX12_unit_8 : decode cX12_unit 8 = .ok (.aload_n 0, 1) := by decide +kernel
theorem dX12_unit_9 : decode cX12_unit 9 = .ok (.iconst 0, 1) := by decide +kernel
theorem dX12_unit_10 : decode cX12_unit 10 = .ok (.aload_n 0, 1) := by decide +kernel
theorem dX12_unit_11 : decode cX12_unit 11 = .ok (.getfield 27, 3) := by decide +kernel
theorem dX12_unit_14 : decode cX12_unit 14 = .ok (.aload_n 0, 1) := by decide +kernel
theorem dX12_unit_15 : decode cX12_unit 15 = .ok (.getfield 231, 3) := by decide +kernel
theorem dX12_unit_18 : decode cX12_unit 18 = .ok (.iaload, 1) := by decide +kernel
theorem dX12_unit_19 : decode cX12_unit 19 = .ok (.invokevirtual 331, 3) := by decide +kernel
theorem dX12_unit_22 : decode cX12_unit 22 = .ok (.aload_n 0, 1) := by decide +kernel
theorem dX12_unit_23 : decode cX12_unit 23 = .ok (.invokevirtual 249, 3) := by decide +kernel
theorem dX12_unit_26 : decode cX12_unit 26 = .ok (.goto 67, 3) := by decide +kernel
theorem dX12_unit_29 : decode cX12_unit 29 = .ok (.aload_n 0, 1) := by decide +kernel
theorem dX12_unit_30 : decode cX12_unit 30 = .ok (.getfield 228, 3) := by decide +kernel
theorem dX12_unit_33 : decode cX12_unit 33 = .ok (.ifCond .ne 55, 3) := by decide +kernel
theorem dX12_unit_36 : decode cX12_unit 36 = .ok (.aload_n 0, 1) := by decide +kernel
theorem dX12_unit_37 : decode cX12_unit 37 = .ok (.getfield 20, 3) := by decide +kernel
theorem dX12_unit_40 : decode cX12_unit 40 = .ok (.aload_n 0, 1) := by decide +kernel
theorem dX12_unit_41 : decode cX12_unit 41 = .ok (.getfield 231, 3) := by decide +kernel
theorem dX12_unit_44 : decode cX12_unit 44 = .ok (.iaload, 1) := by decide +kernel
theorem dX12_unit_45 : decode cX12_unit 45 = .ok (.bipush 31, 2) := by decide +kernel
theorem dX12_unit_47 : decode cX12_unit 47 = .ok (.if_icmp .lt 41, 3) := by decide +kernel
theorem dX12_unit_50 : decode cX12_unit 50 = .ok (.aload_n 0, 1) := by decide +kernel
theorem dX12_unit_51 : decode cX12_unit 51 = .ok (.getfield 20, 3) := by decide +kernel
theorem dX12_unit_54 : decode cX12_unit 54 = .ok (.aload_n 0, 1) := by decide +kernel
theorem dX12_unit_55 : decode cX12_unit 55 = .ok (.getfield 231, 3) := by decide +kernel
theorem dX12_unit_58 : decode cX12_unit 58 = .ok (.iaload, 1) := by decide +kernel
theorem dX12_unit_59 : decode cX12_unit 59 = .ok (.bipush 36, 2) := by decide +kernel
theorem dX12_unit_61 : decode cX12_unit 61 = .ok (.if_icmp .gt 27, 3) := by decide +kernel
theorem dX12_unit_64 : decode cX12_unit 64 = .ok (.aload_n 0, 1) := by decide +kernel
theorem dX12_unit_65 : decode cX12_unit 65 = .ok (.iconst 1, 1) := by decide +kernel
theorem dX12_unit_66 : decode cX12_unit 66 = .ok (.aload_n 0, 1) := by decide +kernel
theorem dX12_unit_67 : decode cX12_unit 67 = .ok (.getfield 20, 3) := by decide +kernel
theorem dX12_unit_70 : decode cX12_unit 70 = .ok (.aload_n 0, 1) := by decide +kernel
theorem dX12_unit_71 : decode cX12_unit 71 = .ok (.getfield 231, 3) := by decide +kernel
theorem dX12_unit_74 : decode cX12_unit 74 = .ok (.iaload, 1) := by decide +kernel
theorem dX12_unit_75 : decode cX12_unit 75 = .ok (.bipush 31, 2) := by decide +kernel
theorem dX12_unit_77 : decode cX12_unit 77 = .ok (.isub, 1) := by decide +kernel
theorem dX12_unit_78 : decode cX12_unit 78 = .ok (.invokevirtual 331, 3) := by decide +kernel
theorem dX12_unit_81 : decode cX12_unit 81 = .ok (.aload_n 0, 1) := by decide +kernel
theorem dX12_unit_82 : decode cX12_unit 82 = .ok (.invokevirtual 249, 3) := by decide +kernel
theorem dX12_unit_85 : decode cX12_unit 85 = .ok (.goto 8, 3) := by decide +kernel
theorem dX12_unit_88 : decode cX12_unit 88 = .ok (.aload_n 0, 1) := by decide +kernel
theorem dX12_unit_89 : decode cX12_unit 89 = .ok (.iconst 1, 1) := by decide +kernel
theorem dX12_unit_90 : decode cX12_unit 90 = .ok (.invokevirtual 243, 3) := by decide +kernel
theorem dX12_unit_93 : decode cX12_unit 93 = .ok (.return_, 1) := by decide +kernel
theorem dX12_termOf_0 : decode cX12_termOf 0 = .ok (.iconst 0, 1) := by decide +kernel
theorem dX12_termOf_1 : decode cX12_termOf 1 = .ok (.istore_n 3, 1) := by decide +kernel
theorem dX12_termOf_2 : decode cX12_termOf 2 = .ok (.iload_n 1, 1) := by decide +kernel
theorem dX12_termOf_3 : decode cX12_termOf 3 = .ok (.istore 4, 2) := by decide +kernel
theorem dX12_termOf_5 : decode cX12_termOf 5 = .ok (.iload 4, 2) := by decide +kernel
theorem dX12_termOf_7 : decode cX12_termOf 7 = .ok (.iload_n 2, 1) := by decide +kernel
theorem dX12_termOf_8 : decode cX12_termOf 8 = .ok (.if_icmp .ge 157, 3) := by decide +kernel
theorem dX12_termOf_11 : decode cX12_termOf 11 = .ok (.aload_n 0, 1) := by decide +kernel
theorem dX12_termOf_12 : decode cX12_termOf 12 = .ok (.getfield 113, 3) := by decide +kernel
theorem dX12_termOf_15 : decode cX12_termOf 15 = .ok (.iload 4, 2) := by decide +kernel
theorem dX12_termOf_17 : decode cX12_termOf 17 = .ok (.iaload, 1) := by decide +kernel
theorem dX12_termOf_18 : decode cX12_termOf 18 = .ok (.istore 5, 2) := by decide +kernel
theorem dX12_termOf_20 : decode cX12_termOf 20 = .ok (.iload 5, 2) := by decide +kernel
theorem dX12_termOf_22 : decode cX12_termOf 22 = .ok (.iconst 2, 1) := by decide +kernel
theorem dX12_termOf_23 : decode cX12_termOf 23 = .ok (.if_icmp .ge 42, 3) := by decide +kernel
theorem dX12_termOf_26 : decode cX12_termOf 26 = .ok (.aload_n 0, 1) := by decide +kernel
theorem dX12_termOf_27 : decode cX12_termOf 27 = .ok (.getfield 125, 3) := by decide +kernel
theorem dX12_termOf_30 : decode cX12_termOf 30 = .ok (.iload_n 3, 1) := by decide +kernel
theorem dX12_termOf_31 : decode cX12_termOf 31 = .ok (.iload 5, 2) := by decide +kernel
theorem dX12_termOf_33 : decode cX12_termOf 33 = .ok (.ifCond .ne 13, 3) := by decide +kernel
theorem dX12_termOf_36 : decode cX12_termOf 36 = .ok (.aload_n 0, 1) := by decide +kernel
theorem dX12_termOf_37 : decode cX12_termOf 37 = .ok (.getfield 116, 3) := by decide +kernel
theorem dX12_termOf_40 : decode cX12_termOf 40 = .ok (.iload 4, 2) := by decide +kernel
theorem dX12_termOf_42 : decode cX12_termOf 42 = .ok (.iaload, 1) := by decide +kernel
theorem dX12_termOf_43 : decode cX12_termOf 43 = .ok (.goto 15, 3) := by decide +kernel
theorem dX12_termOf_46 : decode cX12_termOf 46 = .ok (.aload_n 0, 1) := by decide +kernel
theorem dX12_termOf_47 : decode cX12_termOf 47 = .ok (.getfield 122, 3) := by decide +kernel
theorem dX12_termOf_50 : decode cX12_termOf 50 = .ok (.aload_n 0, 1) := by decide +kernel
theorem dX12_termOf_51 : decode cX12_termOf 51 = .ok (.getfield 116, 3) := by decide +kernel
theorem dX12_termOf_54 : decode cX12_termOf 54 = .ok (.iload 4, 2) := by decide +kernel
theorem dX12_termOf_56 : decode cX12_termOf 56 = .ok (.iaload, 1) := by decide +kernel
theorem dX12_termOf_57 : decode cX12_termOf 57 = .ok (.iaload, 1) := by decide +kernel
theorem dX12_termOf_58 : decode cX12_termOf 58 = .ok (.iastore, 1) := by decide +kernel
theorem dX12_termOf_59 : decode cX12_termOf 59 = .ok (.iinc 3 1, 3) := by decide +kernel
theorem dX12_termOf_62 : decode cX12_termOf 62 = .ok (.goto 97, 3) := by decide +kernel
theorem dX12_termOf_65 : decode cX12_termOf 65 = .ok (.iinc 3 (-1), 3) := by decide +kernel
theorem dX12_termOf_68 : decode cX12_termOf 68 = .ok (.aload_n 0, 1) := by decide +kernel
theorem dX12_termOf_69 : decode cX12_termOf 69 = .ok (.getfield 125, 3) := by decide +kernel
theorem dX12_termOf_72 : decode cX12_termOf 72 = .ok (.iload_n 3, 1) := by decide +kernel
theorem dX12_termOf_73 : decode cX12_termOf 73 = .ok (.iconst 1, 1) := by decide +kernel
theorem dX12_termOf_74 : decode cX12_termOf 74 = .ok (.isub, 1) := by decide +kernel
theorem dX12_termOf_75 : decode cX12_termOf 75 = .ok (.iaload, 1) := by decide +kernel
theorem dX12_termOf_76 : decode cX12_termOf 76 = .ok (.istore 6, 2) := by decide +kernel
theorem dX12_termOf_78 : decode cX12_termOf 78 = .ok (.aload_n 0, 1) := by decide +kernel
theorem dX12_termOf_79 : decode cX12_termOf 79 = .ok (.getfield 125, 3) := by decide +kernel
theorem dX12_termOf_82 : decode cX12_termOf 82 = .ok (.iload_n 3, 1) := by decide +kernel
theorem dX12_termOf_83 : decode cX12_termOf 83 = .ok (.iaload, 1) := by decide +kernel
theorem dX12_termOf_84 : decode cX12_termOf 84 = .ok (.istore 7, 2) := by decide +kernel
theorem dX12_termOf_86 : decode cX12_termOf 86 = .ok (.iload 5, 2) := by decide +kernel
theorem dX12_termOf_88 : decode cX12_termOf 88 = .ok (.iconst 5, 1) := by decide +kernel
theorem dX12_termOf_89 : decode cX12_termOf 89 = .ok (.if_icmp .ne 15, 3) := by decide +kernel
theorem dX12_termOf_92 : decode cX12_termOf 92 = .ok (.iload 7, 2) := by decide +kernel
theorem dX12_termOf_94 : decode cX12_termOf 94 = .ok (.ifCond .ne 10, 3) := by decide +kernel
theorem dX12_termOf_97 : decode cX12_termOf 97 = .ok (.aload_n 0, 1) := by decide +kernel
theorem dX12_termOf_98 : decode cX12_termOf 98 = .ok (.iconst 1, 1) := by decide +kernel
theorem dX12_termOf_99 : decode cX12_termOf 99 = .ok (.putfield 341, 3) := by decide +kernel
theorem dX12_termOf_102 : decode cX12_termOf 102 = .ok (.iconst 0, 1) := by decide +kernel
theorem dX12_termOf_103 : decode cX12_termOf 103 = .ok (.ireturn, 1) := by decide +kernel
theorem dX12_termOf_104 : decode cX12_termOf 104 = .ok (.aload_n 0, 1) := by decide +kernel
theorem dX12_termOf_105 : decode cX12_termOf 105 = .ok (.getfield 125, 3) := by decide +kernel
theorem dX12_termOf_108 : decode cX12_termOf 108 = .ok (.iload_n 3, 1) := by decide +kernel
theorem dX12_termOf_109 : decode cX12_termOf 109 = .ok (.iconst 1, 1) := by decide +kernel
theorem dX12_termOf_110 : decode cX12_termOf 110 = .ok (.isub, 1) := by decide +kernel
theorem dX12_termOf_111 : decode cX12_termOf 111 = .ok (.iload 5, 2) := by decide +kernel
theorem dX12_termOf_113 : decode cX12_termOf 113 = .ok (.iconst 2, 1) := by decide +kernel
theorem dX12_termOf_114 : decode cX12_termOf 114 = .ok (.if_icmp .ne 11, 3) := by decide +kernel
theorem dX12_termOf_117 : decode cX12_termOf 117 = .ok (.iload 6, 2) := by decide +kernel
theorem dX12_termOf_119 : decode cX12_termOf 119 = .ok (.iload 7, 2) := by decide +kernel
theorem dX12_termOf_121 : decode cX12_termOf 121 = .ok (.iadd, 1) := by decide +kernel
theorem dX12_termOf_122 : decode cX12_termOf 122 = .ok (.goto 36, 3) := by decide +kernel
theorem dX12_termOf_125 : decode cX12_termOf 125 = .ok (.iload 5, 2) := by decide +kernel
theorem dX12_termOf_127 : decode cX12_termOf 127 = .ok (.iconst 3, 1) := by decide +kernel
theorem dX12_termOf_128 : decode cX12_termOf 128 = .ok (.if_icmp .ne 11, 3) := by decide +kernel
theorem dX12_termOf_131 : decode cX12_termOf 131 = .ok (.iload 6, 2) := by decide +kernel
theorem dX12_termOf_133 : decode cX12_termOf 133 = .ok (.iload 7, 2) := by decide +kernel
theorem dX12_termOf_135 : decode cX12_termOf 135 = .ok (.isub, 1) := by decide +kernel
theorem dX12_termOf_136 : decode cX12_termOf 136 = .ok (.goto 22, 3) := by decide +kernel
theorem dX12_termOf_139 : decode cX12_termOf 139 = .ok (.iload 5, 2) := by decide +kernel
theorem dX12_termOf_141 : decode cX12_termOf 141 = .ok (.iconst 4, 1) := by decide +kernel
theorem dX12_termOf_142 : decode cX12_termOf 142 = .ok (.if_icmp .ne 11, 3) := by decide +kernel
theorem dX12_termOf_145 : decode cX12_termOf 145 = .ok (.iload 6, 2) := by decide +kernel
theorem dX12_termOf_147 : decode cX12_termOf 147 = .ok (.iload 7, 2) := by decide +kernel
theorem dX12_termOf_149 : decode cX12_termOf 149 = .ok (.imul, 1) := by decide +kernel
theorem dX12_termOf_150 : decode cX12_termOf 150 = .ok (.goto 8, 3) := by decide +kernel
theorem dX12_termOf_153 : decode cX12_termOf 153 = .ok (.iload 6, 2) := by decide +kernel
theorem dX12_termOf_155 : decode cX12_termOf 155 = .ok (.iload 7, 2) := by decide +kernel
theorem dX12_termOf_157 : decode cX12_termOf 157 = .ok (.idiv, 1) := by decide +kernel
theorem dX12_termOf_158 : decode cX12_termOf 158 = .ok (.iastore, 1) := by decide +kernel
theorem dX12_termOf_159 : decode cX12_termOf 159 = .ok (.iinc 4 1, 3) := by decide +kernel
theorem dX12_termOf_162 : decode cX12_termOf 162 = .ok (.goto (-157), 3) := by decide +kernel
theorem dX12_termOf_165 : decode cX12_termOf 165 = .ok (.aload_n 0, 1) := by decide +kernel
theorem dX12_termOf_166 : decode cX12_termOf 166 = .ok (.getfield 125, 3) := by decide +kernel
theorem dX12_termOf_169 : decode cX12_termOf 169 = .ok (.iconst 0, 1) := by decide +kernel
theorem dX12_termOf_170 : decode cX12_termOf 170 = .ok (.iaload, 1) := by decide +kernel
theorem dX12_termOf_171 : decode cX12_termOf 171 = .ok (.ireturn, 1) := by decide +kernel
theorem dX12_in_0 : decode cX12_in 0 = .ok (.iload_n 0, 1) := by decide +kernel
theorem dX12_in_1 : decode cX12_in 1 = .ok (.iload_n 1, 1) := by decide +kernel
theorem dX12_in_2 : decode cX12_in 2 = .ok (.if_icmp .lt 12, 3) := by decide +kernel
theorem dX12_in_5 : decode cX12_in 5 = .ok (.iload_n 0, 1) := by decide +kernel
theorem dX12_in_6 : decode cX12_in 6 = .ok (.iload_n 2, 1) := by decide +kernel
theorem dX12_in_7 : decode cX12_in 7 = .ok (.if_icmp .gt 7, 3) := by decide +kernel
theorem dX12_in_10 : decode cX12_in 10 = .ok (.iconst 1, 1) := by decide +kernel
theorem dX12_in_11 : decode cX12_in 11 = .ok (.goto 4, 3) := by decide +kernel
theorem dX12_in_14 : decode cX12_in 14 = .ok (.iconst 0, 1) := by decide +kernel
theorem dX12_in_15 : decode cX12_in 15 = .ok (.ireturn, 1) := by decide +kernel
theorem dX12_isMan_0 : decode cX12_isMan 0 = .ok (.iload_n 1, 1) := by decide +kernel
theorem dX12_isMan_1 : decode cX12_isMan 1 = .ok (.iconst 0, 1) := by decide +kernel
theorem dX12_isMan_2 : decode cX12_isMan 2 = .ok (.aload_n 0, 1) := by decide +kernel
theorem dX12_isMan_3 : decode cX12_isMan 3 = .ok (.getfield 49, 3) := by decide +kernel
theorem dX12_isMan_6 : decode cX12_isMan 6 = .ok (.aload_n 0, 1) := by decide +kernel
theorem dX12_isMan_7 : decode cX12_isMan 7 = .ok (.getfield 258, 3) := by decide +kernel
theorem dX12_isMan_10 : decode cX12_isMan 10 = .ok (.iaload, 1) := by decide +kernel
theorem dX12_isMan_11 : decode cX12_isMan 11 = .ok (.iconst 1, 1) := by decide +kernel
theorem dX12_isMan_12 : decode cX12_isMan 12 = .ok (.isub, 1) := by decide +kernel
theorem dX12_isMan_13 : decode cX12_isMan 13 = .ok (.invokestatic 345, 3) := by decide +kernel
theorem dX12_isMan_16 : decode cX12_isMan 16 = .ok (.ireturn, 1) := by decide +kernel
theorem dX12_begins_0 : decode cX12_begins 0 = .ok (.iconst 0, 1) := by decide +kernel
theorem dX12_begins_1 : decode cX12_begins 1 = .ok (.istore_n 1, 1) := by decide +kernel
theorem dX12_begins_2 : decode cX12_begins 2 = .ok (.iload_n 1, 1) := by decide +kernel
theorem dX12_begins_3 : decode cX12_begins 3 = .ok (.bipush 30, 2) := by decide +kernel
theorem dX12_begins_5 : decode cX12_begins 5 = .ok (.if_icmp .ge 16, 3) := by decide +kernel
theorem dX12_begins_8 : decode cX12_begins 8 = .ok (.aload_n 0, 1) := by decide +kernel
theorem dX12_begins_9 : decode cX12_begins 9 = .ok (.getfield 131, 3) := by decide +kernel
theorem dX12_begins_12 : decode cX12_begins 12 = .ok (.iload_n 1, 1) := by decide +kernel
theorem dX12_begins_13 : decode cX12_begins 13 = .ok (.iconst 0, 1) := by decide +kernel
theorem dX12_begins_14 : decode cX12_begins 14 = .ok (.iastore, 1) := by decide +kernel
theorem dX12_begins_15 : decode cX12_begins 15 = .ok (.iinc 1 1, 3) := by decide +kernel
theorem dX12_begins_18 : decode cX12_begins 18 = .ok (.goto (-16), 3) := by decide +kernel
theorem dX12_begins_21 : decode cX12_begins 21 = .ok (.iconst 0, 1) := by decide +kernel
theorem dX12_begins_22 : decode cX12_begins 22 = .ok (.istore_n 1, 1) := by decide +kernel
theorem dX12_begins_23 : decode cX12_begins 23 = .ok (.iload_n 1, 1) := by decide +kernel
theorem dX12_begins_24 : decode cX12_begins 24 = .ok (.bipush 7, 2) := by decide +kernel
theorem dX12_begins_26 : decode cX12_begins 26 = .ok (.if_icmp .ge 59, 3) := by decide +kernel
theorem dX12_begins_29 : decode cX12_begins 29 = .ok (.aload_n 0, 1) := by decide +kernel
theorem dX12_begins_30 : decode cX12_begins 30 = .ok (.getfield 131, 3) := by decide +kernel
theorem dX12_begins_33 : decode cX12_begins 33 = .ok (.iload_n 1, 1) := by decide +kernel
theorem dX12_begins_34 : decode cX12_begins 34 = .ok (.aload_n 0, 1) := by decide +kernel
theorem dX12_begins_35 : decode cX12_begins 35 = .ok (.getfield 52, 3) := by decide +kernel
theorem dX12_begins_38 : decode cX12_begins 38 = .ok (.bipush 7, 2) := by decide +kernel
theorem dX12_begins_40 : decode cX12_begins 40 = .ok (.aload_n 0, 1) := by decide +kernel
theorem dX12_begins_41 : decode cX12_begins 41 = .ok (.getfield 258, 3) := by decide +kernel
theorem dX12_begins_44 : decode cX12_begins 44 = .ok (.imul, 1) := by decide +kernel
theorem dX12_begins_45 : decode cX12_begins 45 = .ok (.iload_n 1, 1) := by decide +kernel
theorem dX12_begins_46 : decode cX12_begins 46 = .ok (.iadd, 1) := by decide +kernel
theorem dX12_begins_47 : decode cX12_begins 47 = .ok (.iaload, 1) := by decide +kernel
theorem dX12_begins_48 : decode cX12_begins 48 = .ok (.iastore, 1) := by decide +kernel
theorem dX12_begins_49 : decode cX12_begins 49 = .ok (.aload_n 0, 1) := by decide +kernel
theorem dX12_begins_50 : decode cX12_begins 50 = .ok (.getfield 131, 3) := by decide +kernel
theorem dX12_begins_53 : decode cX12_begins 53 = .ok (.bipush 7, 2) := by decide +kernel
theorem dX12_begins_55 : decode cX12_begins 55 = .ok (.iload_n 1, 1) := by decide +kernel
theorem dX12_begins_56 : decode cX12_begins 56 = .ok (.iadd, 1) := by decide +kernel
theorem dX12_begins_57 : decode cX12_begins 57 = .ok (.aload_n 0, 1) := by decide +kernel
theorem dX12_begins_58 : decode cX12_begins 58 = .ok (.getfield 55, 3) := by decide +kernel
theorem dX12_begins_61 : decode cX12_begins 61 = .ok (.bipush 7, 2) := by decide +kernel
theorem dX12_begins_63 : decode cX12_begins 63 = .ok (.aload_n 0, 1) := by decide +kernel
theorem dX12_begins_64 : decode cX12_begins 64 = .ok (.getfield 258, 3) := by decide +kernel
theorem dX12_begins_67 : decode cX12_begins 67 = .ok (.imul, 1) := by decide +kernel
theorem dX12_begins_68 : decode cX12_begins 68 = .ok (.iload_n 1, 1) := by decide +kernel
theorem dX12_begins_69 : decode cX12_begins 69 = .ok (.iadd, 1) := by decide +kernel
theorem dX12_begins_70 : decode cX12_begins 70 = .ok (.iaload, 1) := by decide +kernel
theorem dX12_begins_71 : decode cX12_begins 71 = .ok (.iastore, 1) := by decide +kernel
theorem dX12_begins_72 : decode cX12_begins 72 = .ok (.aload_n 0, 1) := by decide +kernel
theorem dX12_begins_73 : decode cX12_begins 73 = .ok (.getfield 134, 3) := by decide +kernel
theorem dX12_begins_76 : decode cX12_begins 76 = .ok (.iload_n 1, 1) := by decide +kernel
theorem dX12_begins_77 : decode cX12_begins 77 = .ok (.iconst 0, 1) := by decide +kernel
theorem dX12_begins_78 : decode cX12_begins 78 = .ok (.iastore, 1) := by decide +kernel
theorem dX12_begins_79 : decode cX12_begins 79 = .ok (.iinc 1 1, 3) := by decide +kernel
theorem dX12_begins_82 : decode cX12_begins 82 = .ok (.goto (-59), 3) := by decide +kernel
theorem dX12_begins_85 : decode cX12_begins 85 = .ok (.return_, 1) := by decide +kernel
theorem dX12_keepsRow_0 : decode cX12_keepsRow 0 = .ok (.iconst 0, 1) := by decide +kernel
theorem dX12_keepsRow_1 : decode cX12_keepsRow 1 = .ok (.istore_n 1, 1) := by decide +kernel
theorem dX12_keepsRow_2 : decode cX12_keepsRow 2 = .ok (.iload_n 1, 1) := by decide +kernel
theorem dX12_keepsRow_3 : decode cX12_keepsRow 3 = .ok (.sipush 1290, 3) := by decide +kernel
theorem dX12_keepsRow_6 : decode cX12_keepsRow 6 = .ok (.if_icmp .ge 21, 3) := by decide +kernel
theorem dX12_keepsRow_9 : decode cX12_keepsRow 9 = .ok (.aload_n 0, 1) := by decide +kernel
theorem dX12_keepsRow_10 : decode cX12_keepsRow 10 = .ok (.getfield 128, 3) := by decide +kernel
theorem dX12_keepsRow_13 : decode cX12_keepsRow 13 = .ok (.iload_n 1, 1) := by decide +kernel
theorem dX12_keepsRow_14 : decode cX12_keepsRow 14 = .ok (.aload_n 0, 1) := by decide +kernel
theorem dX12_keepsRow_15 : decode cX12_keepsRow 15 = .ok (.getfield 131, 3) := by decide +kernel
theorem dX12_keepsRow_18 : decode cX12_keepsRow 18 = .ok (.iload_n 1, 1) := by decide +kernel
theorem dX12_keepsRow_19 : decode cX12_keepsRow 19 = .ok (.iaload, 1) := by decide +kernel
theorem dX12_keepsRow_20 : decode cX12_keepsRow 20 = .ok (.iastore, 1) := by decide +kernel
theorem dX12_keepsRow_21 : decode cX12_keepsRow 21 = .ok (.iinc 1 1, 3) := by decide +kernel
theorem dX12_keepsRow_24 : decode cX12_keepsRow 24 = .ok (.goto (-22), 3) := by decide +kernel
theorem dX12_keepsRow_27 : decode cX12_keepsRow 27 = .ok (.return_, 1) := by decide +kernel
theorem dX12_copies_0 : decode cX12_copies 0 = .ok (.iconst 0, 1) := by decide +kernel
theorem dX12_copies_1 : decode cX12_copies 1 = .ok (.istore_n 1, 1) := by decide +kernel
theorem dX12_copies_2 : decode cX12_copies 2 = .ok (.iload_n 1, 1) := by decide +kernel
theorem dX12_copies_3 : decode cX12_copies 3 = .ok (.sipush 1290, 3) := by decide +kernel
theorem dX12_copies_6 : decode cX12_copies 6 = .ok (.if_icmp .ge 21, 3) := by decide +kernel
theorem dX12_copies_9 : decode cX12_copies 9 = .ok (.aload_n 0, 1) := by decide +kernel
theorem dX12_copies_10 : decode cX12_copies 10 = .ok (.getfield 131, 3) := by decide +kernel
theorem dX12_copies_13 : decode cX12_copies 13 = .ok (.iload_n 1, 1) := by decide +kernel
theorem dX12_copies_14 : decode cX12_copies 14 = .ok (.aload_n 0, 1) := by decide +kernel
theorem dX12_copies_15 : decode cX12_copies 15 = .ok (.getfield 128, 3) := by decide +kernel
theorem dX12_copies_18 : decode cX12_copies 18 = .ok (.iload_n 1, 1) := by decide +kernel
theorem dX12_copies_19 : decode cX12_copies 19 = .ok (.iaload, 1) := by decide +kernel
theorem dX12_copies_20 : decode cX12_copies 20 = .ok (.iastore, 1) := by decide +kernel
theorem dX12_copies_21 : decode cX12_copies 21 = .ok (.iinc 1 1, 3) := by decide +kernel
theorem dX12_copies_24 : decode cX12_copies 24 = .ok (.goto (-22), 3) := by decide +kernel
theorem dX12_copies_27 : decode cX12_copies 27 = .ok (.iconst 0, 1) := by decide +kernel
theorem dX12_copies_28 : decode cX12_copies 28 = .ok (.istore_n 1, 1) := by decide +kernel
theorem dX12_copies_29 : decode cX12_copies 29 = .ok (.iload_n 1, 1) := by decide +kernel
theorem dX12_copies_30 : decode cX12_copies 30 = .ok (.bipush 7, 2) := by decide +kernel
theorem dX12_copies_32 : decode cX12_copies 32 = .ok (.if_icmp .ge 16, 3) := by decide +kernel
theorem dX12_copies_35 : decode cX12_copies 35 = .ok (.aload_n 0, 1) := by decide +kernel
theorem dX12_copies_36 : decode cX12_copies 36 = .ok (.getfield 134, 3) := by decide +kernel
theorem dX12_copies_39 : decode cX12_copies 39 = .ok (.iload_n 1, 1) := by decide +kernel
theorem dX12_copies_40 : decode cX12_copies 40 = .ok (.iconst 0, 1) := by decide +kernel
theorem dX12_copies_41 : decode cX12_copies 41 = .ok (.iastore, 1) := by decide +kernel
theorem dX12_copies_42 : decode cX12_copies 42 = .ok (.iinc 1 1, 3) := by decide +kernel
theorem dX12_copies_45 : decode cX12_copies 45 = .ok (.goto (-16), 3) := by decide +kernel
theorem dX12_copies_48 : decode cX12_copies 48 = .ok (.return_, 1) := by decide +kernel
theorem dX12_mixed_0 : decode cX12_mixed 0 = .ok (.iload_n 0, 1) := by decide +kernel
theorem dX12_mixed_1 : decode cX12_mixed 1 = .ok (.iload_n 1, 1) := by decide +kernel
theorem dX12_mixed_2 : decode cX12_mixed 2 = .ok (.ixor, 1) := by decide +kernel
theorem dX12_mixed_3 : decode cX12_mixed 3 = .ok (.ldc_w 349, 3) := by decide +kernel
theorem dX12_mixed_6 : decode cX12_mixed 6 = .ok (.imul, 1) := by decide +kernel
theorem dX12_mixed_7 : decode cX12_mixed 7 = .ok (.sipush 12345, 3) := by decide +kernel
theorem dX12_mixed_10 : decode cX12_mixed 10 = .ok (.iadd, 1) := by decide +kernel
theorem dX12_mixed_11 : decode cX12_mixed 11 = .ok (.istore_n 2, 1) := by decide +kernel
theorem dX12_mixed_12 : decode cX12_mixed 12 = .ok (.iload_n 2, 1) := by decide +kernel
theorem dX12_mixed_13 : decode cX12_mixed 13 = .ok (.iload_n 2, 1) := by decide +kernel
theorem dX12_mixed_14 : decode cX12_mixed 14 = .ok (.bipush 15, 2) := by decide +kernel
theorem dX12_mixed_16 : decode cX12_mixed 16 = .ok (.iushr, 1) := by decide +kernel
theorem dX12_mixed_17 : decode cX12_mixed 17 = .ok (.ixor, 1) := by decide +kernel
theorem dX12_mixed_18 : decode cX12_mixed 18 = .ok (.ireturn, 1) := by decide +kernel
theorem dX12_lotOf_0 : decode cX12_lotOf 0 = .ok (.iload_n 0, 1) := by decide +kernel
theorem dX12_lotOf_1 : decode cX12_lotOf 1 = .ok (.bipush 28, 2) := by decide +kernel
theorem dX12_lotOf_3 : decode cX12_lotOf 3 = .ok (.invokestatic 350, 3) := by decide +kernel
theorem dX12_lotOf_6 : decode cX12_lotOf 6 = .ok (.iload_n 1, 1) := by decide +kernel
theorem dX12_lotOf_7 : decode cX12_lotOf 7 = .ok (.invokestatic 350, 3) := by decide +kernel
theorem dX12_lotOf_10 : decode cX12_lotOf 10 = .ok (.iconst 1, 1) := by decide +kernel
theorem dX12_lotOf_11 : decode cX12_lotOf 11 = .ok (.iushr, 1) := by decide +kernel
theorem dX12_lotOf_12 : decode cX12_lotOf 12 = .ok (.iload_n 2, 1) := by decide +kernel
theorem dX12_lotOf_13 : decode cX12_lotOf 13 = .ok (.irem, 1) := by decide +kernel
theorem dX12_lotOf_14 : decode cX12_lotOf 14 = .ok (.ireturn, 1) := by decide +kernel
theorem dX12_tellsBy_0 : decode cX12_tellsBy 0 = .ok (.aload_n 0, 1) := by decide +kernel
theorem dX12_tellsBy_1 : decode cX12_tellsBy 1 = .ok (.iconst 0, 1) := by decide +kernel
theorem dX12_tellsBy_2 : decode cX12_tellsBy 2 = .ok (.putfield 341, 3) := by decide +kernel
theorem dX12_tellsBy_5 : decode cX12_tellsBy 5 = .ok (.aload_n 0, 1) := by decide +kernel
theorem dX12_tellsBy_6 : decode cX12_tellsBy 6 = .ok (.getfield 91, 3) := by decide +kernel
theorem dX12_tellsBy_9 : decode cX12_tellsBy 9 = .ok (.iload_n 1, 1) := by decide +kernel
theorem dX12_tellsBy_10 : decode cX12_tellsBy 10 = .ok (.iaload, 1) := by decide +kernel
theorem dX12_tellsBy_11 : decode cX12_tellsBy 11 = .ok (.istore_n 2, 1) := by decide +kernel
theorem dX12_tellsBy_12 : decode cX12_tellsBy 12 = .ok (.iload_n 2, 1) := by decide +kernel
theorem dX12_tellsBy_13 : decode cX12_tellsBy 13 = .ok (.aload_n 0, 1) := by decide +kernel
theorem dX12_tellsBy_14 : decode cX12_tellsBy 14 = .ok (.getfield 94, 3) := by decide +kernel
theorem dX12_tellsBy_17 : decode cX12_tellsBy 17 = .ok (.iload_n 1, 1) := by decide +kernel
theorem dX12_tellsBy_18 : decode cX12_tellsBy 18 = .ok (.iaload, 1) := by decide +kernel
theorem dX12_tellsBy_19 : decode cX12_tellsBy 19 = .ok (.if_icmp .ge 101, 3) := by decide +kernel
theorem dX12_tellsBy_22 : decode cX12_tellsBy 22 = .ok (.aload_n 0, 1) := by decide +kernel
theorem dX12_tellsBy_23 : decode cX12_tellsBy 23 = .ok (.getfield 97, 3) := by decide +kernel
theorem dX12_tellsBy_26 : decode cX12_tellsBy 26 = .ok (.iload_n 2, 1) := by decide +kernel
theorem dX12_tellsBy_27 : decode cX12_tellsBy 27 = .ok (.baload, 1) := by decide +kernel
theorem dX12_tellsBy_28 : decode cX12_tellsBy 28 = .ok (.ifCond .eq 56, 3) := by decide +kernel
theorem dX12_tellsBy_31 : decode cX12_tellsBy 31 = .ok (.aload_n 0, 1) := by decide +kernel
theorem dX12_tellsBy_32 : decode cX12_tellsBy 32 = .ok (.aload_n 0, 1) := by decide +kernel
theorem dX12_tellsBy_33 : decode cX12_tellsBy 33 = .ok (.getfield 101, 3) := by decide +kernel
theorem dX12_tellsBy_36 : decode cX12_tellsBy 36 = .ok (.iload_n 2, 1) := by decide +kernel
theorem dX12_tellsBy_37 : decode cX12_tellsBy 37 = .ok (.iaload, 1) := by decide +kernel
theorem dX12_tellsBy_38 : decode cX12_tellsBy 38 = .ok (.aload_n 0, 1) := by decide +kernel
theorem dX12_tellsBy_39 : decode cX12_tellsBy 39 = .ok (.getfield 104, 3) := by decide +kernel
theorem dX12_tellsBy_42 : decode cX12_tellsBy 42 = .ok (.iload_n 2, 1) := by decide +kernel
theorem dX12_tellsBy_43 : decode cX12_tellsBy 43 = .ok (.iaload, 1) := by decide +kernel
theorem dX12_tellsBy_44 : decode cX12_tellsBy 44 = .ok (.invokevirtual 353, 3) := by decide +kernel
theorem dX12_tellsBy_47 : decode cX12_tellsBy 47 = .ok (.istore_n 3, 1) := by decide +kernel
theorem dX12_tellsBy_48 : decode cX12_tellsBy 48 = .ok (.aload_n 0, 1) := by decide +kernel
theorem dX12_tellsBy_49 : decode cX12_tellsBy 49 = .ok (.aload_n 0, 1) := by decide +kernel
theorem dX12_tellsBy_50 : decode cX12_tellsBy 50 = .ok (.getfield 104, 3) := by decide +kernel
theorem dX12_tellsBy_53 : decode cX12_tellsBy 53 = .ok (.iload_n 2, 1) := by decide +kernel
theorem dX12_tellsBy_54 : decode cX12_tellsBy 54 = .ok (.iaload, 1) := by decide +kernel
theorem dX12_tellsBy_55 : decode cX12_tellsBy 55 = .ok (.aload_n 0, 1) := by decide +kernel
theorem dX12_tellsBy_56 : decode cX12_tellsBy 56 = .ok (.getfield 107, 3) := by decide +kernel
theorem dX12_tellsBy_59 : decode cX12_tellsBy 59 = .ok (.iload_n 2, 1) := by decide +kernel
theorem dX12_tellsBy_60 : decode cX12_tellsBy 60 = .ok (.iaload, 1) := by decide +kernel
theorem dX12_tellsBy_61 : decode cX12_tellsBy 61 = .ok (.invokevirtual 353, 3) := by decide +kernel
theorem dX12_tellsBy_64 : decode cX12_tellsBy 64 = .ok (.istore 4, 2) := by decide +kernel
theorem dX12_tellsBy_66 : decode cX12_tellsBy 66 = .ok (.aload_n 0, 1) := by decide +kernel
theorem dX12_tellsBy_67 : decode cX12_tellsBy 67 = .ok (.getfield 341, 3) := by decide +kernel
theorem dX12_tellsBy_70 : decode cX12_tellsBy 70 = .ok (.ifCond .eq 5, 3) := by decide +kernel
theorem dX12_tellsBy_73 : decode cX12_tellsBy 73 = .ok (.iconst 0, 1) := by decide +kernel
theorem dX12_tellsBy_74 : decode cX12_tellsBy 74 = .ok (.ireturn, 1) := by decide +kernel
theorem dX12_tellsBy_75 : decode cX12_tellsBy 75 = .ok (.iload_n 3, 1) := by decide +kernel
theorem dX12_tellsBy_76 : decode cX12_tellsBy 76 = .ok (.iload 4, 2) := by decide +kernel
theorem dX12_tellsBy_78 : decode cX12_tellsBy 78 = .ok (.if_icmp .lt 6, 3) := by decide +kernel
theorem dX12_tellsBy_81 : decode cX12_tellsBy 81 = .ok (.goto 33, 3) := by decide +kernel
theorem dX12_tellsBy_84 : decode cX12_tellsBy 84 = .ok (.aload_n 0, 1) := by decide +kernel
theorem dX12_tellsBy_85 : decode cX12_tellsBy 85 = .ok (.aload_n 0, 1) := by decide +kernel
theorem dX12_tellsBy_86 : decode cX12_tellsBy 86 = .ok (.getfield 107, 3) := by decide +kernel
theorem dX12_tellsBy_89 : decode cX12_tellsBy 89 = .ok (.iload_n 2, 1) := by decide +kernel
theorem dX12_tellsBy_90 : decode cX12_tellsBy 90 = .ok (.iaload, 1) := by decide +kernel
theorem dX12_tellsBy_91 : decode cX12_tellsBy 91 = .ok (.aload_n 0, 1) := by decide +kernel
theorem dX12_tellsBy_92 : decode cX12_tellsBy 92 = .ok (.getfield 110, 3) := by decide +kernel
theorem dX12_tellsBy_95 : decode cX12_tellsBy 95 = .ok (.iload_n 2, 1) := by decide +kernel
theorem dX12_tellsBy_96 : decode cX12_tellsBy 96 = .ok (.iaload, 1) := by decide +kernel
theorem dX12_tellsBy_97 : decode cX12_tellsBy 97 = .ok (.invokevirtual 353, 3) := by decide +kernel
theorem dX12_tellsBy_100 : decode cX12_tellsBy 100 = .ok (.istore_n 3, 1) := by decide +kernel
theorem dX12_tellsBy_101 : decode cX12_tellsBy 101 = .ok (.aload_n 0, 1) := by decide +kernel
theorem dX12_tellsBy_102 : decode cX12_tellsBy 102 = .ok (.getfield 341, 3) := by decide +kernel
theorem dX12_tellsBy_105 : decode cX12_tellsBy 105 = .ok (.ifCond .eq 7, 3) := by decide +kernel
theorem dX12_tellsBy_108 : decode cX12_tellsBy 108 = .ok (.iconst 0, 1) := by decide +kernel
theorem dX12_tellsBy_109 : decode cX12_tellsBy 109 = .ok (.goto 4, 3) := by decide +kernel
theorem dX12_tellsBy_112 : decode cX12_tellsBy 112 = .ok (.iload_n 3, 1) := by decide +kernel
theorem dX12_tellsBy_113 : decode cX12_tellsBy 113 = .ok (.ireturn, 1) := by decide +kernel
theorem dX12_tellsBy_114 : decode cX12_tellsBy 114 = .ok (.iinc 2 1, 3) := by decide +kernel
theorem dX12_tellsBy_117 : decode cX12_tellsBy 117 = .ok (.goto (-105), 3) := by decide +kernel
theorem dX12_tellsBy_120 : decode cX12_tellsBy 120 = .ok (.iconst 0, 1) := by decide +kernel
theorem dX12_tellsBy_121 : decode cX12_tellsBy 121 = .ok (.ireturn, 1) := by decide +kernel
theorem dX12_longOf_0 : decode cX12_longOf 0 = .ok (.bipush 8, 2) := by decide +kernel
theorem dX12_longOf_2 : decode cX12_longOf 2 = .ok (.aload_n 0, 1) := by decide +kernel
theorem dX12_longOf_3 : decode cX12_longOf 3 = .ok (.getfield 258, 3) := by decide +kernel
theorem dX12_longOf_6 : decode cX12_longOf 6 = .ok (.imul, 1) := by decide +kernel
theorem dX12_longOf_7 : decode cX12_longOf 7 = .ok (.bipush 7, 2) := by decide +kernel
theorem dX12_longOf_9 : decode cX12_longOf 9 = .ok (.iadd, 1) := by decide +kernel
theorem dX12_longOf_10 : decode cX12_longOf 10 = .ok (.istore_n 2, 1) := by decide +kernel
theorem dX12_longOf_11 : decode cX12_longOf 11 = .ok (.aload_n 0, 1) := by decide +kernel
theorem dX12_longOf_12 : decode cX12_longOf 12 = .ok (.getfield 91, 3) := by decide +kernel
theorem dX12_longOf_15 : decode cX12_longOf 15 = .ok (.iload_n 2, 1) := by decide +kernel
theorem dX12_longOf_16 : decode cX12_longOf 16 = .ok (.iaload, 1) := by decide +kernel
theorem dX12_longOf_17 : decode cX12_longOf 17 = .ok (.aload_n 0, 1) := by decide +kernel
theorem dX12_longOf_18 : decode cX12_longOf 18 = .ok (.getfield 94, 3) := by decide +kernel
theorem dX12_longOf_21 : decode cX12_longOf 21 = .ok (.iload_n 2, 1) := by decide +kernel
theorem dX12_longOf_22 : decode cX12_longOf 22 = .ok (.iaload, 1) := by decide +kernel
theorem dX12_longOf_23 : decode cX12_longOf 23 = .ok (.if_icmp .ne 6, 3) := by decide +kernel
theorem dX12_longOf_26 : decode cX12_longOf 26 = .ok (.bipush 30, 2) := by decide +kernel
theorem dX12_longOf_28 : decode cX12_longOf 28 = .ok (.ireturn, 1) := by decide +kernel
theorem dX12_longOf_29 : decode cX12_longOf 29 = .ok (.iconst 0, 1) := by decide +kernel
theorem dX12_longOf_30 : decode cX12_longOf 30 = .ok (.istore_n 3, 1) := by decide +kernel
theorem dX12_longOf_31 : decode cX12_longOf 31 = .ok (.iload_n 3, 1) := by decide +kernel
theorem dX12_longOf_32 : decode cX12_longOf 32 = .ok (.bipush 6, 2) := by decide +kernel
theorem dX12_longOf_34 : decode cX12_longOf 34 = .ok (.if_icmp .ge 16, 3) := by decide +kernel
theorem dX12_longOf_37 : decode cX12_longOf 37 = .ok (.aload_n 0, 1) := by decide +kernel
theorem dX12_longOf_38 : decode cX12_longOf 38 = .ok (.getfield 122, 3) := by decide +kernel
theorem dX12_longOf_41 : decode cX12_longOf 41 = .ok (.iload_n 3, 1) := by decide +kernel
theorem dX12_longOf_42 : decode cX12_longOf 42 = .ok (.iconst 0, 1) := by decide +kernel
theorem dX12_longOf_43 : decode cX12_longOf 43 = .ok (.iastore, 1) := by decide +kernel
theorem dX12_longOf_44 : decode cX12_longOf 44 = .ok (.iinc 3 1, 3) := by decide +kernel
theorem dX12_longOf_47 : decode cX12_longOf 47 = .ok (.goto (-16), 3) := by decide +kernel
theorem dX12_longOf_50 : decode cX12_longOf 50 = .ok (.aload_n 0, 1) := by decide +kernel
theorem dX12_longOf_51 : decode cX12_longOf 51 = .ok (.getfield 122, 3) := by decide +kernel
theorem dX12_longOf_54 : decode cX12_longOf 54 = .ok (.iconst 0, 1) := by decide +kernel
theorem dX12_longOf_55 : decode cX12_longOf 55 = .ok (.aload_n 0, 1) := by decide +kernel
theorem dX12_longOf_56 : decode cX12_longOf 56 = .ok (.getfield 52, 3) := by decide +kernel
theorem dX12_longOf_59 : decode cX12_longOf 59 = .ok (.bipush 7, 2) := by decide +kernel
theorem dX12_longOf_61 : decode cX12_longOf 61 = .ok (.aload_n 0, 1) := by decide +kernel
theorem dX12_longOf_62 : decode cX12_longOf 62 = .ok (.getfield 258, 3) := by decide +kernel
theorem dX12_longOf_65 : decode cX12_longOf 65 = .ok (.imul, 1) := by decide +kernel
theorem dX12_longOf_66 : decode cX12_longOf 66 = .ok (.iload_n 1, 1) := by decide +kernel
theorem dX12_longOf_67 : decode cX12_longOf 67 = .ok (.iadd, 1) := by decide +kernel
theorem dX12_longOf_68 : decode cX12_longOf 68 = .ok (.iaload, 1) := by decide +kernel
theorem dX12_longOf_69 : decode cX12_longOf 69 = .ok (.iastore, 1) := by decide +kernel
theorem dX12_longOf_70 : decode cX12_longOf 70 = .ok (.aload_n 0, 1) := by decide +kernel
theorem dX12_longOf_71 : decode cX12_longOf 71 = .ok (.getfield 122, 3) := by decide +kernel
theorem dX12_longOf_74 : decode cX12_longOf 74 = .ok (.iconst 1, 1) := by decide +kernel
theorem dX12_longOf_75 : decode cX12_longOf 75 = .ok (.aload_n 0, 1) := by decide +kernel
theorem dX12_longOf_76 : decode cX12_longOf 76 = .ok (.getfield 55, 3) := by decide +kernel
theorem dX12_longOf_79 : decode cX12_longOf 79 = .ok (.bipush 7, 2) := by decide +kernel
theorem dX12_longOf_81 : decode cX12_longOf 81 = .ok (.aload_n 0, 1) := by decide +kernel
theorem dX12_longOf_82 : decode cX12_longOf 82 = .ok (.getfield 258, 3) := by decide +kernel
theorem dX12_longOf_85 : decode cX12_longOf 85 = .ok (.imul, 1) := by decide +kernel
theorem dX12_longOf_86 : decode cX12_longOf 86 = .ok (.iload_n 1, 1) := by decide +kernel
theorem dX12_longOf_87 : decode cX12_longOf 87 = .ok (.iadd, 1) := by decide +kernel
theorem dX12_longOf_88 : decode cX12_longOf 88 = .ok (.iaload, 1) := by decide +kernel
theorem dX12_longOf_89 : decode cX12_longOf 89 = .ok (.iastore, 1) := by decide +kernel
theorem dX12_longOf_90 : decode cX12_longOf 90 = .ok (.aload_n 0, 1) := by decide +kernel
theorem dX12_longOf_91 : decode cX12_longOf 91 = .ok (.getfield 122, 3) := by decide +kernel
theorem dX12_longOf_94 : decode cX12_longOf 94 = .ok (.iconst 5, 1) := by decide +kernel
theorem dX12_longOf_95 : decode cX12_longOf 95 = .ok (.iload_n 1, 1) := by decide +kernel
theorem dX12_longOf_96 : decode cX12_longOf 96 = .ok (.iastore, 1) := by decide +kernel
theorem dX12_longOf_97 : decode cX12_longOf 97 = .ok (.aload_n 0, 1) := by decide +kernel
theorem dX12_longOf_98 : decode cX12_longOf 98 = .ok (.iload_n 2, 1) := by decide +kernel
theorem dX12_longOf_99 : decode cX12_longOf 99 = .ok (.invokevirtual 356, 3) := by decide +kernel
theorem dX12_longOf_102 : decode cX12_longOf 102 = .ok (.istore_n 3, 1) := by decide +kernel
theorem dX12_longOf_103 : decode cX12_longOf 103 = .ok (.iload_n 3, 1) := by decide +kernel
theorem dX12_longOf_104 : decode cX12_longOf 104 = .ok (.ifCond .ge 7, 3) := by decide +kernel
theorem dX12_longOf_107 : decode cX12_longOf 107 = .ok (.iconst 0, 1) := by decide +kernel
theorem dX12_longOf_108 : decode cX12_longOf 108 = .ok (.goto 15, 3) := by decide +kernel
theorem dX12_longOf_111 : decode cX12_longOf 111 = .ok (.iload_n 3, 1) := by decide +kernel
theorem dX12_longOf_112 : decode cX12_longOf 112 = .ok (.bipush 60, 2) := by decide +kernel
theorem dX12_longOf_114 : decode cX12_longOf 114 = .ok (.if_icmp .le 8, 3) := by decide +kernel
theorem dX12_longOf_117 : decode cX12_longOf 117 = .ok (.bipush 60, 2) := by decide +kernel
theorem dX12_longOf_119 : decode cX12_longOf 119 = .ok (.goto 4, 3) := by decide +kernel
theorem dX12_longOf_122 : decode cX12_longOf 122 = .ok (.iload_n 3, 1) := by decide +kernel
theorem dX12_longOf_123 : decode cX12_longOf 123 = .ok (.ireturn, 1) := by decide +kernel
theorem dX12_leftOf_0 : decode cX12_leftOf 0 = .ok (.aload_n 0, 1) := by decide +kernel
theorem dX12_leftOf_1 : decode cX12_leftOf 1 = .ok (.iload_n 1, 1) := by decide +kernel
theorem dX12_leftOf_2 : decode cX12_leftOf 2 = .ok (.invokevirtual 359, 3) := by decide +kernel
theorem dX12_leftOf_5 : decode cX12_leftOf 5 = .ok (.aload_n 0, 1) := by decide +kernel
theorem dX12_leftOf_6 : decode cX12_leftOf 6 = .ok (.getfield 131, 3) := by decide +kernel
theorem dX12_leftOf_9 : decode cX12_leftOf 9 = .ok (.bipush 14, 2) := by decide +kernel
theorem dX12_leftOf_11 : decode cX12_leftOf 11 = .ok (.iload_n 1, 1) := by decide +kernel
theorem dX12_leftOf_12 : decode cX12_leftOf 12 = .ok (.iadd, 1) := by decide +kernel
theorem dX12_leftOf_13 : decode cX12_leftOf 13 = .ok (.iaload, 1) := by decide +kernel
theorem dX12_leftOf_14 : decode cX12_leftOf 14 = .ok (.isub, 1) := by decide +kernel
theorem dX12_leftOf_15 : decode cX12_leftOf 15 = .ok (.ireturn, 1) := by decide +kernel
theorem dX12_goesOf_0 : decode cX12_goesOf 0 = .ok (.aload_n 0, 1) := by decide +kernel
theorem dX12_goesOf_1 : decode cX12_goesOf 1 = .ok (.getfield 131, 3) := by decide +kernel
theorem dX12_goesOf_4 : decode cX12_goesOf 4 = .ok (.bipush 28, 2) := by decide +kernel
theorem dX12_goesOf_6 : decode cX12_goesOf 6 = .ok (.iaload, 1) := by decide +kernel
theorem dX12_goesOf_7 : decode cX12_goesOf 7 = .ok (.aload_n 0, 1) := by decide +kernel
theorem dX12_goesOf_8 : decode cX12_goesOf 8 = .ok (.getfield 134, 3) := by decide +kernel
theorem dX12_goesOf_11 : decode cX12_goesOf 11 = .ok (.iload_n 1, 1) := by decide +kernel
theorem dX12_goesOf_12 : decode cX12_goesOf 12 = .ok (.iaload, 1) := by decide +kernel
theorem dX12_goesOf_13 : decode cX12_goesOf 13 = .ok (.isub, 1) := by decide +kernel
theorem dX12_goesOf_14 : decode cX12_goesOf 14 = .ok (.istore_n 2, 1) := by decide +kernel
theorem dX12_goesOf_15 : decode cX12_goesOf 15 = .ok (.aload_n 0, 1) := by decide +kernel
theorem dX12_goesOf_16 : decode cX12_goesOf 16 = .ok (.iload_n 1, 1) := by decide +kernel
theorem dX12_goesOf_17 : decode cX12_goesOf 17 = .ok (.invokevirtual 362, 3) := by decide +kernel
theorem dX12_goesOf_20 : decode cX12_goesOf 20 = .ok (.istore_n 3, 1) := by decide +kernel
theorem dX12_goesOf_21 : decode cX12_goesOf 21 = .ok (.aload_n 0, 1) := by decide +kernel
theorem dX12_goesOf_22 : decode cX12_goesOf 22 = .ok (.getfield 122, 3) := by decide +kernel
theorem dX12_goesOf_25 : decode cX12_goesOf 25 = .ok (.iconst 0, 1) := by decide +kernel
theorem dX12_goesOf_26 : decode cX12_goesOf 26 = .ok (.aload_n 0, 1) := by decide +kernel
theorem dX12_goesOf_27 : decode cX12_goesOf 27 = .ok (.getfield 131, 3) := by decide +kernel
theorem dX12_goesOf_30 : decode cX12_goesOf 30 = .ok (.iload_n 1, 1) := by decide +kernel
theorem dX12_goesOf_31 : decode cX12_goesOf 31 = .ok (.iaload, 1) := by decide +kernel
theorem dX12_goesOf_32 : decode cX12_goesOf 32 = .ok (.iastore, 1) := by decide +kernel
theorem dX12_goesOf_33 : decode cX12_goesOf 33 = .ok (.aload_n 0, 1) := by decide +kernel
theorem dX12_goesOf_34 : decode cX12_goesOf 34 = .ok (.getfield 122, 3) := by decide +kernel
theorem dX12_goesOf_37 : decode cX12_goesOf 37 = .ok (.iconst 1, 1) := by decide +kernel
theorem dX12_goesOf_38 : decode cX12_goesOf 38 = .ok (.aload_n 0, 1) := by decide +kernel
theorem dX12_goesOf_39 : decode cX12_goesOf 39 = .ok (.getfield 131, 3) := by decide +kernel
theorem dX12_goesOf_42 : decode cX12_goesOf 42 = .ok (.bipush 7, 2) := by decide +kernel
theorem dX12_goesOf_44 : decode cX12_goesOf 44 = .ok (.iload_n 1, 1) := by decide +kernel
theorem dX12_goesOf_45 : decode cX12_goesOf 45 = .ok (.iadd, 1) := by decide +kernel
theorem dX12_goesOf_46 : decode cX12_goesOf 46 = .ok (.iaload, 1) := by decide +kernel
theorem dX12_goesOf_47 : decode cX12_goesOf 47 = .ok (.iastore, 1) := by decide +kernel
theorem dX12_goesOf_48 : decode cX12_goesOf 48 = .ok (.aload_n 0, 1) := by decide +kernel
theorem dX12_goesOf_49 : decode cX12_goesOf 49 = .ok (.getfield 122, 3) := by decide +kernel
theorem dX12_goesOf_52 : decode cX12_goesOf 52 = .ok (.iconst 2, 1) := by decide +kernel
theorem dX12_goesOf_53 : decode cX12_goesOf 53 = .ok (.iload_n 2, 1) := by decide +kernel
theorem dX12_goesOf_54 : decode cX12_goesOf 54 = .ok (.iastore, 1) := by decide +kernel
theorem dX12_goesOf_55 : decode cX12_goesOf 55 = .ok (.aload_n 0, 1) := by decide +kernel
theorem dX12_goesOf_56 : decode cX12_goesOf 56 = .ok (.getfield 122, 3) := by decide +kernel
theorem dX12_goesOf_59 : decode cX12_goesOf 59 = .ok (.iconst 3, 1) := by decide +kernel
theorem dX12_goesOf_60 : decode cX12_goesOf 60 = .ok (.iload_n 3, 1) := by decide +kernel
theorem dX12_goesOf_61 : decode cX12_goesOf 61 = .ok (.iastore, 1) := by decide +kernel
theorem dX12_goesOf_62 : decode cX12_goesOf 62 = .ok (.aload_n 0, 1) := by decide +kernel
theorem dX12_goesOf_63 : decode cX12_goesOf 63 = .ok (.getfield 122, 3) := by decide +kernel
theorem dX12_goesOf_66 : decode cX12_goesOf 66 = .ok (.iconst 4, 1) := by decide +kernel
theorem dX12_goesOf_67 : decode cX12_goesOf 67 = .ok (.aload_n 0, 1) := by decide +kernel
theorem dX12_goesOf_68 : decode cX12_goesOf 68 = .ok (.getfield 79, 3) := by decide +kernel
theorem dX12_goesOf_71 : decode cX12_goesOf 71 = .ok (.aload_n 0, 1) := by decide +kernel
theorem dX12_goesOf_72 : decode cX12_goesOf 72 = .ok (.getfield 258, 3) := by decide +kernel
theorem dX12_goesOf_75 : decode cX12_goesOf 75 = .ok (.iaload, 1) := by decide +kernel
theorem dX12_goesOf_76 : decode cX12_goesOf 76 = .ok (.bipush 8, 2) := by decide +kernel
theorem dX12_goesOf_78 : decode cX12_goesOf 78 = .ok (.iload_n 2, 1) := by decide +kernel
theorem dX12_goesOf_79 : decode cX12_goesOf 79 = .ok (.imul, 1) := by decide +kernel
theorem dX12_goesOf_80 : decode cX12_goesOf 80 = .ok (.iload_n 1, 1) := by decide +kernel
theorem dX12_goesOf_81 : decode cX12_goesOf 81 = .ok (.iadd, 1) := by decide +kernel
theorem dX12_goesOf_82 : decode cX12_goesOf 82 = .ok (.bipush 100, 2) := by decide +kernel
theorem dX12_goesOf_84 : decode cX12_goesOf 84 = .ok (.invokestatic 365, 3) := by decide +kernel
theorem dX12_goesOf_87 : decode cX12_goesOf 87 = .ok (.iastore, 1) := by decide +kernel
theorem dX12_goesOf_88 : decode cX12_goesOf 88 = .ok (.aload_n 0, 1) := by decide +kernel
theorem dX12_goesOf_89 : decode cX12_goesOf 89 = .ok (.getfield 122, 3) := by decide +kernel
theorem dX12_goesOf_92 : decode cX12_goesOf 92 = .ok (.iconst 5, 1) := by decide +kernel
theorem dX12_goesOf_93 : decode cX12_goesOf 93 = .ok (.iload_n 1, 1) := by decide +kernel
theorem dX12_goesOf_94 : decode cX12_goesOf 94 = .ok (.iastore, 1) := by decide +kernel
theorem dX12_goesOf_95 : decode cX12_goesOf 95 = .ok (.aload_n 0, 1) := by decide +kernel
theorem dX12_goesOf_96 : decode cX12_goesOf 96 = .ok (.bipush 8, 2) := by decide +kernel
theorem dX12_goesOf_98 : decode cX12_goesOf 98 = .ok (.aload_n 0, 1) := by decide +kernel
theorem dX12_goesOf_99 : decode cX12_goesOf 99 = .ok (.getfield 258, 3) := by decide +kernel
theorem dX12_goesOf_102 : decode cX12_goesOf 102 = .ok (.imul, 1) := by decide +kernel
theorem dX12_goesOf_103 : decode cX12_goesOf 103 = .ok (.iload_n 1, 1) := by decide +kernel
theorem dX12_goesOf_104 : decode cX12_goesOf 104 = .ok (.iadd, 1) := by decide +kernel
theorem dX12_goesOf_105 : decode cX12_goesOf 105 = .ok (.invokevirtual 356, 3) := by decide +kernel
theorem dX12_goesOf_108 : decode cX12_goesOf 108 = .ok (.istore 4, 2) := by decide +kernel
theorem dX12_goesOf_110 : decode cX12_goesOf 110 = .ok (.iload 4, 2) := by decide +kernel
theorem dX12_goesOf_112 : decode cX12_goesOf 112 = .ok (.ifCond .ge 7, 3) := by decide +kernel
theorem dX12_goesOf_115 : decode cX12_goesOf 115 = .ok (.iconst 0, 1) := by decide +kernel
theorem dX12_goesOf_116 : decode cX12_goesOf 116 = .ok (.goto 8, 3) := by decide +kernel
theorem dX12_goesOf_119 : decode cX12_goesOf 119 = .ok (.iload 4, 2) := by decide +kernel
theorem dX12_goesOf_121 : decode cX12_goesOf 121 = .ok (.bipush 6, 2) := by decide +kernel
theorem dX12_goesOf_123 : decode cX12_goesOf 123 = .ok (.irem, 1) := by decide +kernel
theorem dX12_goesOf_124 : decode cX12_goesOf 124 = .ok (.ireturn, 1) := by decide +kernel
theorem dX12_dx_0 : decode cX12_dx 0 = .ok (.iload_n 0, 1) := by decide +kernel
theorem dX12_dx_1 : decode cX12_dx 1 = .ok (.iconst 2, 1) := by decide +kernel
theorem dX12_dx_2 : decode cX12_dx 2 = .ok (.if_icmp .ne 7, 3) := by decide +kernel
theorem dX12_dx_5 : decode cX12_dx 5 = .ok (.iconst 1, 1) := by decide +kernel
theorem dX12_dx_6 : decode cX12_dx 6 = .ok (.goto 13, 3) := by decide +kernel
theorem dX12_dx_9 : decode cX12_dx 9 = .ok (.iload_n 0, 1) := by decide +kernel
theorem dX12_dx_10 : decode cX12_dx 10 = .ok (.iconst 4, 1) := by decide +kernel
theorem dX12_dx_11 : decode cX12_dx 11 = .ok (.if_icmp .ne 7, 3) := by decide +kernel
theorem dX12_dx_14 : decode cX12_dx 14 = .ok (.iconst (-1), 1) := by decide +kernel
theorem dX12_dx_15 : decode cX12_dx 15 = .ok (.goto 4, 3) := by decide +kernel
theorem dX12_dx_18 : decode cX12_dx 18 = .ok (.iconst 0, 1) := by decide +kernel
theorem dX12_dx_19 : decode cX12_dx 19 = .ok (.ireturn, 1) := by decide +kernel
theorem dX12_dy_0 : decode cX12_dy 0 = .ok (.iload_n 0, 1) := by decide +kernel
theorem dX12_dy_1 : decode cX12_dy 1 = .ok (.iconst 1, 1) := by decide +kernel
theorem dX12_dy_2 : decode cX12_dy 2 = .ok (.if_icmp .ne 7, 3) := by decide +kernel
theorem dX12_dy_5 : decode cX12_dy 5 = .ok (.iconst 1, 1) := by decide +kernel
theorem dX12_dy_6 : decode cX12_dy 6 = .ok (.goto 13, 3) := by decide +kernel
theorem dX12_dy_9 : decode cX12_dy 9 = .ok (.iload_n 0, 1) := by decide +kernel
theorem dX12_dy_10 : decode cX12_dy 10 = .ok (.iconst 3, 1) := by decide +kernel
theorem dX12_dy_11 : decode cX12_dy 11 = .ok (.if_icmp .ne 7, 3) := by decide +kernel
theorem dX12_dy_14 : decode cX12_dy 14 = .ok (.iconst (-1), 1) := by decide +kernel
theorem dX12_dy_15 : decode cX12_dy 15 = .ok (.goto 4, 3) := by decide +kernel
theorem dX12_dy_18 : decode cX12_dy 18 = .ok (.iconst 0, 1) := by decide +kernel
theorem dX12_dy_19 : decode cX12_dy 19 = .ok (.ireturn, 1) := by decide +kernel
theorem dX12_isCorner_0 : decode cX12_isCorner 0 = .ok (.iload_n 1, 1) := by decide +kernel
theorem dX12_isCorner_1 : decode cX12_isCorner 1 = .ok (.iconst 0, 1) := by decide +kernel
theorem dX12_isCorner_2 : decode cX12_isCorner 2 = .ok (.aload_n 0, 1) := by decide +kernel
theorem dX12_isCorner_3 : decode cX12_isCorner 3 = .ok (.getfield 43, 3) := by decide +kernel
theorem dX12_isCorner_6 : decode cX12_isCorner 6 = .ok (.aload_n 0, 1) := by decide +kernel
theorem dX12_isCorner_7 : decode cX12_isCorner 7 = .ok (.getfield 258, 3) := by decide +kernel
theorem dX12_isCorner_10 : decode cX12_isCorner 10 = .ok (.iaload, 1) := by decide +kernel
theorem dX12_isCorner_11 : decode cX12_isCorner 11 = .ok (.iconst 1, 1) := by decide +kernel
theorem dX12_isCorner_12 : decode cX12_isCorner 12 = .ok (.isub, 1) := by decide +kernel
theorem dX12_isCorner_13 : decode cX12_isCorner 13 = .ok (.invokestatic 345, 3) := by decide +kernel
theorem dX12_isCorner_16 : decode cX12_isCorner 16 = .ok (.ifCond .eq 26, 3) := by decide +kernel
theorem dX12_isCorner_19 : decode cX12_isCorner 19 = .ok (.iload_n 2, 1) := by decide +kernel
theorem dX12_isCorner_20 : decode cX12_isCorner 20 = .ok (.iconst 0, 1) := by decide +kernel
theorem dX12_isCorner_21 : decode cX12_isCorner 21 = .ok (.aload_n 0, 1) := by decide +kernel
theorem dX12_isCorner_22 : decode cX12_isCorner 22 = .ok (.getfield 46, 3) := by decide +kernel
theorem dX12_isCorner_25 : decode cX12_isCorner 25 = .ok (.aload_n 0, 1) := by decide +kernel
theorem dX12_isCorner_26 : decode cX12_isCorner 26 = .ok (.getfield 258, 3) := by decide +kernel
theorem dX12_isCorner_29 : decode cX12_isCorner 29 = .ok (.iaload, 1) := by decide +kernel
theorem dX12_isCorner_30 : decode cX12_isCorner 30 = .ok (.iconst 1, 1) := by decide +kernel
theorem dX12_isCorner_31 : decode cX12_isCorner 31 = .ok (.isub, 1) := by decide +kernel
theorem dX12_isCorner_32 : decode cX12_isCorner 32 = .ok (.invokestatic 345, 3) := by decide +kernel
theorem dX12_isCorner_35 : decode cX12_isCorner 35 = .ok (.ifCond .eq 7, 3) := by decide +kernel
theorem dX12_isCorner_38 : decode cX12_isCorner 38 = .ok (.iconst 1, 1) := by decide +kernel
theorem dX12_isCorner_39 : decode cX12_isCorner 39 = .ok (.goto 4, 3) := by decide +kernel
theorem dX12_isCorner_42 : decode cX12_isCorner 42 = .ok (.iconst 0, 1) := by decide +kernel
theorem dX12_isCorner_43 : decode cX12_isCorner 43 = .ok (.ireturn, 1) := by decide +kernel
theorem dX12_streetOf_0 : decode cX12_streetOf 0 = .ok (.iload_n 2, 1) := by decide +kernel
theorem dX12_streetOf_1 : decode cX12_streetOf 1 = .ok (.iconst 4, 1) := by decide +kernel
theorem dX12_streetOf_2 : decode cX12_streetOf 2 = .ok (.if_icmp .ne 9, 3) := by decide +kernel
theorem dX12_streetOf_5 : decode cX12_streetOf 5 = .ok (.iload_n 0, 1) := by decide +kernel
theorem dX12_streetOf_6 : decode cX12_streetOf 6 = .ok (.iconst 1, 1) := by decide +kernel
theorem dX12_streetOf_7 : decode cX12_streetOf 7 = .ok (.isub, 1) := by decide +kernel
theorem dX12_streetOf_8 : decode cX12_streetOf 8 = .ok (.goto 4, 3) := by decide +kernel
theorem dX12_streetOf_11 : decode cX12_streetOf 11 = .ok (.iload_n 0, 1) := by decide +kernel
theorem dX12_streetOf_12 : decode cX12_streetOf 12 = .ok (.istore_n 3, 1) := by decide +kernel
theorem dX12_streetOf_13 : decode cX12_streetOf 13 = .ok (.iload_n 2, 1) := by decide +kernel
theorem dX12_streetOf_14 : decode cX12_streetOf 14 = .ok (.iconst 3, 1) := by decide +kernel
theorem dX12_streetOf_15 : decode cX12_streetOf 15 = .ok (.if_icmp .ne 9, 3) := by decide +kernel
theorem dX12_streetOf_18 : decode cX12_streetOf 18 = .ok (.iload_n 1, 1) := by decide +kernel
theorem dX12_streetOf_19 : decode cX12_streetOf 19 = .ok (.iconst 1, 1) := by decide +kernel
theorem dX12_streetOf_20 : decode cX12_streetOf 20 = .ok (.isub, 1) := by decide +kernel
theorem dX12_streetOf_21 : decode cX12_streetOf 21 = .ok (.goto 4, 3) := by decide +kernel
theorem dX12_streetOf_24 : decode cX12_streetOf 24 = .ok (.iload_n 1, 1) := by decide +kernel
theorem dX12_streetOf_25 : decode cX12_streetOf 25 = .ok (.istore 4, 2) := by decide +kernel
theorem dX12_streetOf_27 : decode cX12_streetOf 27 = .ok (.bipush 12, 2) := by decide +kernel
theorem dX12_streetOf_29 : decode cX12_streetOf 29 = .ok (.iload 4, 2) := by decide +kernel
theorem dX12_streetOf_31 : decode cX12_streetOf 31 = .ok (.imul, 1) := by decide +kernel
theorem dX12_streetOf_32 : decode cX12_streetOf 32 = .ok (.iload_n 3, 1) := by decide +kernel
theorem dX12_streetOf_33 : decode cX12_streetOf 33 = .ok (.iadd, 1) := by decide +kernel
theorem dX12_streetOf_34 : decode cX12_streetOf 34 = .ok (.iload_n 2, 1) := by decide +kernel
theorem dX12_streetOf_35 : decode cX12_streetOf 35 = .ok (.iconst 1, 1) := by decide +kernel
theorem dX12_streetOf_36 : decode cX12_streetOf 36 = .ok (.if_icmp .eq 8, 3) := by decide +kernel
theorem dX12_streetOf_39 : decode cX12_streetOf 39 = .ok (.iload_n 2, 1) := by decide +kernel
theorem dX12_streetOf_40 : decode cX12_streetOf 40 = .ok (.iconst 3, 1) := by decide +kernel
theorem dX12_streetOf_41 : decode cX12_streetOf 41 = .ok (.if_icmp .ne 9, 3) := by decide +kernel
theorem dX12_streetOf_44 : decode cX12_streetOf 44 = .ok (.sipush 144, 3) := by decide +kernel
theorem dX12_streetOf_47 : decode cX12_streetOf 47 = .ok (.goto 4, 3) := by decide +kernel
theorem dX12_streetOf_50 : decode cX12_streetOf 50 = .ok (.iconst 0, 1) := by decide +kernel
theorem dX12_streetOf_51 : decode cX12_streetOf 51 = .ok (.iadd, 1) := by decide +kernel
theorem dX12_streetOf_52 : decode cX12_streetOf 52 = .ok (.ireturn, 1) := by decide +kernel
theorem dX12_steps_0 : decode cX12_steps 0 = .ok (.aload_n 0, 1) := by decide +kernel
theorem dX12_steps_1 : decode cX12_steps 1 = .ok (.getfield 131, 3) := by decide +kernel
theorem dX12_steps_4 : decode cX12_steps 4 = .ok (.iload_n 1, 1) := by decide +kernel
theorem dX12_steps_5 : decode cX12_steps 5 = .ok (.iaload, 1) := by decide +kernel
theorem dX12_steps_6 : decode cX12_steps 6 = .ok (.iload_n 2, 1) := by decide +kernel
theorem dX12_steps_7 : decode cX12_steps 7 = .ok (.invokestatic 368, 3) := by decide +kernel
theorem dX12_steps_10 : decode cX12_steps 10 = .ok (.iadd, 1) := by decide +kernel
theorem dX12_steps_11 : decode cX12_steps 11 = .ok (.istore_n 3, 1) := by decide +kernel
theorem dX12_steps_12 : decode cX12_steps 12 = .ok (.aload_n 0, 1) := by decide +kernel
theorem dX12_steps_13 : decode cX12_steps 13 = .ok (.getfield 131, 3) := by decide +kernel
theorem dX12_steps_16 : decode cX12_steps 16 = .ok (.bipush 7, 2) := by decide +kernel
theorem dX12_steps_18 : decode cX12_steps 18 = .ok (.iload_n 1, 1) := by decide +kernel
theorem dX12_steps_19 : decode cX12_steps 19 = .ok (.iadd, 1) := by decide +kernel
theorem dX12_steps_20 : decode cX12_steps 20 = .ok (.iaload, 1) := by decide +kernel
theorem dX12_steps_21 : decode cX12_steps 21 = .ok (.iload_n 2, 1) := by decide +kernel
theorem dX12_steps_22 : decode cX12_steps 22 = .ok (.invokestatic 371, 3) := by decide +kernel
theorem dX12_steps_25 : decode cX12_steps 25 = .ok (.iadd, 1) := by decide +kernel
theorem dX12_steps_26 : decode cX12_steps 26 = .ok (.istore 4, 2) := by decide +kernel
theorem dX12_steps_28 : decode cX12_steps 28 = .ok (.aload_n 0, 1) := by decide +kernel
theorem dX12_steps_29 : decode cX12_steps 29 = .ok (.getfield 131, 3) := by decide +kernel
theorem dX12_steps_32 : decode cX12_steps 32 = .ok (.bipush 21, 2) := by decide +kernel
theorem dX12_steps_34 : decode cX12_steps 34 = .ok (.iload_n 1, 1) := by decide +kernel
theorem dX12_steps_35 : decode cX12_steps 35 = .ok (.iadd, 1) := by decide +kernel
theorem dX12_steps_36 : decode cX12_steps 36 = .ok (.iaload, 1) := by decide +kernel
theorem dX12_steps_37 : decode cX12_steps 37 = .ok (.iconst 1, 1) := by decide +kernel
theorem dX12_steps_38 : decode cX12_steps 38 = .ok (.if_icmp .eq 22, 3) := by decide +kernel
theorem dX12_steps_41 : decode cX12_steps 41 = .ok (.aload_n 0, 1) := by decide +kernel
theorem dX12_steps_42 : decode cX12_steps 42 = .ok (.iload_n 3, 1) := by decide +kernel
theorem dX12_steps_43 : decode cX12_steps 43 = .ok (.iload 4, 2) := by decide +kernel
theorem dX12_steps_45 : decode cX12_steps 45 = .ok (.invokevirtual 374, 3) := by decide +kernel
theorem dX12_steps_48 : decode cX12_steps 48 = .ok (.ifCond .eq 12, 3) := by decide +kernel
theorem dX12_steps_51 : decode cX12_steps 51 = .ok (.aload_n 0, 1) := by decide +kernel
theorem dX12_steps_52 : decode cX12_steps 52 = .ok (.iload_n 1, 1) := by decide +kernel
theorem dX12_steps_53 : decode cX12_steps 53 = .ok (.invokevirtual 362, 3) := by decide +kernel
theorem dX12_steps_56 : decode cX12_steps 56 = .ok (.iconst 1, 1) := by decide +kernel
theorem dX12_steps_57 : decode cX12_steps 57 = .ok (.if_icmp .ge 5, 3) := by decide +kernel
theorem dX12_steps_60 : decode cX12_steps 60 = .ok (.iconst 0, 1) := by decide +kernel
theorem dX12_steps_61 : decode cX12_steps 61 = .ok (.ireturn, 1) := by decide +kernel
theorem dX12_steps_62 : decode cX12_steps 62 = .ok (.bipush 60, 2) := by decide +kernel
theorem dX12_steps_64 : decode cX12_steps 64 = .ok (.iload_n 1, 1) := by decide +kernel
theorem dX12_steps_65 : decode cX12_steps 65 = .ok (.imul, 1) := by decide +kernel
theorem dX12_steps_66 : decode cX12_steps 66 = .ok (.aload_n 0, 1) := by decide +kernel
theorem dX12_steps_67 : decode cX12_steps 67 = .ok (.getfield 131, 3) := by decide +kernel
theorem dX12_steps_70 : decode cX12_steps 70 = .ok (.bipush 14, 2) := by decide +kernel
theorem dX12_steps_72 : decode cX12_steps 72 = .ok (.iload_n 1, 1) := by decide +kernel
theorem dX12_steps_73 : decode cX12_steps 73 = .ok (.iadd, 1) := by decide +kernel
theorem dX12_steps_74 : decode cX12_steps 74 = .ok (.iaload, 1) := by decide +kernel
theorem dX12_steps_75 : decode cX12_steps 75 = .ok (.iadd, 1) := by decide +kernel
theorem dX12_steps_76 : decode cX12_steps 76 = .ok (.istore 5, 2) := by decide +kernel
theorem dX12_steps_78 : decode cX12_steps 78 = .ok (.aload_n 0, 1) := by decide +kernel
theorem dX12_steps_79 : decode cX12_steps 79 = .ok (.getfield 131, 3) := by decide +kernel
theorem dX12_steps_82 : decode cX12_steps 82 = .ok (.bipush 30, 2) := by decide +kernel
theorem dX12_steps_84 : decode cX12_steps 84 = .ok (.iload 5, 2) := by decide +kernel
theorem dX12_steps_86 : decode cX12_steps 86 = .ok (.iadd, 1) := by decide +kernel
theorem dX12_steps_87 : decode cX12_steps 87 = .ok (.iload_n 2, 1) := by decide +kernel
theorem dX12_steps_88 : decode cX12_steps 88 = .ok (.iastore, 1) := by decide +kernel
theorem dX12_steps_89 : decode cX12_steps 89 = .ok (.aload_n 0, 1) := by decide +kernel
theorem dX12_steps_90 : decode cX12_steps 90 = .ok (.getfield 131, 3) := by decide +kernel
theorem dX12_steps_93 : decode cX12_steps 93 = .ok (.sipush 450, 3) := by decide +kernel
theorem dX12_steps_96 : decode cX12_steps 96 = .ok (.iload 5, 2) := by decide +kernel
theorem dX12_steps_98 : decode cX12_steps 98 = .ok (.iadd, 1) := by decide +kernel
theorem dX12_steps_99 : decode cX12_steps 99 = .ok (.aload_n 0, 1) := by decide +kernel
theorem dX12_steps_100 : decode cX12_steps 100 = .ok (.getfield 131, 3) := by decide +kernel
theorem dX12_steps_103 : decode cX12_steps 103 = .ok (.bipush 29, 2) := by decide +kernel
theorem dX12_steps_105 : decode cX12_steps 105 = .ok (.iaload, 1) := by decide +kernel
theorem dX12_steps_106 : decode cX12_steps 106 = .ok (.iastore, 1) := by decide +kernel
theorem dX12_steps_107 : decode cX12_steps 107 = .ok (.aload_n 0, 1) := by decide +kernel
theorem dX12_steps_108 : decode cX12_steps 108 = .ok (.getfield 131, 3) := by decide +kernel
theorem dX12_steps_111 : decode cX12_steps 111 = .ok (.sipush 870, 3) := by decide +kernel
theorem dX12_steps_114 : decode cX12_steps 114 = .ok (.iload 5, 2) := by decide +kernel
theorem dX12_steps_116 : decode cX12_steps 116 = .ok (.iadd, 1) := by decide +kernel
theorem dX12_steps_117 : decode cX12_steps 117 = .ok (.aload_n 0, 1) := by decide +kernel
theorem dX12_steps_118 : decode cX12_steps 118 = .ok (.getfield 131, 3) := by decide +kernel
theorem dX12_steps_121 : decode cX12_steps 121 = .ok (.iload_n 1, 1) := by decide +kernel
theorem dX12_steps_122 : decode cX12_steps 122 = .ok (.iaload, 1) := by decide +kernel
theorem dX12_steps_123 : decode cX12_steps 123 = .ok (.aload_n 0, 1) := by decide +kernel
theorem dX12_steps_124 : decode cX12_steps 124 = .ok (.getfield 131, 3) := by decide +kernel
theorem dX12_steps_127 : decode cX12_steps 127 = .ok (.bipush 7, 2) := by decide +kernel
theorem dX12_steps_129 : decode cX12_steps 129 = .ok (.iload_n 1, 1) := by decide +kernel
theorem dX12_steps_130 : decode cX12_steps 130 = .ok (.iadd, 1) := by decide +kernel
theorem dX12_steps_131 : decode cX12_steps 131 = .ok (.iaload, 1) := by decide +kernel
theorem dX12_steps_132 : decode cX12_steps 132 = .ok (.iload_n 2, 1) := by decide +kernel
theorem dX12_steps_133 : decode cX12_steps 133 = .ok (.invokestatic 378, 3) := by decide +kernel
theorem dX12_steps_136 : decode cX12_steps 136 = .ok (.iastore, 1) := by decide +kernel
theorem dX12_steps_137 : decode cX12_steps 137 = .ok (.aload_n 0, 1) := by decide +kernel
theorem dX12_steps_138 : decode cX12_steps 138 = .ok (.getfield 131, 3) := by decide +kernel
theorem dX12_steps_141 : decode cX12_steps 141 = .ok (.bipush 29, 2) := by decide +kernel
theorem dX12_steps_143 : decode cX12_steps 143 = .ok (.dup2, 1) := by decide +kernel
theorem dX12_steps_144 : decode cX12_steps 144 = .ok (.iaload, 1) := by decide +kernel
theorem dX12_steps_145 : decode cX12_steps 145 = .ok (.iconst 1, 1) := by decide +kernel
theorem dX12_steps_146 : decode cX12_steps 146 = .ok (.iadd, 1) := by decide +kernel
theorem dX12_steps_147 : decode cX12_steps 147 = .ok (.iastore, 1) := by decide +kernel
theorem dX12_steps_148 : decode cX12_steps 148 = .ok (.aload_n 0, 1) := by decide +kernel
theorem dX12_steps_149 : decode cX12_steps 149 = .ok (.getfield 131, 3) := by decide +kernel
theorem dX12_steps_152 : decode cX12_steps 152 = .ok (.bipush 14, 2) := by decide +kernel
theorem dX12_steps_154 : decode cX12_steps 154 = .ok (.iload_n 1, 1) := by decide +kernel
theorem dX12_steps_155 : decode cX12_steps 155 = .ok (.iadd, 1) := by decide +kernel
theorem dX12_steps_156 : decode cX12_steps 156 = .ok (.dup2, 1) := by decide +kernel
theorem dX12_steps_157 : decode cX12_steps 157 = .ok (.iaload, 1) := by decide +kernel
theorem dX12_steps_158 : decode cX12_steps 158 = .ok (.iconst 1, 1) := by decide +kernel
theorem dX12_steps_159 : decode cX12_steps 159 = .ok (.iadd, 1) := by decide +kernel
theorem dX12_steps_160 : decode cX12_steps 160 = .ok (.iastore, 1) := by decide +kernel
theorem dX12_steps_161 : decode cX12_steps 161 = .ok (.aload_n 0, 1) := by decide +kernel
theorem dX12_steps_162 : decode cX12_steps 162 = .ok (.getfield 131, 3) := by decide +kernel
theorem dX12_steps_165 : decode cX12_steps 165 = .ok (.iload_n 1, 1) := by decide +kernel
theorem dX12_steps_166 : decode cX12_steps 166 = .ok (.iload_n 3, 1) := by decide +kernel
theorem dX12_steps_167 : decode cX12_steps 167 = .ok (.iastore, 1) := by decide +kernel
theorem dX12_steps_168 : decode cX12_steps 168 = .ok (.aload_n 0, 1) := by decide +kernel
theorem dX12_steps_169 : decode cX12_steps 169 = .ok (.getfield 131, 3) := by decide +kernel
theorem dX12_steps_172 : decode cX12_steps 172 = .ok (.bipush 7, 2) := by decide +kernel
theorem dX12_steps_174 : decode cX12_steps 174 = .ok (.iload_n 1, 1) := by decide +kernel
theorem dX12_steps_175 : decode cX12_steps 175 = .ok (.iadd, 1) := by decide +kernel
theorem dX12_steps_176 : decode cX12_steps 176 = .ok (.iload 4, 2) := by decide +kernel
theorem dX12_steps_178 : decode cX12_steps 178 = .ok (.iastore, 1) := by decide +kernel
theorem dX12_steps_179 : decode cX12_steps 179 = .ok (.iconst 1, 1) := by decide +kernel
theorem dX12_steps_180 : decode cX12_steps 180 = .ok (.ireturn, 1) := by decide +kernel
theorem dX12_others_0 : decode cX12_others 0 = .ok (.iconst 0, 1) := by decide +kernel
theorem dX12_others_1 : decode cX12_others 1 = .ok (.istore 4, 2) := by decide +kernel
theorem dX12_others_3 : decode cX12_others 3 = .ok (.iconst 0, 1) := by decide +kernel
theorem dX12_others_4 : decode cX12_others 4 = .ok (.istore 5, 2) := by decide +kernel
theorem dX12_others_6 : decode cX12_others 6 = .ok (.iload 5, 2) := by decide +kernel
theorem dX12_others_8 : decode cX12_others 8 = .ok (.aload_n 0, 1) := by decide +kernel
theorem dX12_others_9 : decode cX12_others 9 = .ok (.getfield 49, 3) := by decide +kernel
theorem dX12_others_12 : decode cX12_others 12 = .ok (.aload_n 0, 1) := by decide +kernel
theorem dX12_others_13 : decode cX12_others 13 = .ok (.getfield 258, 3) := by decide +kernel
theorem dX12_others_16 : decode cX12_others 16 = .ok (.iaload, 1) := by decide +kernel
theorem dX12_others_17 : decode cX12_others 17 = .ok (.if_icmp .ge 98, 3) := by decide +kernel
theorem dX12_others_20 : decode cX12_others 20 = .ok (.iconst 0, 1) := by decide +kernel
theorem dX12_others_21 : decode cX12_others 21 = .ok (.istore 6, 2) := by decide +kernel
theorem dX12_others_23 : decode cX12_others 23 = .ok (.iload 6, 2) := by decide +kernel
theorem dX12_others_25 : decode cX12_others 25 = .ok (.aload_n 0, 1) := by decide +kernel
theorem dX12_others_26 : decode cX12_others 26 = .ok (.getfield 131, 3) := by decide +kernel
theorem dX12_others_29 : decode cX12_others 29 = .ok (.bipush 14, 2) := by decide +kernel
theorem dX12_others_31 : decode cX12_others 31 = .ok (.iload 5, 2) := by decide +kernel
theorem dX12_others_33 : decode cX12_others 33 = .ok (.iadd, 1) := by decide +kernel
theorem dX12_others_34 : decode cX12_others 34 = .ok (.iaload, 1) := by decide +kernel
theorem dX12_others_35 : decode cX12_others 35 = .ok (.if_icmp .ge 74, 3) := by decide +kernel
theorem dX12_others_38 : decode cX12_others 38 = .ok (.bipush 60, 2) := by decide +kernel
theorem dX12_others_40 : decode cX12_others 40 = .ok (.iload 5, 2) := by decide +kernel
theorem dX12_others_42 : decode cX12_others 42 = .ok (.imul, 1) := by decide +kernel
theorem dX12_others_43 : decode cX12_others 43 = .ok (.iload 6, 2) := by decide +kernel
theorem dX12_others_45 : decode cX12_others 45 = .ok (.iadd, 1) := by decide +kernel
theorem dX12_others_46 : decode cX12_others 46 = .ok (.istore 7, 2) := by decide +kernel
theorem dX12_others_48 : decode cX12_others 48 = .ok (.aload_n 0, 1) := by decide +kernel
theorem dX12_others_49 : decode cX12_others 49 = .ok (.getfield 131, 3) := by decide +kernel
theorem dX12_others_52 : decode cX12_others 52 = .ok (.sipush 870, 3) := by decide +kernel
theorem dX12_others_55 : decode cX12_others 55 = .ok (.iload 7, 2) := by decide +kernel
theorem dX12_others_57 : decode cX12_others 57 = .ok (.iadd, 1) := by decide +kernel
theorem dX12_others_58 : decode cX12_others 58 = .ok (.iaload, 1) := by decide +kernel
theorem dX12_others_59 : decode cX12_others 59 = .ok (.iload_n 1, 1) := by decide +kernel
theorem dX12_others_60 : decode cX12_others 60 = .ok (.if_icmp .ne 43, 3) := by decide +kernel
theorem dX12_others_63 : decode cX12_others 63 = .ok (.iload_n 3, 1) := by decide +kernel
theorem dX12_others_64 : decode cX12_others 64 = .ok (.ifCond .eq 21, 3) := by decide +kernel
theorem dX12_others_67 : decode cX12_others 67 = .ok (.aload_n 0, 1) := by decide +kernel
theorem dX12_others_68 : decode cX12_others 68 = .ok (.getfield 131, 3) := by decide +kernel
theorem dX12_others_71 : decode cX12_others 71 = .ok (.sipush 450, 3) := by decide +kernel
theorem dX12_others_74 : decode cX12_others 74 = .ok (.iload 7, 2) := by decide +kernel
theorem dX12_others_76 : decode cX12_others 76 = .ok (.iadd, 1) := by decide +kernel
theorem dX12_others_77 : decode cX12_others 77 = .ok (.iaload, 1) := by decide +kernel
theorem dX12_others_78 : decode cX12_others 78 = .ok (.iload_n 2, 1) := by decide +kernel
theorem dX12_others_79 : decode cX12_others 79 = .ok (.if_icmp .le 24, 3) := by decide +kernel
theorem dX12_others_82 : decode cX12_others 82 = .ok (.goto 18, 3) := by decide +kernel
theorem dX12_others_85 : decode cX12_others 85 = .ok (.aload_n 0, 1) := by decide +kernel
theorem dX12_others_86 : decode cX12_others 86 = .ok (.getfield 131, 3) := by decide +kernel
theorem dX12_others_89 : decode cX12_others 89 = .ok (.sipush 450, 3) := by decide +kernel
theorem dX12_others_92 : decode cX12_others 92 = .ok (.iload 7, 2) := by decide +kernel
theorem dX12_others_94 : decode cX12_others 94 = .ok (.iadd, 1) := by decide +kernel
theorem dX12_others_95 : decode cX12_others 95 = .ok (.iaload, 1) := by decide +kernel
theorem dX12_others_96 : decode cX12_others 96 = .ok (.iload_n 2, 1) := by decide +kernel
theorem dX12_others_97 : decode cX12_others 97 = .ok (.if_icmp .ge 6, 3) := by decide +kernel
theorem dX12_others_100 : decode cX12_others 100 = .ok (.iinc 4 1, 3) := by decide +kernel
theorem dX12_others_103 : decode cX12_others 103 = .ok (.iinc 6 1, 3) := by decide +kernel
theorem dX12_others_106 : decode cX12_others 106 = .ok (.goto (-83), 3) := by decide +kernel
theorem dX12_others_109 : decode cX12_others 109 = .ok (.iinc 5 1, 3) := by decide +kernel
theorem dX12_others_112 : decode cX12_others 112 = .ok (.goto (-106), 3) := by decide +kernel
theorem dX12_others_115 : decode cX12_others 115 = .ok (.iload 4, 2) := by decide +kernel
theorem dX12_others_117 : decode cX12_others 117 = .ok (.ireturn, 1) := by decide +kernel
theorem dX12_winds_0 : decode cX12_winds 0 = .ok (.aload_n 0, 1) := by decide +kernel
theorem dX12_winds_1 : decode cX12_winds 1 = .ok (.getfield 131, 3) := by decide +kernel
theorem dX12_winds_4 : decode cX12_winds 4 = .ok (.bipush 21, 2) := by decide +kernel
theorem dX12_winds_6 : decode cX12_winds 6 = .ok (.iload_n 1, 1) := by decide +kernel
theorem dX12_winds_7 : decode cX12_winds 7 = .ok (.iadd, 1) := by decide +kernel
theorem dX12_winds_8 : decode cX12_winds 8 = .ok (.iaload, 1) := by decide +kernel
theorem dX12_winds_9 : decode cX12_winds 9 = .ok (.iconst 1, 1) := by decide +kernel
theorem dX12_winds_10 : decode cX12_winds 10 = .ok (.if_icmp .eq 15, 3) := by decide +kernel
theorem dX12_winds_13 : decode cX12_winds 13 = .ok (.aload_n 0, 1) := by decide +kernel
theorem dX12_winds_14 : decode cX12_winds 14 = .ok (.getfield 131, 3) := by decide +kernel
theorem dX12_winds_17 : decode cX12_winds 17 = .ok (.bipush 14, 2) := by decide +kernel
theorem dX12_winds_19 : decode cX12_winds 19 = .ok (.iload_n 1, 1) := by decide +kernel
theorem dX12_winds_20 : decode cX12_winds 20 = .ok (.iadd, 1) := by decide +kernel
theorem dX12_winds_21 : decode cX12_winds 21 = .ok (.iaload, 1) := by decide +kernel
theorem dX12_winds_22 : decode cX12_winds 22 = .ok (.ifCond .ne 5, 3) := by decide +kernel
theorem dX12_winds_25 : decode cX12_winds 25 = .ok (.iconst 0, 1) := by decide +kernel
theorem dX12_winds_26 : decode cX12_winds 26 = .ok (.ireturn, 1) := by decide +kernel
theorem dX12_winds_27 : decode cX12_winds 27 = .ok (.bipush 60, 2) := by decide +kernel
theorem dX12_winds_29 : decode cX12_winds 29 = .ok (.iload_n 1, 1) := by decide +kernel
theorem dX12_winds_30 : decode cX12_winds 30 = .ok (.imul, 1) := by decide +kernel
theorem dX12_winds_31 : decode cX12_winds 31 = .ok (.aload_n 0, 1) := by decide +kernel
theorem dX12_winds_32 : decode cX12_winds 32 = .ok (.getfield 131, 3) := by decide +kernel
theorem dX12_winds_35 : decode cX12_winds 35 = .ok (.bipush 14, 2) := by decide +kernel
theorem dX12_winds_37 : decode cX12_winds 37 = .ok (.iload_n 1, 1) := by decide +kernel
theorem dX12_winds_38 : decode cX12_winds 38 = .ok (.iadd, 1) := by decide +kernel
theorem dX12_winds_39 : decode cX12_winds 39 = .ok (.iaload, 1) := by decide +kernel
theorem dX12_winds_40 : decode cX12_winds 40 = .ok (.iadd, 1) := by decide +kernel
theorem dX12_winds_41 : decode cX12_winds 41 = .ok (.iconst 1, 1) := by decide +kernel
theorem dX12_winds_42 : decode cX12_winds 42 = .ok (.isub, 1) := by decide +kernel
theorem dX12_winds_43 : decode cX12_winds 43 = .ok (.istore_n 2, 1) := by decide +kernel
theorem dX12_winds_44 : decode cX12_winds 44 = .ok (.aload_n 0, 1) := by decide +kernel
theorem dX12_winds_45 : decode cX12_winds 45 = .ok (.aload_n 0, 1) := by decide +kernel
theorem dX12_winds_46 : decode cX12_winds 46 = .ok (.getfield 131, 3) := by decide +kernel
theorem dX12_winds_49 : decode cX12_winds 49 = .ok (.sipush 870, 3) := by decide +kernel
theorem dX12_winds_52 : decode cX12_winds 52 = .ok (.iload_n 2, 1) := by decide +kernel
theorem dX12_winds_53 : decode cX12_winds 53 = .ok (.iadd, 1) := by decide +kernel
theorem dX12_winds_54 : decode cX12_winds 54 = .ok (.iaload, 1) := by decide +kernel
theorem dX12_winds_55 : decode cX12_winds 55 = .ok (.aload_n 0, 1) := by decide +kernel
theorem dX12_winds_56 : decode cX12_winds 56 = .ok (.getfield 131, 3) := by decide +kernel
theorem dX12_winds_59 : decode cX12_winds 59 = .ok (.sipush 450, 3) := by decide +kernel
theorem dX12_winds_62 : decode cX12_winds 62 = .ok (.iload_n 2, 1) := by decide +kernel
theorem dX12_winds_63 : decode cX12_winds 63 = .ok (.iadd, 1) := by decide +kernel
theorem dX12_winds_64 : decode cX12_winds 64 = .ok (.iaload, 1) := by decide +kernel
theorem dX12_winds_65 : decode cX12_winds 65 = .ok (.iconst 1, 1) := by decide +kernel
theorem dX12_winds_66 : decode cX12_winds 66 = .ok (.invokevirtual 381, 3) := by decide +kernel
theorem dX12_winds_69 : decode cX12_winds 69 = .ok (.ifCond .le 5, 3) := by decide +kernel
theorem dX12_winds_72 : decode cX12_winds 72 = .ok (.iconst 0, 1) := by decide +kernel
theorem dX12_winds_73 : decode cX12_winds 73 = .ok (.ireturn, 1) := by decide +kernel
theorem dX12_winds_74 : decode cX12_winds 74 = .ok (.aload_n 0, 1) := by decide +kernel
theorem dX12_winds_75 : decode cX12_winds 75 = .ok (.getfield 131, 3) := by decide +kernel
theorem dX12_winds_78 : decode cX12_winds 78 = .ok (.bipush 14, 2) := by decide +kernel
theorem dX12_winds_80 : decode cX12_winds 80 = .ok (.iload_n 1, 1) := by decide +kernel
theorem dX12_winds_81 : decode cX12_winds 81 = .ok (.iadd, 1) := by decide +kernel
theorem dX12_winds_82 : decode cX12_winds 82 = .ok (.dup2, 1) := by decide +kernel
theorem dX12_winds_83 : decode cX12_winds 83 = .ok (.iaload, 1) := by decide +kernel
theorem dX12_winds_84 : decode cX12_winds 84 = .ok (.iconst 1, 1) := by decide +kernel
theorem dX12_winds_85 : decode cX12_winds 85 = .ok (.isub, 1) := by decide +kernel
theorem dX12_winds_86 : decode cX12_winds 86 = .ok (.iastore, 1) := by decide +kernel
theorem dX12_winds_87 : decode cX12_winds 87 = .ok (.aload_n 0, 1) := by decide +kernel
theorem dX12_winds_88 : decode cX12_winds 88 = .ok (.getfield 131, 3) := by decide +kernel
theorem dX12_winds_91 : decode cX12_winds 91 = .ok (.iload_n 1, 1) := by decide +kernel
theorem dX12_winds_92 : decode cX12_winds 92 = .ok (.dup2, 1) := by decide +kernel
theorem dX12_winds_93 : decode cX12_winds 93 = .ok (.iaload, 1) := by decide +kernel
theorem dX12_winds_94 : decode cX12_winds 94 = .ok (.aload_n 0, 1) := by decide +kernel
theorem dX12_winds_95 : decode cX12_winds 95 = .ok (.getfield 131, 3) := by decide +kernel
theorem dX12_winds_98 : decode cX12_winds 98 = .ok (.bipush 30, 2) := by decide +kernel
theorem dX12_winds_100 : decode cX12_winds 100 = .ok (.iload_n 2, 1) := by decide +kernel
theorem dX12_winds_101 : decode cX12_winds 101 = .ok (.iadd, 1) := by decide +kernel
theorem dX12_winds_102 : decode cX12_winds 102 = .ok (.iaload, 1) := by decide +kernel
theorem dX12_winds_103 : decode cX12_winds 103 = .ok (.invokestatic 368, 3) := by decide +kernel
theorem dX12_winds_106 : decode cX12_winds 106 = .ok (.isub, 1) := by decide +kernel
theorem dX12_winds_107 : decode cX12_winds 107 = .ok (.iastore, 1) := by decide +kernel
theorem dX12_winds_108 : decode cX12_winds 108 = .ok (.aload_n 0, 1) := by decide +kernel
theorem dX12_winds_109 : decode cX12_winds 109 = .ok (.getfield 131, 3) := by decide +kernel
theorem dX12_winds_112 : decode cX12_winds 112 = .ok (.bipush 7, 2) := by decide +kernel
theorem dX12_winds_114 : decode cX12_winds 114 = .ok (.iload_n 1, 1) := by decide +kernel
theorem dX12_winds_115 : decode cX12_winds 115 = .ok (.iadd, 1) := by decide +kernel
theorem dX12_winds_116 : decode cX12_winds 116 = .ok (.dup2, 1) := by decide +kernel
theorem dX12_winds_117 : decode cX12_winds 117 = .ok (.iaload, 1) := by decide +kernel
theorem dX12_winds_118 : decode cX12_winds 118 = .ok (.aload_n 0, 1) := by decide +kernel
theorem dX12_winds_119 : decode cX12_winds 119 = .ok (.getfield 131, 3) := by decide +kernel
theorem dX12_winds_122 : decode cX12_winds 122 = .ok (.bipush 30, 2) := by decide +kernel
theorem dX12_winds_124 : decode cX12_winds 124 = .ok (.iload_n 2, 1) := by decide +kernel
theorem dX12_winds_125 : decode cX12_winds 125 = .ok (.iadd, 1) := by decide +kernel
theorem dX12_winds_126 : decode cX12_winds 126 = .ok (.iaload, 1) := by decide +kernel
theorem dX12_winds_127 : decode cX12_winds 127 = .ok (.invokestatic 371, 3) := by decide +kernel
theorem dX12_winds_130 : decode cX12_winds 130 = .ok (.isub, 1) := by decide +kernel
theorem dX12_winds_131 : decode cX12_winds 131 = .ok (.iastore, 1) := by decide +kernel
theorem dX12_winds_132 : decode cX12_winds 132 = .ok (.iconst 1, 1) := by decide +kernel
theorem dX12_winds_133 : decode cX12_winds 133 = .ok (.ireturn, 1) := by decide +kernel
theorem dX12_minuteGoes_0 : decode cX12_minuteGoes 0 = .ok (.iconst 0, 1) := by decide +kernel
theorem dX12_minuteGoes_1 : decode cX12_minuteGoes 1 = .ok (.istore_n 1, 1) := by decide +kernel
theorem dX12_minuteGoes_2 : decode cX12_minuteGoes 2 = .ok (.iload_n 1, 1) := by decide +kernel
theorem dX12_minuteGoes_3 : decode cX12_minuteGoes 3 = .ok (.aload_n 0, 1) := by decide +kernel
theorem dX12_minuteGoes_4 : decode cX12_minuteGoes 4 = .ok (.getfield 49, 3) := by decide +kernel
theorem dX12_minuteGoes_7 : decode cX12_minuteGoes 7 = .ok (.aload_n 0, 1) := by decide +kernel
theorem dX12_minuteGoes_8 : decode cX12_minuteGoes 8 = .ok (.getfield 258, 3) := by decide +kernel
theorem dX12_minuteGoes_11 : decode cX12_minuteGoes 11 = .ok (.iaload, 1) := by decide +kernel
theorem dX12_minuteGoes_12 : decode cX12_minuteGoes 12 = .ok (.if_icmp .ge 74, 3) := by decide +kernel
theorem dX12_minuteGoes_15 : decode cX12_minuteGoes 15 = .ok (.aload_n 0, 1) := by decide +kernel
theorem dX12_minuteGoes_16 : decode cX12_minuteGoes 16 = .ok (.getfield 131, 3) := by decide +kernel
theorem dX12_minuteGoes_19 : decode cX12_minuteGoes 19 = .ok (.bipush 21, 2) := by decide +kernel
theorem dX12_minuteGoes_21 : decode cX12_minuteGoes 21 = .ok (.iload_n 1, 1) := by decide +kernel
theorem dX12_minuteGoes_22 : decode cX12_minuteGoes 22 = .ok (.iadd, 1) := by decide +kernel
theorem dX12_minuteGoes_23 : decode cX12_minuteGoes 23 = .ok (.iaload, 1) := by decide +kernel
theorem dX12_minuteGoes_24 : decode cX12_minuteGoes 24 = .ok (.iconst 1, 1) := by decide +kernel
theorem dX12_minuteGoes_25 : decode cX12_minuteGoes 25 = .ok (.if_icmp .eq 55, 3) := by decide +kernel
theorem dX12_minuteGoes_28 : decode cX12_minuteGoes 28 = .ok (.aload_n 0, 1) := by decide +kernel
theorem dX12_minuteGoes_29 : decode cX12_minuteGoes 29 = .ok (.getfield 131, 3) := by decide +kernel
theorem dX12_minuteGoes_32 : decode cX12_minuteGoes 32 = .ok (.bipush 28, 2) := by decide +kernel
theorem dX12_minuteGoes_34 : decode cX12_minuteGoes 34 = .ok (.iaload, 1) := by decide +kernel
theorem dX12_minuteGoes_35 : decode cX12_minuteGoes 35 = .ok (.aload_n 0, 1) := by decide +kernel
theorem dX12_minuteGoes_36 : decode cX12_minuteGoes 36 = .ok (.getfield 134, 3) := by decide +kernel
theorem dX12_minuteGoes_39 : decode cX12_minuteGoes 39 = .ok (.iload_n 1, 1) := by decide +kernel
theorem dX12_minuteGoes_40 : decode cX12_minuteGoes 40 = .ok (.iaload, 1) := by decide +kernel
theorem dX12_minuteGoes_41 : decode cX12_minuteGoes 41 = .ok (.if_icmp .ge 6, 3) := by decide +kernel
theorem dX12_minuteGoes_44 : decode cX12_minuteGoes 44 = .ok (.goto 36, 3) := by decide +kernel
theorem dX12_minuteGoes_47 : decode cX12_minuteGoes 47 = .ok (.aload_n 0, 1) := by decide +kernel
theorem dX12_minuteGoes_48 : decode cX12_minuteGoes 48 = .ok (.iload_n 1, 1) := by decide +kernel
theorem dX12_minuteGoes_49 : decode cX12_minuteGoes 49 = .ok (.invokevirtual 385, 3) := by decide +kernel
theorem dX12_minuteGoes_52 : decode cX12_minuteGoes 52 = .ok (.istore_n 2, 1) := by decide +kernel
theorem dX12_minuteGoes_53 : decode cX12_minuteGoes 53 = .ok (.iload_n 2, 1) := by decide +kernel
theorem dX12_minuteGoes_54 : decode cX12_minuteGoes 54 = .ok (.iconst 1, 1) := by decide +kernel
theorem dX12_minuteGoes_55 : decode cX12_minuteGoes 55 = .ok (.iconst 4, 1) := by decide +kernel
theorem dX12_minuteGoes_56 : decode cX12_minuteGoes 56 = .ok (.invokestatic 345, 3) := by decide +kernel
theorem dX12_minuteGoes_59 : decode cX12_minuteGoes 59 = .ok (.ifCond .eq 10, 3) := by decide +kernel
theorem dX12_minuteGoes_62 : decode cX12_minuteGoes 62 = .ok (.aload_n 0, 1) := by decide +kernel
theorem dX12_minuteGoes_63 : decode cX12_minuteGoes 63 = .ok (.iload_n 1, 1) := by decide +kernel
theorem dX12_minuteGoes_64 : decode cX12_minuteGoes 64 = .ok (.iload_n 2, 1) := by decide +kernel
theorem dX12_minuteGoes_65 : decode cX12_minuteGoes 65 = .ok (.invokevirtual 388, 3) := by decide +kernel
theorem dX12_minuteGoes_68 : decode cX12_minuteGoes 68 = .ok (.pop, 1) := by decide +kernel
theorem dX12_minuteGoes_69 : decode cX12_minuteGoes 69 = .ok (.iload_n 2, 1) := by decide +kernel
theorem dX12_minuteGoes_70 : decode cX12_minuteGoes 70 = .ok (.iconst 5, 1) := by decide +kernel
theorem dX12_minuteGoes_71 : decode cX12_minuteGoes 71 = .ok (.if_icmp .ne 9, 3) := by decide +kernel
theorem dX12_minuteGoes_74 : decode cX12_minuteGoes 74 = .ok (.aload_n 0, 1) := by decide +kernel
theorem dX12_minuteGoes_75 : decode cX12_minuteGoes 75 = .ok (.iload_n 1, 1) := by decide +kernel
theorem dX12_minuteGoes_76 : decode cX12_minuteGoes 76 = .ok (.invokevirtual 391, 3) := by decide +kernel
theorem dX12_minuteGoes_79 : decode cX12_minuteGoes 79 = .ok (.pop, 1) := by decide +kernel
theorem dX12_minuteGoes_80 : decode cX12_minuteGoes 80 = .ok (.iinc 1 1, 3) := by decide +kernel
theorem dX12_minuteGoes_83 : decode cX12_minuteGoes 83 = .ok (.goto (-81), 3) := by decide +kernel
theorem dX12_minuteGoes_86 : decode cX12_minuteGoes 86 = .ok (.aload_n 0, 1) := by decide +kernel
theorem dX12_minuteGoes_87 : decode cX12_minuteGoes 87 = .ok (.getfield 131, 3) := by decide +kernel
theorem dX12_minuteGoes_90 : decode cX12_minuteGoes 90 = .ok (.bipush 28, 2) := by decide +kernel
theorem dX12_minuteGoes_92 : decode cX12_minuteGoes 92 = .ok (.dup2, 1) := by decide +kernel
theorem dX12_minuteGoes_93 : decode cX12_minuteGoes 93 = .ok (.iaload, 1) := by decide +kernel
theorem dX12_minuteGoes_94 : decode cX12_minuteGoes 94 = .ok (.iconst 1, 1) := by decide +kernel
theorem dX12_minuteGoes_95 : decode cX12_minuteGoes 95 = .ok (.iadd, 1) := by decide +kernel
theorem dX12_minuteGoes_96 : decode cX12_minuteGoes 96 = .ok (.iastore, 1) := by decide +kernel
theorem dX12_minuteGoes_97 : decode cX12_minuteGoes 97 = .ok (.return_, 1) := by decide +kernel
theorem dX12_man_0 : decode cX12_man 0 = .ok (.aload_n 0, 1) := by decide +kernel
theorem dX12_man_1 : decode cX12_man 1 = .ok (.iload_n 1, 1) := by decide +kernel
theorem dX12_man_2 : decode cX12_man 2 = .ok (.invokevirtual 394, 3) := by decide +kernel
theorem dX12_man_5 : decode cX12_man 5 = .ok (.ifCond .ne 5, 3) := by decide +kernel
theorem dX12_man_8 : decode cX12_man 8 = .ok (.iconst (-1), 1) := by decide +kernel
theorem dX12_man_9 : decode cX12_man 9 = .ok (.ireturn, 1) := by decide +kernel
theorem dX12_man_10 : decode cX12_man 10 = .ok (.aload_n 0, 1) := by decide +kernel
theorem dX12_man_11 : decode cX12_man 11 = .ok (.invokevirtual 397, 3) := by decide +kernel
theorem dX12_man_14 : decode cX12_man 14 = .ok (.iload_n 2, 1) := by decide +kernel
theorem dX12_man_15 : decode cX12_man 15 = .ok (.tableswitch 177 0 7 #[45, 52, 62, 72, 78, 88, 139, 162], 45) := by decide +kernel
theorem dX12_man_60 : decode cX12_man 60 = .ok (.aload_n 0, 1) := by decide +kernel
theorem dX12_man_61 : decode cX12_man 61 = .ok (.getfield 131, 3) := by decide +kernel
theorem dX12_man_64 : decode cX12_man 64 = .ok (.iload_n 1, 1) := by decide +kernel
theorem dX12_man_65 : decode cX12_man 65 = .ok (.iaload, 1) := by decide +kernel
theorem dX12_man_66 : decode cX12_man 66 = .ok (.ireturn, 1) := by decide +kernel
theorem dX12_man_67 : decode cX12_man 67 = .ok (.aload_n 0, 1) := by decide +kernel
theorem dX12_man_68 : decode cX12_man 68 = .ok (.getfield 131, 3) := by decide +kernel
theorem dX12_man_71 : decode cX12_man 71 = .ok (.bipush 7, 2) := by decide +kernel
theorem dX12_man_73 : decode cX12_man 73 = .ok (.iload_n 1, 1) := by decide +kernel
theorem dX12_man_74 : decode cX12_man 74 = .ok (.iadd, 1) := by decide +kernel
theorem dX12_man_75 : decode cX12_man 75 = .ok (.iaload, 1) := by decide +kernel
theorem dX12_man_76 : decode cX12_man 76 = .ok (.ireturn, 1) := by decide +kernel
theorem dX12_man_77 : decode cX12_man 77 = .ok (.aload_n 0, 1) := by decide +kernel
theorem dX12_man_78 : decode cX12_man 78 = .ok (.getfield 131, 3) := by decide +kernel
theorem dX12_man_81 : decode cX12_man 81 = .ok (.bipush 14, 2) := by decide +kernel
theorem dX12_man_83 : decode cX12_man 83 = .ok (.iload_n 1, 1) := by decide +kernel
theorem dX12_man_84 : decode cX12_man 84 = .ok (.iadd, 1) := by decide +kernel
theorem dX12_man_85 : decode cX12_man 85 = .ok (.iaload, 1) := by decide +kernel
theorem dX12_man_86 : decode cX12_man 86 = .ok (.ireturn, 1) := by decide +kernel
theorem dX12_man_87 : decode cX12_man 87 = .ok (.aload_n 0, 1) := by decide +kernel
theorem dX12_man_88 : decode cX12_man 88 = .ok (.iload_n 1, 1) := by decide +kernel
theorem dX12_man_89 : decode cX12_man 89 = .ok (.invokevirtual 362, 3) := by decide +kernel
theorem dX12_man_92 : decode cX12_man 92 = .ok (.ireturn, 1) := by decide +kernel
theorem dX12_man_93 : decode cX12_man 93 = .ok (.aload_n 0, 1) := by decide +kernel
theorem dX12_man_94 : decode cX12_man 94 = .ok (.getfield 131, 3) := by decide +kernel
theorem dX12_man_97 : decode cX12_man 97 = .ok (.bipush 21, 2) := by decide +kernel
theorem dX12_man_99 : decode cX12_man 99 = .ok (.iload_n 1, 1) := by decide +kernel
theorem dX12_man_100 : decode cX12_man 100 = .ok (.iadd, 1) := by decide +kernel
theorem dX12_man_101 : decode cX12_man 101 = .ok (.iaload, 1) := by decide +kernel
theorem dX12_man_102 : decode cX12_man 102 = .ok (.ireturn, 1) := by decide +kernel
theorem dX12_man_103 : decode cX12_man 103 = .ok (.aload_n 0, 1) := by decide +kernel
theorem dX12_man_104 : decode cX12_man 104 = .ok (.getfield 131, 3) := by decide +kernel
theorem dX12_man_107 : decode cX12_man 107 = .ok (.iload_n 1, 1) := by decide +kernel
theorem dX12_man_108 : decode cX12_man 108 = .ok (.iaload, 1) := by decide +kernel
theorem dX12_man_109 : decode cX12_man 109 = .ok (.aload_n 0, 1) := by decide +kernel
theorem dX12_man_110 : decode cX12_man 110 = .ok (.getfield 52, 3) := by decide +kernel
theorem dX12_man_113 : decode cX12_man 113 = .ok (.bipush 7, 2) := by decide +kernel
theorem dX12_man_115 : decode cX12_man 115 = .ok (.aload_n 0, 1) := by decide +kernel
theorem dX12_man_116 : decode cX12_man 116 = .ok (.getfield 258, 3) := by decide +kernel
theorem dX12_man_119 : decode cX12_man 119 = .ok (.imul, 1) := by decide +kernel
theorem dX12_man_120 : decode cX12_man 120 = .ok (.iload_n 1, 1) := by decide +kernel
theorem dX12_man_121 : decode cX12_man 121 = .ok (.iadd, 1) := by decide +kernel
theorem dX12_man_122 : decode cX12_man 122 = .ok (.iaload, 1) := by decide +kernel
theorem dX12_man_123 : decode cX12_man 123 = .ok (.invokestatic 400, 3) := by decide +kernel
theorem dX12_man_126 : decode cX12_man 126 = .ok (.aload_n 0, 1) := by decide +kernel
theorem dX12_man_127 : decode cX12_man 127 = .ok (.getfield 131, 3) := by decide +kernel
theorem dX12_man_130 : decode cX12_man 130 = .ok (.bipush 7, 2) := by decide +kernel
theorem dX12_man_132 : decode cX12_man 132 = .ok (.iload_n 1, 1) := by decide +kernel
theorem dX12_man_133 : decode cX12_man 133 = .ok (.iadd, 1) := by decide +kernel
theorem dX12_man_134 : decode cX12_man 134 = .ok (.iaload, 1) := by decide +kernel
theorem dX12_man_135 : decode cX12_man 135 = .ok (.aload_n 0, 1) := by decide +kernel
theorem dX12_man_136 : decode cX12_man 136 = .ok (.getfield 55, 3) := by decide +kernel
theorem dX12_man_139 : decode cX12_man 139 = .ok (.bipush 7, 2) := by decide +kernel
theorem dX12_man_141 : decode cX12_man 141 = .ok (.aload_n 0, 1) := by decide +kernel
theorem dX12_man_142 : decode cX12_man 142 = .ok (.getfield 258, 3) := by decide +kernel
theorem dX12_man_145 : decode cX12_man 145 = .ok (.imul, 1) := by decide +kernel
theorem dX12_man_146 : decode cX12_man 146 = .ok (.iload_n 1, 1) := by decide +kernel
theorem dX12_man_147 : decode cX12_man 147 = .ok (.iadd, 1) := by decide +kernel
theorem dX12_man_148 : decode cX12_man 148 = .ok (.iaload, 1) := by decide +kernel
theorem dX12_man_149 : decode cX12_man 149 = .ok (.invokestatic 400, 3) := by decide +kernel
theorem dX12_man_152 : decode cX12_man 152 = .ok (.iadd, 1) := by decide +kernel
theorem dX12_man_153 : decode cX12_man 153 = .ok (.ireturn, 1) := by decide +kernel
theorem dX12_man_154 : decode cX12_man 154 = .ok (.aload_n 0, 1) := by decide +kernel
theorem dX12_man_155 : decode cX12_man 155 = .ok (.getfield 131, 3) := by decide +kernel
theorem dX12_man_158 : decode cX12_man 158 = .ok (.bipush 21, 2) := by decide +kernel
theorem dX12_man_160 : decode cX12_man 160 = .ok (.iload_n 1, 1) := by decide +kernel
theorem dX12_man_161 : decode cX12_man 161 = .ok (.iadd, 1) := by decide +kernel
theorem dX12_man_162 : decode cX12_man 162 = .ok (.iaload, 1) := by decide +kernel
theorem dX12_man_163 : decode cX12_man 163 = .ok (.iconst 1, 1) := by decide +kernel
theorem dX12_man_164 : decode cX12_man 164 = .ok (.if_icmp .ne 7, 3) := by decide +kernel
theorem dX12_man_167 : decode cX12_man 167 = .ok (.iconst 0, 1) := by decide +kernel
theorem dX12_man_168 : decode cX12_man 168 = .ok (.goto 8, 3) := by decide +kernel
theorem dX12_man_171 : decode cX12_man 171 = .ok (.aload_n 0, 1) := by decide +kernel
theorem dX12_man_172 : decode cX12_man 172 = .ok (.iload_n 1, 1) := by decide +kernel
theorem dX12_man_173 : decode cX12_man 173 = .ok (.invokevirtual 385, 3) := by decide +kernel
theorem dX12_man_176 : decode cX12_man 176 = .ok (.ireturn, 1) := by decide +kernel
theorem dX12_man_177 : decode cX12_man 177 = .ok (.aload_n 0, 1) := by decide +kernel
theorem dX12_man_178 : decode cX12_man 178 = .ok (.getfield 58, 3) := by decide +kernel
theorem dX12_man_181 : decode cX12_man 181 = .ok (.bipush 7, 2) := by decide +kernel
theorem dX12_man_183 : decode cX12_man 183 = .ok (.aload_n 0, 1) := by decide +kernel
theorem dX12_man_184 : decode cX12_man 184 = .ok (.getfield 258, 3) := by decide +kernel
theorem dX12_man_187 : decode cX12_man 187 = .ok (.imul, 1) := by decide +kernel
theorem dX12_man_188 : decode cX12_man 188 = .ok (.iload_n 1, 1) := by decide +kernel
theorem dX12_man_189 : decode cX12_man 189 = .ok (.iadd, 1) := by decide +kernel
theorem dX12_man_190 : decode cX12_man 190 = .ok (.iaload, 1) := by decide +kernel
theorem dX12_man_191 : decode cX12_man 191 = .ok (.ireturn, 1) := by decide +kernel
theorem dX12_man_192 : decode cX12_man 192 = .ok (.iconst (-1), 1) := by decide +kernel
theorem dX12_man_193 : decode cX12_man 193 = .ok (.ireturn, 1) := by decide +kernel
theorem dX12_apart_0 : decode cX12_apart 0 = .ok (.iload_n 0, 1) := by decide +kernel
theorem dX12_apart_1 : decode cX12_apart 1 = .ok (.iload_n 1, 1) := by decide +kernel
theorem dX12_apart_2 : decode cX12_apart 2 = .ok (.if_icmp .ge 9, 3) := by decide +kernel
theorem dX12_apart_5 : decode cX12_apart 5 = .ok (.iload_n 1, 1) := by decide +kernel
theorem dX12_apart_6 : decode cX12_apart 6 = .ok (.iload_n 0, 1) := by decide +kernel
theorem dX12_apart_7 : decode cX12_apart 7 = .ok (.isub, 1) := by decide +kernel
theorem dX12_apart_8 : decode cX12_apart 8 = .ok (.goto 6, 3) := by decide +kernel
theorem dX12_apart_11 : decode cX12_apart 11 = .ok (.iload_n 0, 1) := by decide +kernel
theorem dX12_apart_12 : decode cX12_apart 12 = .ok (.iload_n 1, 1) := by decide +kernel
theorem dX12_apart_13 : decode cX12_apart 13 = .ok (.isub, 1) := by decide +kernel
theorem dX12_apart_14 : decode cX12_apart 14 = .ok (.ireturn, 1) := by decide +kernel
theorem dX12_piece_0 : decode cX12_piece 0 = .ok (.aload_n 0, 1) := by decide +kernel
theorem dX12_piece_1 : decode cX12_piece 1 = .ok (.iload_n 1, 1) := by decide +kernel
theorem dX12_piece_2 : decode cX12_piece 2 = .ok (.invokevirtual 394, 3) := by decide +kernel
theorem dX12_piece_5 : decode cX12_piece 5 = .ok (.ifCond .eq 31, 3) := by decide +kernel
theorem dX12_piece_8 : decode cX12_piece 8 = .ok (.iload_n 2, 1) := by decide +kernel
theorem dX12_piece_9 : decode cX12_piece 9 = .ok (.iconst 0, 1) := by decide +kernel
theorem dX12_piece_10 : decode cX12_piece 10 = .ok (.aload_n 0, 1) := by decide +kernel
theorem dX12_piece_11 : decode cX12_piece 11 = .ok (.getfield 128, 3) := by decide +kernel
theorem dX12_piece_14 : decode cX12_piece 14 = .ok (.bipush 14, 2) := by decide +kernel
theorem dX12_piece_16 : decode cX12_piece 16 = .ok (.iload_n 1, 1) := by decide +kernel
theorem dX12_piece_17 : decode cX12_piece 17 = .ok (.iadd, 1) := by decide +kernel
theorem dX12_piece_18 : decode cX12_piece 18 = .ok (.iaload, 1) := by decide +kernel
theorem dX12_piece_19 : decode cX12_piece 19 = .ok (.iconst 1, 1) := by decide +kernel
theorem dX12_piece_20 : decode cX12_piece 20 = .ok (.isub, 1) := by decide +kernel
theorem dX12_piece_21 : decode cX12_piece 21 = .ok (.invokestatic 345, 3) := by decide +kernel
theorem dX12_piece_24 : decode cX12_piece 24 = .ok (.ifCond .eq 12, 3) := by decide +kernel
theorem dX12_piece_27 : decode cX12_piece 27 = .ok (.iload_n 3, 1) := by decide +kernel
theorem dX12_piece_28 : decode cX12_piece 28 = .ok (.iconst 0, 1) := by decide +kernel
theorem dX12_piece_29 : decode cX12_piece 29 = .ok (.iconst 2, 1) := by decide +kernel
theorem dX12_piece_30 : decode cX12_piece 30 = .ok (.invokestatic 345, 3) := by decide +kernel
theorem dX12_piece_33 : decode cX12_piece 33 = .ok (.ifCond .ne 5, 3) := by decide +kernel
theorem dX12_piece_36 : decode cX12_piece 36 = .ok (.iconst (-1), 1) := by decide +kernel
theorem dX12_piece_37 : decode cX12_piece 37 = .ok (.ireturn, 1) := by decide +kernel
theorem dX12_piece_38 : decode cX12_piece 38 = .ok (.aload_n 0, 1) := by decide +kernel
theorem dX12_piece_39 : decode cX12_piece 39 = .ok (.invokevirtual 397, 3) := by decide +kernel
theorem dX12_piece_42 : decode cX12_piece 42 = .ok (.bipush 60, 2) := by decide +kernel
theorem dX12_piece_44 : decode cX12_piece 44 = .ok (.iload_n 1, 1) := by decide +kernel
theorem dX12_piece_45 : decode cX12_piece 45 = .ok (.imul, 1) := by decide +kernel
theorem dX12_piece_46 : decode cX12_piece 46 = .ok (.iload_n 2, 1) := by decide +kernel
theorem dX12_piece_47 : decode cX12_piece 47 = .ok (.iadd, 1) := by decide +kernel
theorem dX12_piece_48 : decode cX12_piece 48 = .ok (.istore 4, 2) := by decide +kernel
theorem dX12_piece_50 : decode cX12_piece 50 = .ok (.iload_n 3, 1) := by decide +kernel
theorem dX12_piece_51 : decode cX12_piece 51 = .ok (.ifCond .ne 16, 3) := by decide +kernel
theorem dX12_piece_54 : decode cX12_piece 54 = .ok (.aload_n 0, 1) := by decide +kernel
theorem dX12_piece_55 : decode cX12_piece 55 = .ok (.getfield 131, 3) := by decide +kernel
theorem dX12_piece_58 : decode cX12_piece 58 = .ok (.bipush 30, 2) := by decide +kernel
theorem dX12_piece_60 : decode cX12_piece 60 = .ok (.iload 4, 2) := by decide +kernel
theorem dX12_piece_62 : decode cX12_piece 62 = .ok (.iadd, 1) := by decide +kernel
theorem dX12_piece_63 : decode cX12_piece 63 = .ok (.iaload, 1) := by decide +kernel
theorem dX12_piece_64 : decode cX12_piece 64 = .ok (.goto 39, 3) := by decide +kernel
theorem dX12_piece_67 : decode cX12_piece 67 = .ok (.aload_n 0, 1) := by decide +kernel
theorem dX12_piece_68 : decode cX12_piece 68 = .ok (.aload_n 0, 1) := by decide +kernel
theorem dX12_piece_69 : decode cX12_piece 69 = .ok (.getfield 131, 3) := by decide +kernel
theorem dX12_piece_72 : decode cX12_piece 72 = .ok (.sipush 870, 3) := by decide +kernel
theorem dX12_piece_75 : decode cX12_piece 75 = .ok (.iload 4, 2) := by decide +kernel
theorem dX12_piece_77 : decode cX12_piece 77 = .ok (.iadd, 1) := by decide +kernel
theorem dX12_piece_78 : decode cX12_piece 78 = .ok (.iaload, 1) := by decide +kernel
theorem dX12_piece_79 : decode cX12_piece 79 = .ok (.aload_n 0, 1) := by decide +kernel
theorem dX12_piece_80 : decode cX12_piece 80 = .ok (.getfield 131, 3) := by decide +kernel
theorem dX12_piece_83 : decode cX12_piece 83 = .ok (.sipush 450, 3) := by decide +kernel
theorem dX12_piece_86 : decode cX12_piece 86 = .ok (.iload 4, 2) := by decide +kernel
theorem dX12_piece_88 : decode cX12_piece 88 = .ok (.iadd, 1) := by decide +kernel
theorem dX12_piece_89 : decode cX12_piece 89 = .ok (.iaload, 1) := by decide +kernel
theorem dX12_piece_90 : decode cX12_piece 90 = .ok (.iload_n 3, 1) := by decide +kernel
theorem dX12_piece_91 : decode cX12_piece 91 = .ok (.iconst 2, 1) := by decide +kernel
theorem dX12_piece_92 : decode cX12_piece 92 = .ok (.if_icmp .ne 7, 3) := by decide +kernel
theorem dX12_piece_95 : decode cX12_piece 95 = .ok (.iconst 1, 1) := by decide +kernel
theorem dX12_piece_96 : decode cX12_piece 96 = .ok (.goto 4, 3) := by decide +kernel
theorem dX12_piece_99 : decode cX12_piece 99 = .ok (.iconst 0, 1) := by decide +kernel
theorem dX12_piece_100 : decode cX12_piece 100 = .ok (.invokevirtual 381, 3) := by decide +kernel
theorem dX12_piece_103 : decode cX12_piece 103 = .ok (.ireturn, 1) := by decide +kernel
theorem dX12_keeps_0 : decode cX12_keeps 0 = .ok (.aload_n 0, 1) := by decide +kernel
theorem dX12_keeps_1 : decode cX12_keeps 1 = .ok (.getfield 283, 3) := by decide +kernel
theorem dX12_keeps_4 : decode cX12_keeps 4 = .ok (.bipush 30, 2) := by decide +kernel
theorem dX12_keeps_6 : decode cX12_keeps 6 = .ok (.if_icmp .ne 44, 3) := by decide +kernel
theorem dX12_keeps_9 : decode cX12_keeps 9 = .ok (.iconst 0, 1) := by decide +kernel
theorem dX12_keeps_10 : decode cX12_keeps 10 = .ok (.istore_n 1, 1) := by decide +kernel
theorem dX12_keeps_11 : decode cX12_keeps 11 = .ok (.iload_n 1, 1) := by decide +kernel
theorem dX12_keeps_12 : decode cX12_keeps 12 = .ok (.ldc_w 403, 3) := by decide +kernel
theorem dX12_keeps_15 : decode cX12_keeps 15 = .ok (.if_icmp .ge 25, 3) := by decide +kernel
theorem dX12_keeps_18 : decode cX12_keeps 18 = .ok (.aload_n 0, 1) := by decide +kernel
theorem dX12_keeps_19 : decode cX12_keeps 19 = .ok (.getfield 138, 3) := by decide +kernel
theorem dX12_keeps_22 : decode cX12_keeps 22 = .ok (.iload_n 1, 1) := by decide +kernel
theorem dX12_keeps_23 : decode cX12_keeps 23 = .ok (.aload_n 0, 1) := by decide +kernel
theorem dX12_keeps_24 : decode cX12_keeps 24 = .ok (.getfield 138, 3) := by decide +kernel
theorem dX12_keeps_27 : decode cX12_keeps 27 = .ok (.iload_n 1, 1) := by decide +kernel
theorem dX12_keeps_28 : decode cX12_keeps 28 = .ok (.sipush 1290, 3) := by decide +kernel
theorem dX12_keeps_31 : decode cX12_keeps 31 = .ok (.iadd, 1) := by decide +kernel
theorem dX12_keeps_32 : decode cX12_keeps 32 = .ok (.iaload, 1) := by decide +kernel
theorem dX12_keeps_33 : decode cX12_keeps 33 = .ok (.iastore, 1) := by decide +kernel
theorem dX12_keeps_34 : decode cX12_keeps 34 = .ok (.iinc 1 1, 3) := by decide +kernel
theorem dX12_keeps_37 : decode cX12_keeps 37 = .ok (.goto (-26), 3) := by decide +kernel
theorem dX12_keeps_40 : decode cX12_keeps 40 = .ok (.aload_n 0, 1) := by decide +kernel
theorem dX12_keeps_41 : decode cX12_keeps 41 = .ok (.dup, 1) := by decide +kernel
theorem dX12_keeps_42 : decode cX12_keeps 42 = .ok (.getfield 283, 3) := by decide +kernel
theorem dX12_keeps_45 : decode cX12_keeps 45 = .ok (.iconst 1, 1) := by decide +kernel
theorem dX12_keeps_46 : decode cX12_keeps 46 = .ok (.isub, 1) := by decide +kernel
theorem dX12_keeps_47 : decode cX12_keeps 47 = .ok (.putfield 283, 3) := by decide +kernel
theorem dX12_keeps_50 : decode cX12_keeps 50 = .ok (.iconst 0, 1) := by decide +kernel
theorem dX12_keeps_51 : decode cX12_keeps 51 = .ok (.istore_n 1, 1) := by decide +kernel
theorem dX12_keeps_52 : decode cX12_keeps 52 = .ok (.iload_n 1, 1) := by decide +kernel
theorem dX12_keeps_53 : decode cX12_keeps 53 = .ok (.sipush 1290, 3) := by decide +kernel
theorem dX12_keeps_56 : decode cX12_keeps 56 = .ok (.if_icmp .ge 30, 3) := by decide +kernel
theorem dX12_keeps_59 : decode cX12_keeps 59 = .ok (.aload_n 0, 1) := by decide +kernel
theorem dX12_keeps_60 : decode cX12_keeps 60 = .ok (.getfield 138, 3) := by decide +kernel
theorem dX12_keeps_63 : decode cX12_keeps 63 = .ok (.sipush 1290, 3) := by decide +kernel
theorem dX12_keeps_66 : decode cX12_keeps 66 = .ok (.aload_n 0, 1) := by decide +kernel
theorem dX12_keeps_67 : decode cX12_keeps 67 = .ok (.getfield 283, 3) := by decide +kernel
theorem dX12_keeps_70 : decode cX12_keeps 70 = .ok (.imul, 1) := by decide +kernel
theorem dX12_keeps_71 : decode cX12_keeps 71 = .ok (.iload_n 1, 1) := by decide +kernel
theorem dX12_keeps_72 : decode cX12_keeps 72 = .ok (.iadd, 1) := by decide +kernel
theorem dX12_keeps_73 : decode cX12_keeps 73 = .ok (.aload_n 0, 1) := by decide +kernel
theorem dX12_keeps_74 : decode cX12_keeps 74 = .ok (.getfield 128, 3) := by decide +kernel
theorem dX12_keeps_77 : decode cX12_keeps 77 = .ok (.iload_n 1, 1) := by decide +kernel
theorem dX12_keeps_78 : decode cX12_keeps 78 = .ok (.iaload, 1) := by decide +kernel
theorem dX12_keeps_79 : decode cX12_keeps 79 = .ok (.iastore, 1) := by decide +kernel
theorem dX12_keeps_80 : decode cX12_keeps 80 = .ok (.iinc 1 1, 3) := by decide +kernel
theorem dX12_keeps_83 : decode cX12_keeps 83 = .ok (.goto (-31), 3) := by decide +kernel
theorem dX12_keeps_86 : decode cX12_keeps 86 = .ok (.aload_n 0, 1) := by decide +kernel
theorem dX12_keeps_87 : decode cX12_keeps 87 = .ok (.dup, 1) := by decide +kernel
theorem dX12_keeps_88 : decode cX12_keeps 88 = .ok (.getfield 283, 3) := by decide +kernel
theorem dX12_keeps_91 : decode cX12_keeps 91 = .ok (.iconst 1, 1) := by decide +kernel
theorem dX12_keeps_92 : decode cX12_keeps 92 = .ok (.iadd, 1) := by decide +kernel
theorem dX12_keeps_93 : decode cX12_keeps 93 = .ok (.putfield 283, 3) := by decide +kernel
theorem dX12_keeps_96 : decode cX12_keeps 96 = .ok (.aload_n 0, 1) := by decide +kernel
theorem dX12_keeps_97 : decode cX12_keeps 97 = .ok (.invokevirtual 188, 3) := by decide +kernel
theorem dX12_keeps_100 : decode cX12_keeps 100 = .ok (.return_, 1) := by decide +kernel
theorem dX12_step_0 : decode cX12_step 0 = .ok (.aload_n 0, 1) := by decide +kernel
theorem dX12_step_1 : decode cX12_step 1 = .ok (.iload_n 1, 1) := by decide +kernel
theorem dX12_step_2 : decode cX12_step 2 = .ok (.invokevirtual 394, 3) := by decide +kernel
theorem dX12_step_5 : decode cX12_step 5 = .ok (.ifCond .eq 12, 3) := by decide +kernel
theorem dX12_step_8 : decode cX12_step 8 = .ok (.iload_n 2, 1) := by decide +kernel
theorem dX12_step_9 : decode cX12_step 9 = .ok (.iconst 1, 1) := by decide +kernel
theorem dX12_step_10 : decode cX12_step 10 = .ok (.iconst 4, 1) := by decide +kernel
theorem dX12_step_11 : decode cX12_step 11 = .ok (.invokestatic 345, 3) := by decide +kernel
theorem dX12_step_14 : decode cX12_step 14 = .ok (.ifCond .ne 5, 3) := by decide +kernel
theorem dX12_step_17 : decode cX12_step 17 = .ok (.iconst 0, 1) := by decide +kernel
theorem dX12_step_18 : decode cX12_step 18 = .ok (.ireturn, 1) := by decide +kernel
theorem dX12_step_19 : decode cX12_step 19 = .ok (.aload_n 0, 1) := by decide +kernel
theorem dX12_step_20 : decode cX12_step 20 = .ok (.invokevirtual 397, 3) := by decide +kernel
theorem dX12_step_23 : decode cX12_step 23 = .ok (.aload_n 0, 1) := by decide +kernel
theorem dX12_step_24 : decode cX12_step 24 = .ok (.iload_n 1, 1) := by decide +kernel
theorem dX12_step_25 : decode cX12_step 25 = .ok (.iload_n 2, 1) := by decide +kernel
theorem dX12_step_26 : decode cX12_step 26 = .ok (.invokevirtual 388, 3) := by decide +kernel
theorem dX12_step_29 : decode cX12_step 29 = .ok (.ifCond .ne 5, 3) := by decide +kernel
theorem dX12_step_32 : decode cX12_step 32 = .ok (.iconst 0, 1) := by decide +kernel
theorem dX12_step_33 : decode cX12_step 33 = .ok (.ireturn, 1) := by decide +kernel
theorem dX12_step_34 : decode cX12_step 34 = .ok (.aload_n 0, 1) := by decide +kernel
theorem dX12_step_35 : decode cX12_step 35 = .ok (.invokevirtual 404, 3) := by decide +kernel
theorem dX12_step_38 : decode cX12_step 38 = .ok (.iconst 1, 1) := by decide +kernel
theorem dX12_step_39 : decode cX12_step 39 = .ok (.ireturn, 1) := by decide +kernel
theorem dX12_wind_0 : decode cX12_wind 0 = .ok (.aload_n 0, 1) := by decide +kernel
theorem dX12_wind_1 : decode cX12_wind 1 = .ok (.iload_n 1, 1) := by decide +kernel
theorem dX12_wind_2 : decode cX12_wind 2 = .ok (.invokevirtual 394, 3) := by decide +kernel
theorem dX12_wind_5 : decode cX12_wind 5 = .ok (.ifCond .ne 5, 3) := by decide +kernel
theorem dX12_wind_8 : decode cX12_wind 8 = .ok (.iconst 0, 1) := by decide +kernel
theorem dX12_wind_9 : decode cX12_wind 9 = .ok (.ireturn, 1) := by decide +kernel
theorem dX12_wind_10 : decode cX12_wind 10 = .ok (.aload_n 0, 1) := by decide +kernel
theorem dX12_wind_11 : decode cX12_wind 11 = .ok (.invokevirtual 397, 3) := by decide +kernel
theorem dX12_wind_14 : decode cX12_wind 14 = .ok (.aload_n 0, 1) := by decide +kernel
theorem dX12_wind_15 : decode cX12_wind 15 = .ok (.iload_n 1, 1) := by decide +kernel
theorem dX12_wind_16 : decode cX12_wind 16 = .ok (.invokevirtual 391, 3) := by decide +kernel
theorem dX12_wind_19 : decode cX12_wind 19 = .ok (.ifCond .ne 5, 3) := by decide +kernel
theorem dX12_wind_22 : decode cX12_wind 22 = .ok (.iconst 0, 1) := by decide +kernel
theorem dX12_wind_23 : decode cX12_wind 23 = .ok (.ireturn, 1) := by decide +kernel
theorem dX12_wind_24 : decode cX12_wind 24 = .ok (.aload_n 0, 1) := by decide +kernel
theorem dX12_wind_25 : decode cX12_wind 25 = .ok (.invokevirtual 404, 3) := by decide +kernel
theorem dX12_wind_28 : decode cX12_wind 28 = .ok (.iconst 1, 1) := by decide +kernel
theorem dX12_wind_29 : decode cX12_wind 29 = .ok (.ireturn, 1) := by decide +kernel
theorem dX12_home_0 : decode cX12_home 0 = .ok (.aload_n 0, 1) := by decide +kernel
theorem dX12_home_1 : decode cX12_home 1 = .ok (.iload_n 1, 1) := by decide +kernel
theorem dX12_home_2 : decode cX12_home 2 = .ok (.invokevirtual 394, 3) := by decide +kernel
theorem dX12_home_5 : decode cX12_home 5 = .ok (.ifCond .ne 5, 3) := by decide +kernel
theorem dX12_home_8 : decode cX12_home 8 = .ok (.iconst (-1), 1) := by decide +kernel
theorem dX12_home_9 : decode cX12_home 9 = .ok (.ireturn, 1) := by decide +kernel
theorem dX12_home_10 : decode cX12_home 10 = .ok (.aload_n 0, 1) := by decide +kernel
theorem dX12_home_11 : decode cX12_home 11 = .ok (.invokevirtual 397, 3) := by decide +kernel
theorem dX12_home_14 : decode cX12_home 14 = .ok (.iconst 0, 1) := by decide +kernel
theorem dX12_home_15 : decode cX12_home 15 = .ok (.istore_n 2, 1) := by decide +kernel
theorem dX12_home_16 : decode cX12_home 16 = .ok (.aload_n 0, 1) := by decide +kernel
theorem dX12_home_17 : decode cX12_home 17 = .ok (.iload_n 1, 1) := by decide +kernel
theorem dX12_home_18 : decode cX12_home 18 = .ok (.invokevirtual 391, 3) := by decide +kernel
theorem dX12_home_21 : decode cX12_home 21 = .ok (.ifCond .eq 9, 3) := by decide +kernel
theorem dX12_home_24 : decode cX12_home 24 = .ok (.iinc 2 1, 3) := by decide +kernel
theorem dX12_home_27 : decode cX12_home 27 = .ok (.goto (-11), 3) := by decide +kernel
theorem dX12_home_30 : decode cX12_home 30 = .ok (.iload_n 2, 1) := by decide +kernel
theorem dX12_home_31 : decode cX12_home 31 = .ok (.ifCond .ne 5, 3) := by decide +kernel
theorem dX12_home_34 : decode cX12_home 34 = .ok (.iconst (-1), 1) := by decide +kernel
theorem dX12_home_35 : decode cX12_home 35 = .ok (.ireturn, 1) := by decide +kernel
theorem dX12_home_36 : decode cX12_home 36 = .ok (.aload_n 0, 1) := by decide +kernel
theorem dX12_home_37 : decode cX12_home 37 = .ok (.invokevirtual 404, 3) := by decide +kernel
theorem dX12_home_40 : decode cX12_home 40 = .ok (.iload_n 2, 1) := by decide +kernel
theorem dX12_home_41 : decode cX12_home 41 = .ok (.ireturn, 1) := by decide +kernel
theorem dX12_cut_0 : decode cX12_cut 0 = .ok (.aload_n 0, 1) := by decide +kernel
theorem dX12_cut_1 : decode cX12_cut 1 = .ok (.iload_n 1, 1) := by decide +kernel
theorem dX12_cut_2 : decode cX12_cut 2 = .ok (.invokevirtual 394, 3) := by decide +kernel
theorem dX12_cut_5 : decode cX12_cut 5 = .ok (.ifCond .eq 16, 3) := by decide +kernel
theorem dX12_cut_8 : decode cX12_cut 8 = .ok (.aload_n 0, 1) := by decide +kernel
theorem dX12_cut_9 : decode cX12_cut 9 = .ok (.getfield 128, 3) := by decide +kernel
theorem dX12_cut_12 : decode cX12_cut 12 = .ok (.bipush 21, 2) := by decide +kernel
theorem dX12_cut_14 : decode cX12_cut 14 = .ok (.iload_n 1, 1) := by decide +kernel
theorem dX12_cut_15 : decode cX12_cut 15 = .ok (.iadd, 1) := by decide +kernel
theorem dX12_cut_16 : decode cX12_cut 16 = .ok (.iaload, 1) := by decide +kernel
theorem dX12_cut_17 : decode cX12_cut 17 = .ok (.iconst 1, 1) := by decide +kernel
theorem dX12_cut_18 : decode cX12_cut 18 = .ok (.if_icmp .ne 5, 3) := by decide +kernel
theorem dX12_cut_21 : decode cX12_cut 21 = .ok (.iconst (-1), 1) := by decide +kernel
theorem dX12_cut_22 : decode cX12_cut 22 = .ok (.ireturn, 1) := by decide +kernel
theorem dX12_cut_23 : decode cX12_cut 23 = .ok (.aload_n 0, 1) := by decide +kernel
theorem dX12_cut_24 : decode cX12_cut 24 = .ok (.invokevirtual 397, 3) := by decide +kernel
theorem dX12_cut_27 : decode cX12_cut 27 = .ok (.aload_n 0, 1) := by decide +kernel
theorem dX12_cut_28 : decode cX12_cut 28 = .ok (.getfield 131, 3) := by decide +kernel
theorem dX12_cut_31 : decode cX12_cut 31 = .ok (.bipush 14, 2) := by decide +kernel
theorem dX12_cut_33 : decode cX12_cut 33 = .ok (.iload_n 1, 1) := by decide +kernel
theorem dX12_cut_34 : decode cX12_cut 34 = .ok (.iadd, 1) := by decide +kernel
theorem dX12_cut_35 : decode cX12_cut 35 = .ok (.iaload, 1) := by decide +kernel
theorem dX12_cut_36 : decode cX12_cut 36 = .ok (.istore_n 2, 1) := by decide +kernel
theorem dX12_cut_37 : decode cX12_cut 37 = .ok (.aload_n 0, 1) := by decide +kernel
theorem dX12_cut_38 : decode cX12_cut 38 = .ok (.getfield 131, 3) := by decide +kernel
theorem dX12_cut_41 : decode cX12_cut 41 = .ok (.bipush 14, 2) := by decide +kernel
theorem dX12_cut_43 : decode cX12_cut 43 = .ok (.iload_n 1, 1) := by decide +kernel
theorem dX12_cut_44 : decode cX12_cut 44 = .ok (.iadd, 1) := by decide +kernel
theorem dX12_cut_45 : decode cX12_cut 45 = .ok (.iconst 0, 1) := by decide +kernel
theorem dX12_cut_46 : decode cX12_cut 46 = .ok (.iastore, 1) := by decide +kernel
theorem dX12_cut_47 : decode cX12_cut 47 = .ok (.aload_n 0, 1) := by decide +kernel
theorem dX12_cut_48 : decode cX12_cut 48 = .ok (.getfield 131, 3) := by decide +kernel
theorem dX12_cut_51 : decode cX12_cut 51 = .ok (.bipush 21, 2) := by decide +kernel
theorem dX12_cut_53 : decode cX12_cut 53 = .ok (.iload_n 1, 1) := by decide +kernel
theorem dX12_cut_54 : decode cX12_cut 54 = .ok (.iadd, 1) := by decide +kernel
theorem dX12_cut_55 : decode cX12_cut 55 = .ok (.iconst 1, 1) := by decide +kernel
theorem dX12_cut_56 : decode cX12_cut 56 = .ok (.iastore, 1) := by decide +kernel
theorem dX12_cut_57 : decode cX12_cut 57 = .ok (.aload_n 0, 1) := by decide +kernel
theorem dX12_cut_58 : decode cX12_cut 58 = .ok (.invokevirtual 404, 3) := by decide +kernel
theorem dX12_cut_61 : decode cX12_cut 61 = .ok (.iload_n 2, 1) := by decide +kernel
theorem dX12_cut_62 : decode cX12_cut 62 = .ok (.ireturn, 1) := by decide +kernel
theorem dX12_run_0 : decode cX12_run 0 = .ok (.iload_n 1, 1) := by decide +kernel
theorem dX12_run_1 : decode cX12_run 1 = .ok (.iconst 0, 1) := by decide +kernel
theorem dX12_run_2 : decode cX12_run 2 = .ok (.sipush 200, 3) := by decide +kernel
theorem dX12_run_5 : decode cX12_run 5 = .ok (.invokestatic 345, 3) := by decide +kernel
theorem dX12_run_8 : decode cX12_run 8 = .ok (.ifCond .ne 5, 3) := by decide +kernel
theorem dX12_run_11 : decode cX12_run 11 = .ok (.iconst (-1), 1) := by decide +kernel
theorem dX12_run_12 : decode cX12_run 12 = .ok (.ireturn, 1) := by decide +kernel
theorem dX12_run_13 : decode cX12_run 13 = .ok (.iload_n 1, 1) := by decide +kernel
theorem dX12_run_14 : decode cX12_run 14 = .ok (.ifCond .ne 11, 3) := by decide +kernel
theorem dX12_run_17 : decode cX12_run 17 = .ok (.aload_n 0, 1) := by decide +kernel
theorem dX12_run_18 : decode cX12_run 18 = .ok (.getfield 128, 3) := by decide +kernel
theorem dX12_run_21 : decode cX12_run 21 = .ok (.bipush 28, 2) := by decide +kernel
theorem dX12_run_23 : decode cX12_run 23 = .ok (.iaload, 1) := by decide +kernel
theorem dX12_run_24 : decode cX12_run 24 = .ok (.ireturn, 1) := by decide +kernel
theorem dX12_run_25 : decode cX12_run 25 = .ok (.aload_n 0, 1) := by decide +kernel
theorem dX12_run_26 : decode cX12_run 26 = .ok (.invokevirtual 397, 3) := by decide +kernel
theorem dX12_run_29 : decode cX12_run 29 = .ok (.iconst 0, 1) := by decide +kernel
theorem dX12_run_30 : decode cX12_run 30 = .ok (.istore_n 2, 1) := by decide +kernel
theorem dX12_run_31 : decode cX12_run 31 = .ok (.iload_n 2, 1) := by decide +kernel
theorem dX12_run_32 : decode cX12_run 32 = .ok (.iload_n 1, 1) := by decide +kernel
theorem dX12_run_33 : decode cX12_run 33 = .ok (.if_icmp .ge 13, 3) := by decide +kernel
theorem dX12_run_36 : decode cX12_run 36 = .ok (.aload_n 0, 1) := by decide +kernel
theorem dX12_run_37 : decode cX12_run 37 = .ok (.invokevirtual 407, 3) := by decide +kernel
theorem dX12_run_40 : decode cX12_run 40 = .ok (.iinc 2 1, 3) := by decide +kernel
theorem dX12_run_43 : decode cX12_run 43 = .ok (.goto (-12), 3) := by decide +kernel
theorem dX12_run_46 : decode cX12_run 46 = .ok (.aload_n 0, 1) := by decide +kernel
theorem dX12_run_47 : decode cX12_run 47 = .ok (.invokevirtual 404, 3) := by decide +kernel
theorem dX12_run_50 : decode cX12_run 50 = .ok (.aload_n 0, 1) := by decide +kernel
theorem dX12_run_51 : decode cX12_run 51 = .ok (.getfield 128, 3) := by decide +kernel
theorem dX12_run_54 : decode cX12_run 54 = .ok (.bipush 28, 2) := by decide +kernel
theorem dX12_run_56 : decode cX12_run 56 = .ok (.iaload, 1) := by decide +kernel
theorem dX12_run_57 : decode cX12_run 57 = .ok (.ireturn, 1) := by decide +kernel
theorem dX12_undo_0 : decode cX12_undo 0 = .ok (.aload_n 0, 1) := by decide +kernel
theorem dX12_undo_1 : decode cX12_undo 1 = .ok (.getfield 283, 3) := by decide +kernel
theorem dX12_undo_4 : decode cX12_undo 4 = .ok (.ifCond .ne 5, 3) := by decide +kernel
theorem dX12_undo_7 : decode cX12_undo 7 = .ok (.iconst 0, 1) := by decide +kernel
theorem dX12_undo_8 : decode cX12_undo 8 = .ok (.ireturn, 1) := by decide +kernel
theorem dX12_undo_9 : decode cX12_undo 9 = .ok (.aload_n 0, 1) := by decide +kernel
theorem dX12_undo_10 : decode cX12_undo 10 = .ok (.dup, 1) := by decide +kernel
theorem dX12_undo_11 : decode cX12_undo 11 = .ok (.getfield 283, 3) := by decide +kernel
theorem dX12_undo_14 : decode cX12_undo 14 = .ok (.iconst 1, 1) := by decide +kernel
theorem dX12_undo_15 : decode cX12_undo 15 = .ok (.isub, 1) := by decide +kernel
theorem dX12_undo_16 : decode cX12_undo 16 = .ok (.putfield 283, 3) := by decide +kernel
theorem dX12_undo_19 : decode cX12_undo 19 = .ok (.iconst 0, 1) := by decide +kernel
theorem dX12_undo_20 : decode cX12_undo 20 = .ok (.istore_n 1, 1) := by decide +kernel
theorem dX12_undo_21 : decode cX12_undo 21 = .ok (.iload_n 1, 1) := by decide +kernel
theorem dX12_undo_22 : decode cX12_undo 22 = .ok (.sipush 1290, 3) := by decide +kernel
theorem dX12_undo_25 : decode cX12_undo 25 = .ok (.if_icmp .ge 30, 3) := by decide +kernel
theorem dX12_undo_28 : decode cX12_undo 28 = .ok (.aload_n 0, 1) := by decide +kernel
theorem dX12_undo_29 : decode cX12_undo 29 = .ok (.getfield 128, 3) := by decide +kernel
theorem dX12_undo_32 : decode cX12_undo 32 = .ok (.iload_n 1, 1) := by decide +kernel
theorem dX12_undo_33 : decode cX12_undo 33 = .ok (.aload_n 0, 1) := by decide +kernel
theorem dX12_undo_34 : decode cX12_undo 34 = .ok (.getfield 138, 3) := by decide +kernel
theorem dX12_undo_37 : decode cX12_undo 37 = .ok (.sipush 1290, 3) := by decide +kernel
theorem dX12_undo_40 : decode cX12_undo 40 = .ok (.aload_n 0, 1) := by decide +kernel
theorem dX12_undo_41 : decode cX12_undo 41 = .ok (.getfield 283, 3) := by decide +kernel
theorem dX12_undo_44 : decode cX12_undo 44 = .ok (.imul, 1) := by decide +kernel
theorem dX12_undo_45 : decode cX12_undo 45 = .ok (.iload_n 1, 1) := by decide +kernel
theorem dX12_undo_46 : decode cX12_undo 46 = .ok (.iadd, 1) := by decide +kernel
theorem dX12_undo_47 : decode cX12_undo 47 = .ok (.iaload, 1) := by decide +kernel
theorem dX12_undo_48 : decode cX12_undo 48 = .ok (.iastore, 1) := by decide +kernel
theorem dX12_undo_49 : decode cX12_undo 49 = .ok (.iinc 1 1, 3) := by decide +kernel
theorem dX12_undo_52 : decode cX12_undo 52 = .ok (.goto (-31), 3) := by decide +kernel
theorem dX12_undo_55 : decode cX12_undo 55 = .ok (.iconst 1, 1) := by decide +kernel
theorem dX12_undo_56 : decode cX12_undo 56 = .ok (.ireturn, 1) := by decide +kernel
theorem dX12_overOf_0 : decode cX12_overOf 0 = .ok (.iconst 0, 1) := by decide +kernel
theorem dX12_overOf_1 : decode cX12_overOf 1 = .ok (.istore_n 3, 1) := by decide +kernel
theorem dX12_overOf_2 : decode cX12_overOf 2 = .ok (.iconst 0, 1) := by decide +kernel
theorem dX12_overOf_3 : decode cX12_overOf 3 = .ok (.istore 4, 2) := by decide +kernel
theorem dX12_overOf_5 : decode cX12_overOf 5 = .ok (.iload 4, 2) := by decide +kernel
theorem dX12_overOf_7 : decode cX12_overOf 7 = .ok (.aload_n 0, 1) := by decide +kernel
theorem dX12_overOf_8 : decode cX12_overOf 8 = .ok (.getfield 131, 3) := by decide +kernel
theorem dX12_overOf_11 : decode cX12_overOf 11 = .ok (.bipush 14, 2) := by decide +kernel
theorem dX12_overOf_13 : decode cX12_overOf 13 = .ok (.iload_n 1, 1) := by decide +kernel
theorem dX12_overOf_14 : decode cX12_overOf 14 = .ok (.iadd, 1) := by decide +kernel
theorem dX12_overOf_15 : decode cX12_overOf 15 = .ok (.iaload, 1) := by decide +kernel
theorem dX12_overOf_16 : decode cX12_overOf 16 = .ok (.if_icmp .ge 103, 3) := by decide +kernel
theorem dX12_overOf_19 : decode cX12_overOf 19 = .ok (.bipush 60, 2) := by decide +kernel
theorem dX12_overOf_21 : decode cX12_overOf 21 = .ok (.iload_n 1, 1) := by decide +kernel
theorem dX12_overOf_22 : decode cX12_overOf 22 = .ok (.imul, 1) := by decide +kernel
theorem dX12_overOf_23 : decode cX12_overOf 23 = .ok (.iload 4, 2) := by decide +kernel
theorem dX12_overOf_25 : decode cX12_overOf 25 = .ok (.iadd, 1) := by decide +kernel
theorem dX12_overOf_26 : decode cX12_overOf 26 = .ok (.istore 5, 2) := by decide +kernel
theorem dX12_overOf_28 : decode cX12_overOf 28 = .ok (.iconst 0, 1) := by decide +kernel
theorem dX12_overOf_29 : decode cX12_overOf 29 = .ok (.istore 6, 2) := by decide +kernel
theorem dX12_overOf_31 : decode cX12_overOf 31 = .ok (.iload 6, 2) := by decide +kernel
theorem dX12_overOf_33 : decode cX12_overOf 33 = .ok (.aload_n 0, 1) := by decide +kernel
theorem dX12_overOf_34 : decode cX12_overOf 34 = .ok (.getfield 131, 3) := by decide +kernel
theorem dX12_overOf_37 : decode cX12_overOf 37 = .ok (.bipush 14, 2) := by decide +kernel
theorem dX12_overOf_39 : decode cX12_overOf 39 = .ok (.iload_n 2, 1) := by decide +kernel
theorem dX12_overOf_40 : decode cX12_overOf 40 = .ok (.iadd, 1) := by decide +kernel
theorem dX12_overOf_41 : decode cX12_overOf 41 = .ok (.iaload, 1) := by decide +kernel
theorem dX12_overOf_42 : decode cX12_overOf 42 = .ok (.if_icmp .ge 71, 3) := by decide +kernel
theorem dX12_overOf_45 : decode cX12_overOf 45 = .ok (.bipush 60, 2) := by decide +kernel
theorem dX12_overOf_47 : decode cX12_overOf 47 = .ok (.iload_n 2, 1) := by decide +kernel
theorem dX12_overOf_48 : decode cX12_overOf 48 = .ok (.imul, 1) := by decide +kernel
theorem dX12_overOf_49 : decode cX12_overOf 49 = .ok (.iload 6, 2) := by decide +kernel
theorem dX12_overOf_51 : decode cX12_overOf 51 = .ok (.iadd, 1) := by decide +kernel
theorem dX12_overOf_52 : decode cX12_overOf 52 = .ok (.istore 7, 2) := by decide +kernel
theorem dX12_overOf_54 : decode cX12_overOf 54 = .ok (.aload_n 0, 1) := by decide +kernel
theorem dX12_overOf_55 : decode cX12_overOf 55 = .ok (.getfield 131, 3) := by decide +kernel
theorem dX12_overOf_58 : decode cX12_overOf 58 = .ok (.sipush 870, 3) := by decide +kernel
theorem dX12_overOf_61 : decode cX12_overOf 61 = .ok (.iload 5, 2) := by decide +kernel
theorem dX12_overOf_63 : decode cX12_overOf 63 = .ok (.iadd, 1) := by decide +kernel
theorem dX12_overOf_64 : decode cX12_overOf 64 = .ok (.iaload, 1) := by decide +kernel
theorem dX12_overOf_65 : decode cX12_overOf 65 = .ok (.aload_n 0, 1) := by decide +kernel
theorem dX12_overOf_66 : decode cX12_overOf 66 = .ok (.getfield 131, 3) := by decide +kernel
theorem dX12_overOf_69 : decode cX12_overOf 69 = .ok (.sipush 870, 3) := by decide +kernel
theorem dX12_overOf_72 : decode cX12_overOf 72 = .ok (.iload 7, 2) := by decide +kernel
theorem dX12_overOf_74 : decode cX12_overOf 74 = .ok (.iadd, 1) := by decide +kernel
theorem dX12_overOf_75 : decode cX12_overOf 75 = .ok (.iaload, 1) := by decide +kernel
theorem dX12_overOf_76 : decode cX12_overOf 76 = .ok (.if_icmp .ne 31, 3) := by decide +kernel
theorem dX12_overOf_79 : decode cX12_overOf 79 = .ok (.aload_n 0, 1) := by decide +kernel
theorem dX12_overOf_80 : decode cX12_overOf 80 = .ok (.getfield 131, 3) := by decide +kernel
theorem dX12_overOf_83 : decode cX12_overOf 83 = .ok (.sipush 450, 3) := by decide +kernel
theorem dX12_overOf_86 : decode cX12_overOf 86 = .ok (.iload 5, 2) := by decide +kernel
theorem dX12_overOf_88 : decode cX12_overOf 88 = .ok (.iadd, 1) := by decide +kernel
theorem dX12_overOf_89 : decode cX12_overOf 89 = .ok (.iaload, 1) := by decide +kernel
theorem dX12_overOf_90 : decode cX12_overOf 90 = .ok (.aload_n 0, 1) := by decide +kernel
theorem dX12_overOf_91 : decode cX12_overOf 91 = .ok (.getfield 131, 3) := by decide +kernel
theorem dX12_overOf_94 : decode cX12_overOf 94 = .ok (.sipush 450, 3) := by decide +kernel
theorem dX12_overOf_97 : decode cX12_overOf 97 = .ok (.iload 7, 2) := by decide +kernel
theorem dX12_overOf_99 : decode cX12_overOf 99 = .ok (.iadd, 1) := by decide +kernel
theorem dX12_overOf_100 : decode cX12_overOf 100 = .ok (.iaload, 1) := by decide +kernel
theorem dX12_overOf_101 : decode cX12_overOf 101 = .ok (.if_icmp .le 6, 3) := by decide +kernel
theorem dX12_overOf_104 : decode cX12_overOf 104 = .ok (.iinc 3 1, 3) := by decide +kernel
theorem dX12_overOf_107 : decode cX12_overOf 107 = .ok (.iinc 6 1, 3) := by decide +kernel
theorem dX12_overOf_110 : decode cX12_overOf 110 = .ok (.goto (-79), 3) := by decide +kernel
theorem dX12_overOf_113 : decode cX12_overOf 113 = .ok (.iinc 4 1, 3) := by decide +kernel
theorem dX12_overOf_116 : decode cX12_overOf 116 = .ok (.goto (-111), 3) := by decide +kernel
theorem dX12_overOf_119 : decode cX12_overOf 119 = .ok (.iload_n 3, 1) := by decide +kernel
theorem dX12_overOf_120 : decode cX12_overOf 120 = .ok (.ireturn, 1) := by decide +kernel
theorem dX12_fillsWaits_0 : decode cX12_fillsWaits 0 = .ok (.iconst 0, 1) := by decide +kernel
theorem dX12_fillsWaits_1 : decode cX12_fillsWaits 1 = .ok (.istore_n 1, 1) := by decide +kernel
theorem dX12_fillsWaits_2 : decode cX12_fillsWaits 2 = .ok (.iconst 0, 1) := by decide +kernel
theorem dX12_fillsWaits_3 : decode cX12_fillsWaits 3 = .ok (.istore_n 2, 1) := by decide +kernel
theorem dX12_fillsWaits_4 : decode cX12_fillsWaits 4 = .ok (.iload_n 2, 1) := by decide +kernel
theorem dX12_fillsWaits_5 : decode cX12_fillsWaits 5 = .ok (.aload_n 0, 1) := by decide +kernel
theorem dX12_fillsWaits_6 : decode cX12_fillsWaits 6 = .ok (.getfield 49, 3) := by decide +kernel
theorem dX12_fillsWaits_9 : decode cX12_fillsWaits 9 = .ok (.aload_n 0, 1) := by decide +kernel
theorem dX12_fillsWaits_10 : decode cX12_fillsWaits 10 = .ok (.getfield 258, 3) := by decide +kernel
theorem dX12_fillsWaits_13 : decode cX12_fillsWaits 13 = .ok (.iaload, 1) := by decide +kernel
theorem dX12_fillsWaits_14 : decode cX12_fillsWaits 14 = .ok (.if_icmp .ge 81, 3) := by decide +kernel
theorem dX12_fillsWaits_17 : decode cX12_fillsWaits 17 = .ok (.aload_n 0, 1) := by decide +kernel
theorem dX12_fillsWaits_18 : decode cX12_fillsWaits 18 = .ok (.getfield 141, 3) := by decide +kernel
theorem dX12_fillsWaits_21 : decode cX12_fillsWaits 21 = .ok (.iload_n 2, 1) := by decide +kernel
theorem dX12_fillsWaits_22 : decode cX12_fillsWaits 22 = .ok (.iconst 0, 1) := by decide +kernel
theorem dX12_fillsWaits_23 : decode cX12_fillsWaits 23 = .ok (.iastore, 1) := by decide +kernel
theorem dX12_fillsWaits_24 : decode cX12_fillsWaits 24 = .ok (.aload_n 0, 1) := by decide +kernel
theorem dX12_fillsWaits_25 : decode cX12_fillsWaits 25 = .ok (.getfield 131, 3) := by decide +kernel
theorem dX12_fillsWaits_28 : decode cX12_fillsWaits 28 = .ok (.bipush 14, 2) := by decide +kernel
theorem dX12_fillsWaits_30 : decode cX12_fillsWaits 30 = .ok (.iload_n 2, 1) := by decide +kernel
theorem dX12_fillsWaits_31 : decode cX12_fillsWaits 31 = .ok (.iadd, 1) := by decide +kernel
theorem dX12_fillsWaits_32 : decode cX12_fillsWaits 32 = .ok (.iaload, 1) := by decide +kernel
theorem dX12_fillsWaits_33 : decode cX12_fillsWaits 33 = .ok (.ifCond .le 9, 3) := by decide +kernel
theorem dX12_fillsWaits_36 : decode cX12_fillsWaits 36 = .ok (.iload_n 1, 1) := by decide +kernel
theorem dX12_fillsWaits_37 : decode cX12_fillsWaits 37 = .ok (.iconst 1, 1) := by decide +kernel
theorem dX12_fillsWaits_38 : decode cX12_fillsWaits 38 = .ok (.iload_n 2, 1) := by decide +kernel
theorem dX12_fillsWaits_39 : decode cX12_fillsWaits 39 = .ok (.ishl, 1) := by decide +kernel
theorem dX12_fillsWaits_40 : decode cX12_fillsWaits 40 = .ok (.ior, 1) := by decide +kernel
theorem dX12_fillsWaits_41 : decode cX12_fillsWaits 41 = .ok (.istore_n 1, 1) := by decide +kernel
theorem dX12_fillsWaits_42 : decode cX12_fillsWaits 42 = .ok (.iconst 0, 1) := by decide +kernel
theorem dX12_fillsWaits_43 : decode cX12_fillsWaits 43 = .ok (.istore_n 3, 1) := by decide +kernel
theorem dX12_fillsWaits_44 : decode cX12_fillsWaits 44 = .ok (.iload_n 3, 1) := by decide +kernel
theorem dX12_fillsWaits_45 : decode cX12_fillsWaits 45 = .ok (.aload_n 0, 1) := by decide +kernel
theorem dX12_fillsWaits_46 : decode cX12_fillsWaits 46 = .ok (.getfield 49, 3) := by decide +kernel
theorem dX12_fillsWaits_49 : decode cX12_fillsWaits 49 = .ok (.aload_n 0, 1) := by decide +kernel
theorem dX12_fillsWaits_50 : decode cX12_fillsWaits 50 = .ok (.getfield 258, 3) := by decide +kernel
theorem dX12_fillsWaits_53 : decode cX12_fillsWaits 53 = .ok (.iaload, 1) := by decide +kernel
theorem dX12_fillsWaits_54 : decode cX12_fillsWaits 54 = .ok (.if_icmp .ge 35, 3) := by decide +kernel
theorem dX12_fillsWaits_57 : decode cX12_fillsWaits 57 = .ok (.iload_n 3, 1) := by decide +kernel
theorem dX12_fillsWaits_58 : decode cX12_fillsWaits 58 = .ok (.iload_n 2, 1) := by decide +kernel
theorem dX12_fillsWaits_59 : decode cX12_fillsWaits 59 = .ok (.if_icmp .eq 24, 3) := by decide +kernel
theorem dX12_fillsWaits_62 : decode cX12_fillsWaits 62 = .ok (.aload_n 0, 1) := by decide +kernel
theorem dX12_fillsWaits_63 : decode cX12_fillsWaits 63 = .ok (.iload_n 3, 1) := by decide +kernel
theorem dX12_fillsWaits_64 : decode cX12_fillsWaits 64 = .ok (.iload_n 2, 1) := by decide +kernel
theorem dX12_fillsWaits_65 : decode cX12_fillsWaits 65 = .ok (.invokevirtual 410, 3) := by decide +kernel
theorem dX12_fillsWaits_68 : decode cX12_fillsWaits 68 = .ok (.ifCond .le 15, 3) := by decide +kernel
theorem dX12_fillsWaits_71 : decode cX12_fillsWaits 71 = .ok (.aload_n 0, 1) := by decide +kernel
theorem dX12_fillsWaits_72 : decode cX12_fillsWaits 72 = .ok (.getfield 141, 3) := by decide +kernel
theorem dX12_fillsWaits_75 : decode cX12_fillsWaits 75 = .ok (.iload_n 2, 1) := by decide +kernel
theorem dX12_fillsWaits_76 : decode cX12_fillsWaits 76 = .ok (.dup2, 1) := by decide +kernel
theorem dX12_fillsWaits_77 : decode cX12_fillsWaits 77 = .ok (.iaload, 1) := by decide +kernel
theorem dX12_fillsWaits_78 : decode cX12_fillsWaits 78 = .ok (.iconst 1, 1) := by decide +kernel
theorem dX12_fillsWaits_79 : decode cX12_fillsWaits 79 = .ok (.iload_n 3, 1) := by decide +kernel
theorem dX12_fillsWaits_80 : decode cX12_fillsWaits 80 = .ok (.ishl, 1) := by decide +kernel
theorem dX12_fillsWaits_81 : decode cX12_fillsWaits 81 = .ok (.ior, 1) := by decide +kernel
theorem dX12_fillsWaits_82 : decode cX12_fillsWaits 82 = .ok (.iastore, 1) := by decide +kernel
theorem dX12_fillsWaits_83 : decode cX12_fillsWaits 83 = .ok (.iinc 3 1, 3) := by decide +kernel
theorem dX12_fillsWaits_86 : decode cX12_fillsWaits 86 = .ok (.goto (-42), 3) := by decide +kernel
theorem dX12_fillsWaits_89 : decode cX12_fillsWaits 89 = .ok (.iinc 2 1, 3) := by decide +kernel
theorem dX12_fillsWaits_92 : decode cX12_fillsWaits 92 = .ok (.goto (-88), 3) := by decide +kernel
theorem dX12_fillsWaits_95 : decode cX12_fillsWaits 95 = .ok (.iload_n 1, 1) := by decide +kernel
theorem dX12_fillsWaits_96 : decode cX12_fillsWaits 96 = .ok (.ireturn, 1) := by decide +kernel
theorem dX12_areTwo_0 : decode cX12_areTwo 0 = .ok (.aload_n 0, 1) := by decide +kernel
theorem dX12_areTwo_1 : decode cX12_areTwo 1 = .ok (.iload_n 1, 1) := by decide +kernel
theorem dX12_areTwo_2 : decode cX12_areTwo 2 = .ok (.invokevirtual 394, 3) := by decide +kernel
theorem dX12_areTwo_5 : decode cX12_areTwo 5 = .ok (.ifCond .eq 20, 3) := by decide +kernel
theorem dX12_areTwo_8 : decode cX12_areTwo 8 = .ok (.aload_n 0, 1) := by decide +kernel
theorem dX12_areTwo_9 : decode cX12_areTwo 9 = .ok (.iload_n 2, 1) := by decide +kernel
theorem dX12_areTwo_10 : decode cX12_areTwo 10 = .ok (.invokevirtual 394, 3) := by decide +kernel
theorem dX12_areTwo_13 : decode cX12_areTwo 13 = .ok (.ifCond .eq 12, 3) := by decide +kernel
theorem dX12_areTwo_16 : decode cX12_areTwo 16 = .ok (.iload_n 1, 1) := by decide +kernel
theorem dX12_areTwo_17 : decode cX12_areTwo 17 = .ok (.iload_n 2, 1) := by decide +kernel
theorem dX12_areTwo_18 : decode cX12_areTwo 18 = .ok (.if_icmp .eq 7, 3) := by decide +kernel
theorem dX12_areTwo_21 : decode cX12_areTwo 21 = .ok (.iconst 1, 1) := by decide +kernel
theorem dX12_areTwo_22 : decode cX12_areTwo 22 = .ok (.goto 4, 3) := by decide +kernel
theorem dX12_areTwo_25 : decode cX12_areTwo 25 = .ok (.iconst 0, 1) := by decide +kernel
theorem dX12_areTwo_26 : decode cX12_areTwo 26 = .ok (.ireturn, 1) := by decide +kernel
theorem dX12_over_0 : decode cX12_over 0 = .ok (.aload_n 0, 1) := by decide +kernel
theorem dX12_over_1 : decode cX12_over 1 = .ok (.iload_n 1, 1) := by decide +kernel
theorem dX12_over_2 : decode cX12_over 2 = .ok (.iload_n 2, 1) := by decide +kernel
theorem dX12_over_3 : decode cX12_over 3 = .ok (.invokevirtual 413, 3) := by decide +kernel
theorem dX12_over_6 : decode cX12_over 6 = .ok (.ifCond .ne 5, 3) := by decide +kernel
theorem dX12_over_9 : decode cX12_over 9 = .ok (.iconst (-1), 1) := by decide +kernel
theorem dX12_over_10 : decode cX12_over 10 = .ok (.ireturn, 1) := by decide +kernel
theorem dX12_over_11 : decode cX12_over 11 = .ok (.aload_n 0, 1) := by decide +kernel
theorem dX12_over_12 : decode cX12_over 12 = .ok (.invokevirtual 397, 3) := by decide +kernel
theorem dX12_over_15 : decode cX12_over 15 = .ok (.aload_n 0, 1) := by decide +kernel
theorem dX12_over_16 : decode cX12_over 16 = .ok (.iload_n 1, 1) := by decide +kernel
theorem dX12_over_17 : decode cX12_over 17 = .ok (.iload_n 2, 1) := by decide +kernel
theorem dX12_over_18 : decode cX12_over 18 = .ok (.invokevirtual 410, 3) := by decide +kernel
theorem dX12_over_21 : decode cX12_over 21 = .ok (.ireturn, 1) := by decide +kernel
theorem dX12_waits_0 : decode cX12_waits 0 = .ok (.aload_n 0, 1) := by decide +kernel
theorem dX12_waits_1 : decode cX12_waits 1 = .ok (.iload_n 1, 1) := by decide +kernel
theorem dX12_waits_2 : decode cX12_waits 2 = .ok (.invokevirtual 394, 3) := by decide +kernel
theorem dX12_waits_5 : decode cX12_waits 5 = .ok (.ifCond .ne 5, 3) := by decide +kernel
theorem dX12_waits_8 : decode cX12_waits 8 = .ok (.iconst (-1), 1) := by decide +kernel
theorem dX12_waits_9 : decode cX12_waits 9 = .ok (.ireturn, 1) := by decide +kernel
theorem dX12_waits_10 : decode cX12_waits 10 = .ok (.aload_n 0, 1) := by decide +kernel
theorem dX12_waits_11 : decode cX12_waits 11 = .ok (.invokevirtual 397, 3) := by decide +kernel
theorem dX12_waits_14 : decode cX12_waits 14 = .ok (.aload_n 0, 1) := by decide +kernel
theorem dX12_waits_15 : decode cX12_waits 15 = .ok (.invokevirtual 416, 3) := by decide +kernel
theorem dX12_waits_18 : decode cX12_waits 18 = .ok (.pop, 1) := by decide +kernel
theorem dX12_waits_19 : decode cX12_waits 19 = .ok (.aload_n 0, 1) := by decide +kernel
theorem dX12_waits_20 : decode cX12_waits 20 = .ok (.getfield 141, 3) := by decide +kernel
theorem dX12_waits_23 : decode cX12_waits 23 = .ok (.iload_n 1, 1) := by decide +kernel
theorem dX12_waits_24 : decode cX12_waits 24 = .ok (.iaload, 1) := by decide +kernel
theorem dX12_waits_25 : decode cX12_waits 25 = .ok (.ireturn, 1) := by decide +kernel
theorem dX12_fillsOrders_0 : decode cX12_fillsOrders 0 = .ok (.aload_n 0, 1) := by decide +kernel
theorem dX12_fillsOrders_1 : decode cX12_fillsOrders 1 = .ok (.getfield 144, 3) := by decide +kernel
theorem dX12_fillsOrders_4 : decode cX12_fillsOrders 4 = .ok (.iconst 0, 1) := by decide +kernel
theorem dX12_fillsOrders_5 : decode cX12_fillsOrders 5 = .ok (.iconst 1, 1) := by decide +kernel
theorem dX12_fillsOrders_6 : decode cX12_fillsOrders 6 = .ok (.iastore, 1) := by decide +kernel
theorem dX12_fillsOrders_7 : decode cX12_fillsOrders 7 = .ok (.iconst 1, 1) := by decide +kernel
theorem dX12_fillsOrders_8 : decode cX12_fillsOrders 8 = .ok (.istore_n 1, 1) := by decide +kernel
theorem dX12_fillsOrders_9 : decode cX12_fillsOrders 9 = .ok (.iload_n 1, 1) := by decide +kernel
theorem dX12_fillsOrders_10 : decode cX12_fillsOrders 10 = .ok (.sipush 128, 3) := by decide +kernel
theorem dX12_fillsOrders_13 : decode cX12_fillsOrders 13 = .ok (.if_icmp .ge 78, 3) := by decide +kernel
theorem dX12_fillsOrders_16 : decode cX12_fillsOrders 16 = .ok (.aload_n 0, 1) := by decide +kernel
theorem dX12_fillsOrders_17 : decode cX12_fillsOrders 17 = .ok (.getfield 144, 3) := by decide +kernel
theorem dX12_fillsOrders_20 : decode cX12_fillsOrders 20 = .ok (.iload_n 1, 1) := by decide +kernel
theorem dX12_fillsOrders_21 : decode cX12_fillsOrders 21 = .ok (.iconst 0, 1) := by decide +kernel
theorem dX12_fillsOrders_22 : decode cX12_fillsOrders 22 = .ok (.iastore, 1) := by decide +kernel
theorem dX12_fillsOrders_23 : decode cX12_fillsOrders 23 = .ok (.iconst 0, 1) := by decide +kernel
theorem dX12_fillsOrders_24 : decode cX12_fillsOrders 24 = .ok (.istore_n 2, 1) := by decide +kernel
theorem dX12_fillsOrders_25 : decode cX12_fillsOrders 25 = .ok (.iload_n 2, 1) := by decide +kernel
theorem dX12_fillsOrders_26 : decode cX12_fillsOrders 26 = .ok (.aload_n 0, 1) := by decide +kernel
theorem dX12_fillsOrders_27 : decode cX12_fillsOrders 27 = .ok (.getfield 49, 3) := by decide +kernel
theorem dX12_fillsOrders_30 : decode cX12_fillsOrders 30 = .ok (.aload_n 0, 1) := by decide +kernel
theorem dX12_fillsOrders_31 : decode cX12_fillsOrders 31 = .ok (.getfield 258, 3) := by decide +kernel
theorem dX12_fillsOrders_34 : decode cX12_fillsOrders 34 = .ok (.iaload, 1) := by decide +kernel
theorem dX12_fillsOrders_35 : decode cX12_fillsOrders 35 = .ok (.if_icmp .ge 50, 3) := by decide +kernel
theorem dX12_fillsOrders_38 : decode cX12_fillsOrders 38 = .ok (.iload_n 1, 1) := by decide +kernel
theorem dX12_fillsOrders_39 : decode cX12_fillsOrders 39 = .ok (.iload_n 2, 1) := by decide +kernel
theorem dX12_fillsOrders_40 : decode cX12_fillsOrders 40 = .ok (.ishr, 1) := by decide +kernel
theorem dX12_fillsOrders_41 : decode cX12_fillsOrders 41 = .ok (.iconst 1, 1) := by decide +kernel
theorem dX12_fillsOrders_42 : decode cX12_fillsOrders 42 = .ok (.iand, 1) := by decide +kernel
theorem dX12_fillsOrders_43 : decode cX12_fillsOrders 43 = .ok (.iconst 1, 1) := by decide +kernel
theorem dX12_fillsOrders_44 : decode cX12_fillsOrders 44 = .ok (.if_icmp .ne 35, 3) := by decide +kernel
theorem dX12_fillsOrders_47 : decode cX12_fillsOrders 47 = .ok (.aload_n 0, 1) := by decide +kernel
theorem dX12_fillsOrders_48 : decode cX12_fillsOrders 48 = .ok (.getfield 141, 3) := by decide +kernel
theorem dX12_fillsOrders_51 : decode cX12_fillsOrders 51 = .ok (.iload_n 2, 1) := by decide +kernel
theorem dX12_fillsOrders_52 : decode cX12_fillsOrders 52 = .ok (.iaload, 1) := by decide +kernel
theorem dX12_fillsOrders_53 : decode cX12_fillsOrders 53 = .ok (.iload_n 1, 1) := by decide +kernel
theorem dX12_fillsOrders_54 : decode cX12_fillsOrders 54 = .ok (.iand, 1) := by decide +kernel
theorem dX12_fillsOrders_55 : decode cX12_fillsOrders 55 = .ok (.ifCond .ne 24, 3) := by decide +kernel
theorem dX12_fillsOrders_58 : decode cX12_fillsOrders 58 = .ok (.aload_n 0, 1) := by decide +kernel
theorem dX12_fillsOrders_59 : decode cX12_fillsOrders 59 = .ok (.getfield 144, 3) := by decide +kernel
theorem dX12_fillsOrders_62 : decode cX12_fillsOrders 62 = .ok (.iload_n 1, 1) := by decide +kernel
theorem dX12_fillsOrders_63 : decode cX12_fillsOrders 63 = .ok (.dup2, 1) := by decide +kernel
theorem dX12_fillsOrders_64 : decode cX12_fillsOrders 64 = .ok (.iaload, 1) := by decide +kernel
theorem dX12_fillsOrders_65 : decode cX12_fillsOrders 65 = .ok (.aload_n 0, 1) := by decide +kernel
theorem dX12_fillsOrders_66 : decode cX12_fillsOrders 66 = .ok (.getfield 144, 3) := by decide +kernel
theorem dX12_fillsOrders_69 : decode cX12_fillsOrders 69 = .ok (.iload_n 1, 1) := by decide +kernel
theorem dX12_fillsOrders_70 : decode cX12_fillsOrders 70 = .ok (.iconst 1, 1) := by decide +kernel
theorem dX12_fillsOrders_71 : decode cX12_fillsOrders 71 = .ok (.iload_n 2, 1) := by decide +kernel
theorem dX12_fillsOrders_72 : decode cX12_fillsOrders 72 = .ok (.ishl, 1) := by decide +kernel
theorem dX12_fillsOrders_73 : decode cX12_fillsOrders 73 = .ok (.iconst (-1), 1) := by decide +kernel
theorem dX12_fillsOrders_74 : decode cX12_fillsOrders 74 = .ok (.ixor, 1) := by decide +kernel
theorem dX12_fillsOrders_75 : decode cX12_fillsOrders 75 = .ok (.iand, 1) := by decide +kernel
theorem dX12_fillsOrders_76 : decode cX12_fillsOrders 76 = .ok (.iaload, 1) := by decide +kernel
theorem dX12_fillsOrders_77 : decode cX12_fillsOrders 77 = .ok (.iadd, 1) := by decide +kernel
theorem dX12_fillsOrders_78 : decode cX12_fillsOrders 78 = .ok (.iastore, 1) := by decide +kernel
theorem dX12_fillsOrders_79 : decode cX12_fillsOrders 79 = .ok (.iinc 2 1, 3) := by decide +kernel
theorem dX12_fillsOrders_82 : decode cX12_fillsOrders 82 = .ok (.goto (-57), 3) := by decide +kernel
theorem dX12_fillsOrders_85 : decode cX12_fillsOrders 85 = .ok (.iinc 1 1, 3) := by decide +kernel
theorem dX12_fillsOrders_88 : decode cX12_fillsOrders 88 = .ok (.goto (-79), 3) := by decide +kernel
theorem dX12_fillsOrders_91 : decode cX12_fillsOrders 91 = .ok (.return_, 1) := by decide +kernel
theorem dX12_orders_0 : decode cX12_orders 0 = .ok (.aload_n 0, 1) := by decide +kernel
theorem dX12_orders_1 : decode cX12_orders 1 = .ok (.invokevirtual 397, 3) := by decide +kernel
theorem dX12_orders_4 : decode cX12_orders 4 = .ok (.aload_n 0, 1) := by decide +kernel
theorem dX12_orders_5 : decode cX12_orders 5 = .ok (.invokevirtual 416, 3) := by decide +kernel
theorem dX12_orders_8 : decode cX12_orders 8 = .ok (.istore_n 1, 1) := by decide +kernel
theorem dX12_orders_9 : decode cX12_orders 9 = .ok (.aload_n 0, 1) := by decide +kernel
theorem dX12_orders_10 : decode cX12_orders 10 = .ok (.invokevirtual 419, 3) := by decide +kernel
theorem dX12_orders_13 : decode cX12_orders 13 = .ok (.aload_n 0, 1) := by decide +kernel
theorem dX12_orders_14 : decode cX12_orders 14 = .ok (.getfield 144, 3) := by decide +kernel
theorem dX12_orders_17 : decode cX12_orders 17 = .ok (.iload_n 1, 1) := by decide +kernel
theorem dX12_orders_18 : decode cX12_orders 18 = .ok (.iaload, 1) := by decide +kernel
theorem dX12_orders_19 : decode cX12_orders 19 = .ok (.ireturn, 1) := by decide +kernel
theorem dX12_orderAt_0 : decode cX12_orderAt 0 = .ok (.iload_n 1, 1) := by decide +kernel
theorem dX12_orderAt_1 : decode cX12_orderAt 1 = .ok (.ifCond .ge 5, 3) := by decide +kernel
theorem dX12_orderAt_4 : decode cX12_orderAt 4 = .ok (.iconst (-1), 1) := by decide +kernel
theorem dX12_orderAt_5 : decode cX12_orderAt 5 = .ok (.ireturn, 1) := by decide +kernel
theorem dX12_orderAt_6 : decode cX12_orderAt 6 = .ok (.aload_n 0, 1) := by decide +kernel
theorem dX12_orderAt_7 : decode cX12_orderAt 7 = .ok (.invokevirtual 397, 3) := by decide +kernel
theorem dX12_orderAt_10 : decode cX12_orderAt 10 = .ok (.aload_n 0, 1) := by decide +kernel
theorem dX12_orderAt_11 : decode cX12_orderAt 11 = .ok (.invokevirtual 416, 3) := by decide +kernel
theorem dX12_orderAt_14 : decode cX12_orderAt 14 = .ok (.istore_n 2, 1) := by decide +kernel
theorem dX12_orderAt_15 : decode cX12_orderAt 15 = .ok (.aload_n 0, 1) := by decide +kernel
theorem dX12_orderAt_16 : decode cX12_orderAt 16 = .ok (.invokevirtual 419, 3) := by decide +kernel
theorem dX12_orderAt_19 : decode cX12_orderAt 19 = .ok (.aload_n 0, 1) := by decide +kernel
theorem dX12_orderAt_20 : decode cX12_orderAt 20 = .ok (.getfield 144, 3) := by decide +kernel
theorem dX12_orderAt_23 : decode cX12_orderAt 23 = .ok (.iload_n 2, 1) := by decide +kernel
theorem dX12_orderAt_24 : decode cX12_orderAt 24 = .ok (.iaload, 1) := by decide +kernel
theorem dX12_orderAt_25 : decode cX12_orderAt 25 = .ok (.ifCond .ne 6, 3) := by decide +kernel
theorem dX12_orderAt_28 : decode cX12_orderAt 28 = .ok (.bipush (-2), 2) := by decide +kernel
theorem dX12_orderAt_30 : decode cX12_orderAt 30 = .ok (.ireturn, 1) := by decide +kernel
theorem dX12_orderAt_31 : decode cX12_orderAt 31 = .ok (.iconst 0, 1) := by decide +kernel
theorem dX12_orderAt_32 : decode cX12_orderAt 32 = .ok (.istore_n 3, 1) := by decide +kernel
theorem dX12_orderAt_33 : decode cX12_orderAt 33 = .ok (.iload_n 2, 1) := by decide +kernel
theorem dX12_orderAt_34 : decode cX12_orderAt 34 = .ok (.ifCond .eq 72, 3) := by decide +kernel
theorem dX12_orderAt_37 : decode cX12_orderAt 37 = .ok (.iconst 0, 1) := by decide +kernel
theorem dX12_orderAt_38 : decode cX12_orderAt 38 = .ok (.istore 4, 2) := by decide +kernel
theorem dX12_orderAt_40 : decode cX12_orderAt 40 = .ok (.iload_n 2, 1) := by decide +kernel
theorem dX12_orderAt_41 : decode cX12_orderAt 41 = .ok (.iload 4, 2) := by decide +kernel
theorem dX12_orderAt_43 : decode cX12_orderAt 43 = .ok (.ishr, 1) := by decide +kernel
theorem dX12_orderAt_44 : decode cX12_orderAt 44 = .ok (.iconst 1, 1) := by decide +kernel
theorem dX12_orderAt_45 : decode cX12_orderAt 45 = .ok (.iand, 1) := by decide +kernel
theorem dX12_orderAt_46 : decode cX12_orderAt 46 = .ok (.ifCond .eq 31, 3) := by decide +kernel
theorem dX12_orderAt_49 : decode cX12_orderAt 49 = .ok (.aload_n 0, 1) := by decide +kernel
theorem dX12_orderAt_50 : decode cX12_orderAt 50 = .ok (.getfield 141, 3) := by decide +kernel
theorem dX12_orderAt_53 : decode cX12_orderAt 53 = .ok (.iload 4, 2) := by decide +kernel
theorem dX12_orderAt_55 : decode cX12_orderAt 55 = .ok (.iaload, 1) := by decide +kernel
theorem dX12_orderAt_56 : decode cX12_orderAt 56 = .ok (.iload_n 2, 1) := by decide +kernel
theorem dX12_orderAt_57 : decode cX12_orderAt 57 = .ok (.iand, 1) := by decide +kernel
theorem dX12_orderAt_58 : decode cX12_orderAt 58 = .ok (.ifCond .ne 19, 3) := by decide +kernel
theorem dX12_orderAt_61 : decode cX12_orderAt 61 = .ok (.aload_n 0, 1) := by decide +kernel
theorem dX12_orderAt_62 : decode cX12_orderAt 62 = .ok (.getfield 144, 3) := by decide +kernel
theorem dX12_orderAt_65 : decode cX12_orderAt 65 = .ok (.iload_n 2, 1) := by decide +kernel
theorem dX12_orderAt_66 : decode cX12_orderAt 66 = .ok (.iconst 1, 1) := by decide +kernel
theorem dX12_orderAt_67 : decode cX12_orderAt 67 = .ok (.iload 4, 2) := by decide +kernel
theorem dX12_orderAt_69 : decode cX12_orderAt 69 = .ok (.ishl, 1) := by decide +kernel
theorem dX12_orderAt_70 : decode cX12_orderAt 70 = .ok (.iconst (-1), 1) := by decide +kernel
theorem dX12_orderAt_71 : decode cX12_orderAt 71 = .ok (.ixor, 1) := by decide +kernel
theorem dX12_orderAt_72 : decode cX12_orderAt 72 = .ok (.iand, 1) := by decide +kernel
theorem dX12_orderAt_73 : decode cX12_orderAt 73 = .ok (.iaload, 1) := by decide +kernel
theorem dX12_orderAt_74 : decode cX12_orderAt 74 = .ok (.ifCond .ne 9, 3) := by decide +kernel
theorem dX12_orderAt_77 : decode cX12_orderAt 77 = .ok (.iinc 4 1, 3) := by decide +kernel
theorem dX12_orderAt_80 : decode cX12_orderAt 80 = .ok (.goto (-40), 3) := by decide +kernel
theorem dX12_orderAt_83 : decode cX12_orderAt 83 = .ok (.iload_n 3, 1) := by decide +kernel
theorem dX12_orderAt_84 : decode cX12_orderAt 84 = .ok (.iload_n 1, 1) := by decide +kernel
theorem dX12_orderAt_85 : decode cX12_orderAt 85 = .ok (.if_icmp .ne 6, 3) := by decide +kernel
theorem dX12_orderAt_88 : decode cX12_orderAt 88 = .ok (.iload 4, 2) := by decide +kernel
theorem dX12_orderAt_90 : decode cX12_orderAt 90 = .ok (.ireturn, 1) := by decide +kernel
theorem dX12_orderAt_91 : decode cX12_orderAt 91 = .ok (.iload_n 2, 1) := by decide +kernel
theorem dX12_orderAt_92 : decode cX12_orderAt 92 = .ok (.iconst 1, 1) := by decide +kernel
theorem dX12_orderAt_93 : decode cX12_orderAt 93 = .ok (.iload 4, 2) := by decide +kernel
theorem dX12_orderAt_95 : decode cX12_orderAt 95 = .ok (.ishl, 1) := by decide +kernel
theorem dX12_orderAt_96 : decode cX12_orderAt 96 = .ok (.iconst (-1), 1) := by decide +kernel
theorem dX12_orderAt_97 : decode cX12_orderAt 97 = .ok (.ixor, 1) := by decide +kernel
theorem dX12_orderAt_98 : decode cX12_orderAt 98 = .ok (.iand, 1) := by decide +kernel
theorem dX12_orderAt_99 : decode cX12_orderAt 99 = .ok (.istore_n 2, 1) := by decide +kernel
theorem dX12_orderAt_100 : decode cX12_orderAt 100 = .ok (.iinc 3 1, 3) := by decide +kernel
theorem dX12_orderAt_103 : decode cX12_orderAt 103 = .ok (.goto (-70), 3) := by decide +kernel
theorem dX12_orderAt_106 : decode cX12_orderAt 106 = .ok (.iconst (-1), 1) := by decide +kernel
theorem dX12_orderAt_107 : decode cX12_orderAt 107 = .ok (.ireturn, 1) := by decide +kernel
theorem dX12_bits_0 : decode cX12_bits 0 = .ok (.iconst 0, 1) := by decide +kernel
theorem dX12_bits_1 : decode cX12_bits 1 = .ok (.istore_n 1, 1) := by decide +kernel
theorem dX12_bits_2 : decode cX12_bits 2 = .ok (.iconst 0, 1) := by decide +kernel
theorem dX12_bits_3 : decode cX12_bits 3 = .ok (.istore_n 2, 1) := by decide +kernel
theorem dX12_bits_4 : decode cX12_bits 4 = .ok (.iload_n 2, 1) := by decide +kernel
theorem dX12_bits_5 : decode cX12_bits 5 = .ok (.bipush 7, 2) := by decide +kernel
theorem dX12_bits_7 : decode cX12_bits 7 = .ok (.if_icmp .ge 17, 3) := by decide +kernel
theorem dX12_bits_10 : decode cX12_bits 10 = .ok (.iload_n 1, 1) := by decide +kernel
theorem dX12_bits_11 : decode cX12_bits 11 = .ok (.iload_n 0, 1) := by decide +kernel
theorem dX12_bits_12 : decode cX12_bits 12 = .ok (.iload_n 2, 1) := by decide +kernel
theorem dX12_bits_13 : decode cX12_bits 13 = .ok (.ishr, 1) := by decide +kernel
theorem dX12_bits_14 : decode cX12_bits 14 = .ok (.iconst 1, 1) := by decide +kernel
theorem dX12_bits_15 : decode cX12_bits 15 = .ok (.iand, 1) := by decide +kernel
theorem dX12_bits_16 : decode cX12_bits 16 = .ok (.iadd, 1) := by decide +kernel
theorem dX12_bits_17 : decode cX12_bits 17 = .ok (.istore_n 1, 1) := by decide +kernel
theorem dX12_bits_18 : decode cX12_bits 18 = .ok (.iinc 2 1, 3) := by decide +kernel
theorem dX12_bits_21 : decode cX12_bits 21 = .ok (.goto (-17), 3) := by decide +kernel
theorem dX12_bits_24 : decode cX12_bits 24 = .ok (.iload_n 1, 1) := by decide +kernel
theorem dX12_bits_25 : decode cX12_bits 25 = .ok (.ireturn, 1) := by decide +kernel
theorem dX12_piecesOf_0 : decode cX12_piecesOf 0 = .ok (.iconst 0, 1) := by decide +kernel
theorem dX12_piecesOf_1 : decode cX12_piecesOf 1 = .ok (.istore_n 2, 1) := by decide +kernel
theorem dX12_piecesOf_2 : decode cX12_piecesOf 2 = .ok (.iconst 0, 1) := by decide +kernel
theorem dX12_piecesOf_3 : decode cX12_piecesOf 3 = .ok (.istore_n 3, 1) := by decide +kernel
theorem dX12_piecesOf_4 : decode cX12_piecesOf 4 = .ok (.iload_n 3, 1) := by decide +kernel
theorem dX12_piecesOf_5 : decode cX12_piecesOf 5 = .ok (.aload_n 0, 1) := by decide +kernel
theorem dX12_piecesOf_6 : decode cX12_piecesOf 6 = .ok (.getfield 49, 3) := by decide +kernel
theorem dX12_piecesOf_9 : decode cX12_piecesOf 9 = .ok (.aload_n 0, 1) := by decide +kernel
theorem dX12_piecesOf_10 : decode cX12_piecesOf 10 = .ok (.getfield 258, 3) := by decide +kernel
theorem dX12_piecesOf_13 : decode cX12_piecesOf 13 = .ok (.iaload, 1) := by decide +kernel
theorem dX12_piecesOf_14 : decode cX12_piecesOf 14 = .ok (.if_icmp .ge 30, 3) := by decide +kernel
theorem dX12_piecesOf_17 : decode cX12_piecesOf 17 = .ok (.iload_n 1, 1) := by decide +kernel
theorem dX12_piecesOf_18 : decode cX12_piecesOf 18 = .ok (.iload_n 3, 1) := by decide +kernel
theorem dX12_piecesOf_19 : decode cX12_piecesOf 19 = .ok (.ishr, 1) := by decide +kernel
theorem dX12_piecesOf_20 : decode cX12_piecesOf 20 = .ok (.iconst 1, 1) := by decide +kernel
theorem dX12_piecesOf_21 : decode cX12_piecesOf 21 = .ok (.iand, 1) := by decide +kernel
theorem dX12_piecesOf_22 : decode cX12_piecesOf 22 = .ok (.iconst 1, 1) := by decide +kernel
theorem dX12_piecesOf_23 : decode cX12_piecesOf 23 = .ok (.if_icmp .ne 15, 3) := by decide +kernel
theorem dX12_piecesOf_26 : decode cX12_piecesOf 26 = .ok (.iload_n 2, 1) := by decide +kernel
theorem dX12_piecesOf_27 : decode cX12_piecesOf 27 = .ok (.aload_n 0, 1) := by decide +kernel
theorem dX12_piecesOf_28 : decode cX12_piecesOf 28 = .ok (.getfield 131, 3) := by decide +kernel
theorem dX12_piecesOf_31 : decode cX12_piecesOf 31 = .ok (.bipush 14, 2) := by decide +kernel
theorem dX12_piecesOf_33 : decode cX12_piecesOf 33 = .ok (.iload_n 3, 1) := by decide +kernel
theorem dX12_piecesOf_34 : decode cX12_piecesOf 34 = .ok (.iadd, 1) := by decide +kernel
theorem dX12_piecesOf_35 : decode cX12_piecesOf 35 = .ok (.iaload, 1) := by decide +kernel
theorem dX12_piecesOf_36 : decode cX12_piecesOf 36 = .ok (.iadd, 1) := by decide +kernel
theorem dX12_piecesOf_37 : decode cX12_piecesOf 37 = .ok (.istore_n 2, 1) := by decide +kernel
theorem dX12_piecesOf_38 : decode cX12_piecesOf 38 = .ok (.iinc 3 1, 3) := by decide +kernel
theorem dX12_piecesOf_41 : decode cX12_piecesOf 41 = .ok (.goto (-37), 3) := by decide +kernel
theorem dX12_piecesOf_44 : decode cX12_piecesOf 44 = .ok (.iload_n 2, 1) := by decide +kernel
theorem dX12_piecesOf_45 : decode cX12_piecesOf 45 = .ok (.ireturn, 1) := by decide +kernel
theorem dX12_cuts_0 : decode cX12_cuts 0 = .ok (.iload_n 1, 1) := by decide +kernel
theorem dX12_cuts_1 : decode cX12_cuts 1 = .ok (.iconst 0, 1) := by decide +kernel
theorem dX12_cuts_2 : decode cX12_cuts 2 = .ok (.iconst 2, 1) := by decide +kernel
theorem dX12_cuts_3 : decode cX12_cuts 3 = .ok (.invokestatic 345, 3) := by decide +kernel
theorem dX12_cuts_6 : decode cX12_cuts 6 = .ok (.ifCond .ne 5, 3) := by decide +kernel
theorem dX12_cuts_9 : decode cX12_cuts 9 = .ok (.iconst (-1), 1) := by decide +kernel
theorem dX12_cuts_10 : decode cX12_cuts 10 = .ok (.ireturn, 1) := by decide +kernel
theorem dX12_cuts_11 : decode cX12_cuts 11 = .ok (.aload_n 0, 1) := by decide +kernel
theorem dX12_cuts_12 : decode cX12_cuts 12 = .ok (.invokevirtual 397, 3) := by decide +kernel
theorem dX12_cuts_15 : decode cX12_cuts 15 = .ok (.aload_n 0, 1) := by decide +kernel
theorem dX12_cuts_16 : decode cX12_cuts 16 = .ok (.invokevirtual 416, 3) := by decide +kernel
theorem dX12_cuts_19 : decode cX12_cuts 19 = .ok (.istore_n 2, 1) := by decide +kernel
theorem dX12_cuts_20 : decode cX12_cuts 20 = .ok (.aload_n 0, 1) := by decide +kernel
theorem dX12_cuts_21 : decode cX12_cuts 21 = .ok (.invokevirtual 419, 3) := by decide +kernel
theorem dX12_cuts_24 : decode cX12_cuts 24 = .ok (.iload_n 2, 1) := by decide +kernel
theorem dX12_cuts_25 : decode cX12_cuts 25 = .ok (.istore_n 3, 1) := by decide +kernel
theorem dX12_cuts_26 : decode cX12_cuts 26 = .ok (.iconst 0, 1) := by decide +kernel
theorem dX12_cuts_27 : decode cX12_cuts 27 = .ok (.istore 4, 2) := by decide +kernel
theorem dX12_cuts_29 : decode cX12_cuts 29 = .ok (.iload 4, 2) := by decide +kernel
theorem dX12_cuts_31 : decode cX12_cuts 31 = .ok (.sipush 128, 3) := by decide +kernel
theorem dX12_cuts_34 : decode cX12_cuts 34 = .ok (.if_icmp .ge 74, 3) := by decide +kernel
theorem dX12_cuts_37 : decode cX12_cuts 37 = .ok (.iload 4, 2) := by decide +kernel
theorem dX12_cuts_39 : decode cX12_cuts 39 = .ok (.iload_n 2, 1) := by decide +kernel
theorem dX12_cuts_40 : decode cX12_cuts 40 = .ok (.iconst (-1), 1) := by decide +kernel
theorem dX12_cuts_41 : decode cX12_cuts 41 = .ok (.ixor, 1) := by decide +kernel
theorem dX12_cuts_42 : decode cX12_cuts 42 = .ok (.iand, 1) := by decide +kernel
theorem dX12_cuts_43 : decode cX12_cuts 43 = .ok (.ifCond .ne 59, 3) := by decide +kernel
theorem dX12_cuts_46 : decode cX12_cuts 46 = .ok (.aload_n 0, 1) := by decide +kernel
theorem dX12_cuts_47 : decode cX12_cuts 47 = .ok (.getfield 144, 3) := by decide +kernel
theorem dX12_cuts_50 : decode cX12_cuts 50 = .ok (.iload_n 2, 1) := by decide +kernel
theorem dX12_cuts_51 : decode cX12_cuts 51 = .ok (.iload 4, 2) := by decide +kernel
theorem dX12_cuts_53 : decode cX12_cuts 53 = .ok (.iconst (-1), 1) := by decide +kernel
theorem dX12_cuts_54 : decode cX12_cuts 54 = .ok (.ixor, 1) := by decide +kernel
theorem dX12_cuts_55 : decode cX12_cuts 55 = .ok (.iand, 1) := by decide +kernel
theorem dX12_cuts_56 : decode cX12_cuts 56 = .ok (.iaload, 1) := by decide +kernel
theorem dX12_cuts_57 : decode cX12_cuts 57 = .ok (.ifCond .ne 6, 3) := by decide +kernel
theorem dX12_cuts_60 : decode cX12_cuts 60 = .ok (.goto 42, 3) := by decide +kernel
theorem dX12_cuts_63 : decode cX12_cuts 63 = .ok (.iload 4, 2) := by decide +kernel
theorem dX12_cuts_65 : decode cX12_cuts 65 = .ok (.invokestatic 422, 3) := by decide +kernel
theorem dX12_cuts_68 : decode cX12_cuts 68 = .ok (.iload_n 3, 1) := by decide +kernel
theorem dX12_cuts_69 : decode cX12_cuts 69 = .ok (.invokestatic 422, 3) := by decide +kernel
theorem dX12_cuts_72 : decode cX12_cuts 72 = .ok (.isub, 1) := by decide +kernel
theorem dX12_cuts_73 : decode cX12_cuts 73 = .ok (.istore 5, 2) := by decide +kernel
theorem dX12_cuts_75 : decode cX12_cuts 75 = .ok (.iload 5, 2) := by decide +kernel
theorem dX12_cuts_77 : decode cX12_cuts 77 = .ok (.ifCond .lt 22, 3) := by decide +kernel
theorem dX12_cuts_80 : decode cX12_cuts 80 = .ok (.iload 5, 2) := by decide +kernel
theorem dX12_cuts_82 : decode cX12_cuts 82 = .ok (.ifCond .ne 20, 3) := by decide +kernel
theorem dX12_cuts_85 : decode cX12_cuts 85 = .ok (.aload_n 0, 1) := by decide +kernel
theorem dX12_cuts_86 : decode cX12_cuts 86 = .ok (.iload 4, 2) := by decide +kernel
theorem dX12_cuts_88 : decode cX12_cuts 88 = .ok (.invokevirtual 425, 3) := by decide +kernel
theorem dX12_cuts_91 : decode cX12_cuts 91 = .ok (.aload_n 0, 1) := by decide +kernel
theorem dX12_cuts_92 : decode cX12_cuts 92 = .ok (.iload_n 3, 1) := by decide +kernel
theorem dX12_cuts_93 : decode cX12_cuts 93 = .ok (.invokevirtual 425, 3) := by decide +kernel
theorem dX12_cuts_96 : decode cX12_cuts 96 = .ok (.if_icmp .ge 6, 3) := by decide +kernel
theorem dX12_cuts_99 : decode cX12_cuts 99 = .ok (.iload 4, 2) := by decide +kernel
theorem dX12_cuts_101 : decode cX12_cuts 101 = .ok (.istore_n 3, 1) := by decide +kernel
theorem dX12_cuts_102 : decode cX12_cuts 102 = .ok (.iinc 4 1, 3) := by decide +kernel
theorem dX12_cuts_105 : decode cX12_cuts 105 = .ok (.goto (-76), 3) := by decide +kernel
theorem dX12_cuts_108 : decode cX12_cuts 108 = .ok (.iload_n 1, 1) := by decide +kernel
theorem dX12_cuts_109 : decode cX12_cuts 109 = .ok (.ifCond .ne 10, 3) := by decide +kernel
theorem dX12_cuts_112 : decode cX12_cuts 112 = .ok (.iload_n 3, 1) := by decide +kernel
theorem dX12_cuts_113 : decode cX12_cuts 113 = .ok (.invokestatic 422, 3) := by decide +kernel
theorem dX12_cuts_116 : decode cX12_cuts 116 = .ok (.goto 17, 3) := by decide +kernel
theorem dX12_cuts_119 : decode cX12_cuts 119 = .ok (.iload_n 1, 1) := by decide +kernel
theorem dX12_cuts_120 : decode cX12_cuts 120 = .ok (.iconst 1, 1) := by decide +kernel
theorem dX12_cuts_121 : decode cX12_cuts 121 = .ok (.if_icmp .ne 11, 3) := by decide +kernel
theorem dX12_cuts_124 : decode cX12_cuts 124 = .ok (.aload_n 0, 1) := by decide +kernel
theorem dX12_cuts_125 : decode cX12_cuts 125 = .ok (.iload_n 3, 1) := by decide +kernel
theorem dX12_cuts_126 : decode cX12_cuts 126 = .ok (.invokevirtual 425, 3) := by decide +kernel
theorem dX12_cuts_129 : decode cX12_cuts 129 = .ok (.goto 4, 3) := by decide +kernel
theorem dX12_cuts_132 : decode cX12_cuts 132 = .ok (.iload_n 3, 1) := by decide +kernel
theorem dX12_cuts_133 : decode cX12_cuts 133 = .ok (.ireturn, 1) := by decide +kernel
theorem dX12_nextOrder_0 : decode cX12_nextOrder 0 = .ok (.iload_n 1, 1) := by decide +kernel
theorem dX12_nextOrder_1 : decode cX12_nextOrder 1 = .ok (.iconst 2, 1) := by decide +kernel
theorem dX12_nextOrder_2 : decode cX12_nextOrder 2 = .ok (.isub, 1) := by decide +kernel
theorem dX12_nextOrder_3 : decode cX12_nextOrder 3 = .ok (.istore_n 2, 1) := by decide +kernel
theorem dX12_nextOrder_4 : decode cX12_nextOrder 4 = .ok (.iload_n 2, 1) := by decide +kernel
theorem dX12_nextOrder_5 : decode cX12_nextOrder 5 = .ok (.ifCond .lt 26, 3) := by decide +kernel
theorem dX12_nextOrder_8 : decode cX12_nextOrder 8 = .ok (.aload_n 0, 1) := by decide +kernel
theorem dX12_nextOrder_9 : decode cX12_nextOrder 9 = .ok (.getfield 147, 3) := by decide +kernel
theorem dX12_nextOrder_12 : decode cX12_nextOrder 12 = .ok (.iload_n 2, 1) := by decide +kernel
theorem dX12_nextOrder_13 : decode cX12_nextOrder 13 = .ok (.iaload, 1) := by decide +kernel
theorem dX12_nextOrder_14 : decode cX12_nextOrder 14 = .ok (.aload_n 0, 1) := by decide +kernel
theorem dX12_nextOrder_15 : decode cX12_nextOrder 15 = .ok (.getfield 147, 3) := by decide +kernel
theorem dX12_nextOrder_18 : decode cX12_nextOrder 18 = .ok (.iload_n 2, 1) := by decide +kernel
theorem dX12_nextOrder_19 : decode cX12_nextOrder 19 = .ok (.iconst 1, 1) := by decide +kernel
theorem dX12_nextOrder_20 : decode cX12_nextOrder 20 = .ok (.iadd, 1) := by decide +kernel
theorem dX12_nextOrder_21 : decode cX12_nextOrder 21 = .ok (.iaload, 1) := by decide +kernel
theorem dX12_nextOrder_22 : decode cX12_nextOrder 22 = .ok (.if_icmp .le 9, 3) := by decide +kernel
theorem dX12_nextOrder_25 : decode cX12_nextOrder 25 = .ok (.iinc 2 (-1), 3) := by decide +kernel
theorem dX12_nextOrder_28 : decode cX12_nextOrder 28 = .ok (.goto (-24), 3) := by decide +kernel
theorem dX12_nextOrder_31 : decode cX12_nextOrder 31 = .ok (.iload_n 2, 1) := by decide +kernel
theorem dX12_nextOrder_32 : decode cX12_nextOrder 32 = .ok (.ifCond .ge 5, 3) := by decide +kernel
theorem dX12_nextOrder_35 : decode cX12_nextOrder 35 = .ok (.iconst 0, 1) := by decide +kernel
theorem dX12_nextOrder_36 : decode cX12_nextOrder 36 = .ok (.ireturn, 1) := by decide +kernel
theorem dX12_nextOrder_37 : decode cX12_nextOrder 37 = .ok (.iload_n 1, 1) := by decide +kernel
theorem dX12_nextOrder_38 : decode cX12_nextOrder 38 = .ok (.iconst 1, 1) := by decide +kernel
theorem dX12_nextOrder_39 : decode cX12_nextOrder 39 = .ok (.isub, 1) := by decide +kernel
theorem dX12_nextOrder_40 : decode cX12_nextOrder 40 = .ok (.istore_n 3, 1) := by decide +kernel
theorem dX12_nextOrder_41 : decode cX12_nextOrder 41 = .ok (.aload_n 0, 1) := by decide +kernel
theorem dX12_nextOrder_42 : decode cX12_nextOrder 42 = .ok (.getfield 147, 3) := by decide +kernel
theorem dX12_nextOrder_45 : decode cX12_nextOrder 45 = .ok (.iload_n 3, 1) := by decide +kernel
theorem dX12_nextOrder_46 : decode cX12_nextOrder 46 = .ok (.iaload, 1) := by decide +kernel
theorem dX12_nextOrder_47 : decode cX12_nextOrder 47 = .ok (.aload_n 0, 1) := by decide +kernel
theorem dX12_nextOrder_48 : decode cX12_nextOrder 48 = .ok (.getfield 147, 3) := by decide +kernel
theorem dX12_nextOrder_51 : decode cX12_nextOrder 51 = .ok (.iload_n 2, 1) := by decide +kernel
theorem dX12_nextOrder_52 : decode cX12_nextOrder 52 = .ok (.iaload, 1) := by decide +kernel
theorem dX12_nextOrder_53 : decode cX12_nextOrder 53 = .ok (.if_icmp .ge 9, 3) := by decide +kernel
theorem dX12_nextOrder_56 : decode cX12_nextOrder 56 = .ok (.iinc 3 (-1), 3) := by decide +kernel
theorem dX12_nextOrder_59 : decode cX12_nextOrder 59 = .ok (.goto (-18), 3) := by decide +kernel
theorem dX12_nextOrder_62 : decode cX12_nextOrder 62 = .ok (.aload_n 0, 1) := by decide +kernel
theorem dX12_nextOrder_63 : decode cX12_nextOrder 63 = .ok (.getfield 147, 3) := by decide +kernel
theorem dX12_nextOrder_66 : decode cX12_nextOrder 66 = .ok (.iload_n 2, 1) := by decide +kernel
theorem dX12_nextOrder_67 : decode cX12_nextOrder 67 = .ok (.iaload, 1) := by decide +kernel
theorem dX12_nextOrder_68 : decode cX12_nextOrder 68 = .ok (.istore 4, 2) := by decide +kernel
theorem dX12_nextOrder_70 : decode cX12_nextOrder 70 = .ok (.aload_n 0, 1) := by decide +kernel
theorem dX12_nextOrder_71 : decode cX12_nextOrder 71 = .ok (.getfield 147, 3) := by decide +kernel
theorem dX12_nextOrder_74 : decode cX12_nextOrder 74 = .ok (.iload_n 2, 1) := by decide +kernel
theorem dX12_nextOrder_75 : decode cX12_nextOrder 75 = .ok (.aload_n 0, 1) := by decide +kernel
theorem dX12_nextOrder_76 : decode cX12_nextOrder 76 = .ok (.getfield 147, 3) := by decide +kernel
theorem dX12_nextOrder_79 : decode cX12_nextOrder 79 = .ok (.iload_n 3, 1) := by decide +kernel
theorem dX12_nextOrder_80 : decode cX12_nextOrder 80 = .ok (.iaload, 1) := by decide +kernel
theorem dX12_nextOrder_81 : decode cX12_nextOrder 81 = .ok (.iastore, 1) := by decide +kernel
theorem dX12_nextOrder_82 : decode cX12_nextOrder 82 = .ok (.aload_n 0, 1) := by decide +kernel
theorem dX12_nextOrder_83 : decode cX12_nextOrder 83 = .ok (.getfield 147, 3) := by decide +kernel
theorem dX12_nextOrder_86 : decode cX12_nextOrder 86 = .ok (.iload_n 3, 1) := by decide +kernel
theorem dX12_nextOrder_87 : decode cX12_nextOrder 87 = .ok (.iload 4, 2) := by decide +kernel
theorem dX12_nextOrder_89 : decode cX12_nextOrder 89 = .ok (.iastore, 1) := by decide +kernel
theorem dX12_nextOrder_90 : decode cX12_nextOrder 90 = .ok (.iload_n 2, 1) := by decide +kernel
theorem dX12_nextOrder_91 : decode cX12_nextOrder 91 = .ok (.iconst 1, 1) := by decide +kernel
theorem dX12_nextOrder_92 : decode cX12_nextOrder 92 = .ok (.iadd, 1) := by decide +kernel
theorem dX12_nextOrder_93 : decode cX12_nextOrder 93 = .ok (.istore 5, 2) := by decide +kernel
theorem dX12_nextOrder_95 : decode cX12_nextOrder 95 = .ok (.iload_n 1, 1) := by decide +kernel
theorem dX12_nextOrder_96 : decode cX12_nextOrder 96 = .ok (.iconst 1, 1) := by decide +kernel
theorem dX12_nextOrder_97 : decode cX12_nextOrder 97 = .ok (.isub, 1) := by decide +kernel
theorem dX12_nextOrder_98 : decode cX12_nextOrder 98 = .ok (.istore 6, 2) := by decide +kernel
theorem dX12_nextOrder_100 : decode cX12_nextOrder 100 = .ok (.iload 5, 2) := by decide +kernel
theorem dX12_nextOrder_102 : decode cX12_nextOrder 102 = .ok (.iload 6, 2) := by decide +kernel
theorem dX12_nextOrder_104 : decode cX12_nextOrder 104 = .ok (.if_icmp .ge 44, 3) := by decide +kernel
theorem dX12_nextOrder_107 : decode cX12_nextOrder 107 = .ok (.aload_n 0, 1) := by decide +kernel
theorem dX12_nextOrder_108 : decode cX12_nextOrder 108 = .ok (.getfield 147, 3) := by decide +kernel
theorem dX12_nextOrder_111 : decode cX12_nextOrder 111 = .ok (.iload 5, 2) := by decide +kernel
theorem dX12_nextOrder_113 : decode cX12_nextOrder 113 = .ok (.iaload, 1) := by decide +kernel
theorem dX12_nextOrder_114 : decode cX12_nextOrder 114 = .ok (.istore 4, 2) := by decide +kernel
theorem dX12_nextOrder_116 : decode cX12_nextOrder 116 = .ok (.aload_n 0, 1) := by decide +kernel
theorem dX12_nextOrder_117 : decode cX12_nextOrder 117 = .ok (.getfield 147, 3) := by decide +kernel
theorem dX12_nextOrder_120 : decode cX12_nextOrder 120 = .ok (.iload 5, 2) := by decide +kernel
theorem dX12_nextOrder_122 : decode cX12_nextOrder 122 = .ok (.aload_n 0, 1) := by decide +kernel
theorem dX12_nextOrder_123 : decode cX12_nextOrder 123 = .ok (.getfield 147, 3) := by decide +kernel
theorem dX12_nextOrder_126 : decode cX12_nextOrder 126 = .ok (.iload 6, 2) := by decide +kernel
theorem dX12_nextOrder_128 : decode cX12_nextOrder 128 = .ok (.iaload, 1) := by decide +kernel
theorem dX12_nextOrder_129 : decode cX12_nextOrder 129 = .ok (.iastore, 1) := by decide +kernel
theorem dX12_nextOrder_130 : decode cX12_nextOrder 130 = .ok (.aload_n 0, 1) := by decide +kernel
theorem dX12_nextOrder_131 : decode cX12_nextOrder 131 = .ok (.getfield 147, 3) := by decide +kernel
theorem dX12_nextOrder_134 : decode cX12_nextOrder 134 = .ok (.iload 6, 2) := by decide +kernel
theorem dX12_nextOrder_136 : decode cX12_nextOrder 136 = .ok (.iload 4, 2) := by decide +kernel
theorem dX12_nextOrder_138 : decode cX12_nextOrder 138 = .ok (.iastore, 1) := by decide +kernel
theorem dX12_nextOrder_139 : decode cX12_nextOrder 139 = .ok (.iinc 5 1, 3) := by decide +kernel
theorem dX12_nextOrder_142 : decode cX12_nextOrder 142 = .ok (.iinc 6 (-1), 3) := by decide +kernel
theorem dX12_nextOrder_145 : decode cX12_nextOrder 145 = .ok (.goto (-45), 3) := by decide +kernel
theorem dX12_nextOrder_148 : decode cX12_nextOrder 148 = .ok (.iconst 1, 1) := by decide +kernel
theorem dX12_nextOrder_149 : decode cX12_nextOrder 149 = .ok (.ireturn, 1) := by decide +kernel
theorem dX12_wayFrom_0 : decode cX12_wayFrom 0 = .ok (.aload_n 0, 1) := by decide +kernel
theorem dX12_wayFrom_1 : decode cX12_wayFrom 1 = .ok (.getfield 61, 3) := by decide +kernel
theorem dX12_wayFrom_4 : decode cX12_wayFrom 4 = .ok (.bipush 7, 2) := by decide +kernel
theorem dX12_wayFrom_6 : decode cX12_wayFrom 6 = .ok (.aload_n 0, 1) := by decide +kernel
theorem dX12_wayFrom_7 : decode cX12_wayFrom 7 = .ok (.getfield 258, 3) := by decide +kernel
theorem dX12_wayFrom_10 : decode cX12_wayFrom 10 = .ok (.imul, 1) := by decide +kernel
theorem dX12_wayFrom_11 : decode cX12_wayFrom 11 = .ok (.iload_n 1, 1) := by decide +kernel
theorem dX12_wayFrom_12 : decode cX12_wayFrom 12 = .ok (.iadd, 1) := by decide +kernel
theorem dX12_wayFrom_13 : decode cX12_wayFrom 13 = .ok (.iaload, 1) := by decide +kernel
theorem dX12_wayFrom_14 : decode cX12_wayFrom 14 = .ok (.istore 4, 2) := by decide +kernel
theorem dX12_wayFrom_16 : decode cX12_wayFrom 16 = .ok (.iconst 0, 1) := by decide +kernel
theorem dX12_wayFrom_17 : decode cX12_wayFrom 17 = .ok (.istore 5, 2) := by decide +kernel
theorem dX12_wayFrom_19 : decode cX12_wayFrom 19 = .ok (.iload 5, 2) := by decide +kernel
theorem dX12_wayFrom_21 : decode cX12_wayFrom 21 = .ok (.iload 4, 2) := by decide +kernel
theorem dX12_wayFrom_23 : decode cX12_wayFrom 23 = .ok (.if_icmp .ge 18, 3) := by decide +kernel
theorem dX12_wayFrom_26 : decode cX12_wayFrom 26 = .ok (.aload_n 0, 1) := by decide +kernel
theorem dX12_wayFrom_27 : decode cX12_wayFrom 27 = .ok (.getfield 147, 3) := by decide +kernel
theorem dX12_wayFrom_30 : decode cX12_wayFrom 30 = .ok (.iload 5, 2) := by decide +kernel
theorem dX12_wayFrom_32 : decode cX12_wayFrom 32 = .ok (.iload 5, 2) := by decide +kernel
theorem dX12_wayFrom_34 : decode cX12_wayFrom 34 = .ok (.iastore, 1) := by decide +kernel
theorem dX12_wayFrom_35 : decode cX12_wayFrom 35 = .ok (.iinc 5 1, 3) := by decide +kernel
theorem dX12_wayFrom_38 : decode cX12_wayFrom 38 = .ok (.goto (-19), 3) := by decide +kernel
theorem dX12_wayFrom_41 : decode cX12_wayFrom 41 = .ok (.iconst (-1), 1) := by decide +kernel
theorem dX12_wayFrom_42 : decode cX12_wayFrom 42 = .ok (.istore 5, 2) := by decide +kernel
theorem dX12_wayFrom_44 : decode cX12_wayFrom 44 = .ok (.iconst 1, 1) := by decide +kernel
theorem dX12_wayFrom_45 : decode cX12_wayFrom 45 = .ok (.istore 6, 2) := by decide +kernel
theorem dX12_wayFrom_47 : decode cX12_wayFrom 47 = .ok (.iload 6, 2) := by decide +kernel
theorem dX12_wayFrom_49 : decode cX12_wayFrom 49 = .ok (.ifCond .eq 155, 3) := by decide +kernel
theorem dX12_wayFrom_52 : decode cX12_wayFrom 52 = .ok (.iconst 0, 1) := by decide +kernel
theorem dX12_wayFrom_53 : decode cX12_wayFrom 53 = .ok (.istore 7, 2) := by decide +kernel
theorem dX12_wayFrom_55 : decode cX12_wayFrom 55 = .ok (.iload_n 2, 1) := by decide +kernel
theorem dX12_wayFrom_56 : decode cX12_wayFrom 56 = .ok (.istore 8, 2) := by decide +kernel
theorem dX12_wayFrom_58 : decode cX12_wayFrom 58 = .ok (.iload_n 3, 1) := by decide +kernel
theorem dX12_wayFrom_59 : decode cX12_wayFrom 59 = .ok (.istore 9, 2) := by decide +kernel
theorem dX12_wayFrom_61 : decode cX12_wayFrom 61 = .ok (.iconst 0, 1) := by decide +kernel
theorem dX12_wayFrom_62 : decode cX12_wayFrom 62 = .ok (.istore 10, 2) := by decide +kernel
theorem dX12_wayFrom_64 : decode cX12_wayFrom 64 = .ok (.iload 10, 2) := by decide +kernel
theorem dX12_wayFrom_66 : decode cX12_wayFrom 66 = .ok (.iload 4, 2) := by decide +kernel
theorem dX12_wayFrom_68 : decode cX12_wayFrom 68 = .ok (.if_icmp .ge 79, 3) := by decide +kernel
theorem dX12_wayFrom_71 : decode cX12_wayFrom 71 = .ok (.bipush 42, 2) := by decide +kernel
theorem dX12_wayFrom_73 : decode cX12_wayFrom 73 = .ok (.aload_n 0, 1) := by decide +kernel
theorem dX12_wayFrom_74 : decode cX12_wayFrom 74 = .ok (.getfield 258, 3) := by decide +kernel
theorem dX12_wayFrom_77 : decode cX12_wayFrom 77 = .ok (.imul, 1) := by decide +kernel
theorem dX12_wayFrom_78 : decode cX12_wayFrom 78 = .ok (.bipush 6, 2) := by decide +kernel
theorem dX12_wayFrom_80 : decode cX12_wayFrom 80 = .ok (.iload_n 1, 1) := by decide +kernel
theorem dX12_wayFrom_81 : decode cX12_wayFrom 81 = .ok (.imul, 1) := by decide +kernel
theorem dX12_wayFrom_82 : decode cX12_wayFrom 82 = .ok (.iadd, 1) := by decide +kernel
theorem dX12_wayFrom_83 : decode cX12_wayFrom 83 = .ok (.aload_n 0, 1) := by decide +kernel
theorem dX12_wayFrom_84 : decode cX12_wayFrom 84 = .ok (.getfield 147, 3) := by decide +kernel
theorem dX12_wayFrom_87 : decode cX12_wayFrom 87 = .ok (.iload 10, 2) := by decide +kernel
theorem dX12_wayFrom_89 : decode cX12_wayFrom 89 = .ok (.iaload, 1) := by decide +kernel
theorem dX12_wayFrom_90 : decode cX12_wayFrom 90 = .ok (.iadd, 1) := by decide +kernel
theorem dX12_wayFrom_91 : decode cX12_wayFrom 91 = .ok (.istore 11, 2) := by decide +kernel
theorem dX12_wayFrom_93 : decode cX12_wayFrom 93 = .ok (.iload 7, 2) := by decide +kernel
theorem dX12_wayFrom_95 : decode cX12_wayFrom 95 = .ok (.iload 8, 2) := by decide +kernel
theorem dX12_wayFrom_97 : decode cX12_wayFrom 97 = .ok (.aload_n 0, 1) := by decide +kernel
theorem dX12_wayFrom_98 : decode cX12_wayFrom 98 = .ok (.getfield 64, 3) := by decide +kernel
theorem dX12_wayFrom_101 : decode cX12_wayFrom 101 = .ok (.iload 11, 2) := by decide +kernel
theorem dX12_wayFrom_103 : decode cX12_wayFrom 103 = .ok (.iaload, 1) := by decide +kernel
theorem dX12_wayFrom_104 : decode cX12_wayFrom 104 = .ok (.invokestatic 400, 3) := by decide +kernel
theorem dX12_wayFrom_107 : decode cX12_wayFrom 107 = .ok (.iload 9, 2) := by decide +kernel
theorem dX12_wayFrom_109 : decode cX12_wayFrom 109 = .ok (.aload_n 0, 1) := by decide +kernel
theorem dX12_wayFrom_110 : decode cX12_wayFrom 110 = .ok (.getfield 67, 3) := by decide +kernel
theorem dX12_wayFrom_113 : decode cX12_wayFrom 113 = .ok (.iload 11, 2) := by decide +kernel
theorem dX12_wayFrom_115 : decode cX12_wayFrom 115 = .ok (.iaload, 1) := by decide +kernel
theorem dX12_wayFrom_116 : decode cX12_wayFrom 116 = .ok (.invokestatic 400, 3) := by decide +kernel
theorem dX12_wayFrom_119 : decode cX12_wayFrom 119 = .ok (.iadd, 1) := by decide +kernel
theorem dX12_wayFrom_120 : decode cX12_wayFrom 120 = .ok (.iadd, 1) := by decide +kernel
theorem dX12_wayFrom_121 : decode cX12_wayFrom 121 = .ok (.istore 7, 2) := by decide +kernel
theorem dX12_wayFrom_123 : decode cX12_wayFrom 123 = .ok (.aload_n 0, 1) := by decide +kernel
theorem dX12_wayFrom_124 : decode cX12_wayFrom 124 = .ok (.getfield 64, 3) := by decide +kernel
theorem dX12_wayFrom_127 : decode cX12_wayFrom 127 = .ok (.iload 11, 2) := by decide +kernel
theorem dX12_wayFrom_129 : decode cX12_wayFrom 129 = .ok (.iaload, 1) := by decide +kernel
theorem dX12_wayFrom_130 : decode cX12_wayFrom 130 = .ok (.istore 8, 2) := by decide +kernel
theorem dX12_wayFrom_132 : decode cX12_wayFrom 132 = .ok (.aload_n 0, 1) := by decide +kernel
theorem dX12_wayFrom_133 : decode cX12_wayFrom 133 = .ok (.getfield 67, 3) := by decide +kernel
theorem dX12_wayFrom_136 : decode cX12_wayFrom 136 = .ok (.iload 11, 2) := by decide +kernel
theorem dX12_wayFrom_138 : decode cX12_wayFrom 138 = .ok (.iaload, 1) := by decide +kernel
theorem dX12_wayFrom_139 : decode cX12_wayFrom 139 = .ok (.istore 9, 2) := by decide +kernel
theorem dX12_wayFrom_141 : decode cX12_wayFrom 141 = .ok (.iinc 10 1, 3) := by decide +kernel
theorem dX12_wayFrom_144 : decode cX12_wayFrom 144 = .ok (.goto (-80), 3) := by decide +kernel
theorem dX12_wayFrom_147 : decode cX12_wayFrom 147 = .ok (.iload 5, 2) := by decide +kernel
theorem dX12_wayFrom_149 : decode cX12_wayFrom 149 = .ok (.ifCond .lt 10, 3) := by decide +kernel
theorem dX12_wayFrom_152 : decode cX12_wayFrom 152 = .ok (.iload 7, 2) := by decide +kernel
theorem dX12_wayFrom_154 : decode cX12_wayFrom 154 = .ok (.iload 5, 2) := by decide +kernel
theorem dX12_wayFrom_156 : decode cX12_wayFrom 156 = .ok (.if_icmp .ge 37, 3) := by decide +kernel
theorem dX12_wayFrom_159 : decode cX12_wayFrom 159 = .ok (.iload 7, 2) := by decide +kernel
theorem dX12_wayFrom_161 : decode cX12_wayFrom 161 = .ok (.istore 5, 2) := by decide +kernel
theorem dX12_wayFrom_163 : decode cX12_wayFrom 163 = .ok (.iconst 0, 1) := by decide +kernel
theorem dX12_wayFrom_164 : decode cX12_wayFrom 164 = .ok (.istore 10, 2) := by decide +kernel
theorem dX12_wayFrom_166 : decode cX12_wayFrom 166 = .ok (.iload 10, 2) := by decide +kernel
theorem dX12_wayFrom_168 : decode cX12_wayFrom 168 = .ok (.iload 4, 2) := by decide +kernel
theorem dX12_wayFrom_170 : decode cX12_wayFrom 170 = .ok (.if_icmp .ge 23, 3) := by decide +kernel
theorem dX12_wayFrom_173 : decode cX12_wayFrom 173 = .ok (.aload_n 0, 1) := by decide +kernel
theorem dX12_wayFrom_174 : decode cX12_wayFrom 174 = .ok (.getfield 150, 3) := by decide +kernel
theorem dX12_wayFrom_177 : decode cX12_wayFrom 177 = .ok (.iload 10, 2) := by decide +kernel
theorem dX12_wayFrom_179 : decode cX12_wayFrom 179 = .ok (.aload_n 0, 1) := by decide +kernel
theorem dX12_wayFrom_180 : decode cX12_wayFrom 180 = .ok (.getfield 147, 3) := by decide +kernel
theorem dX12_wayFrom_183 : decode cX12_wayFrom 183 = .ok (.iload 10, 2) := by decide +kernel
theorem dX12_wayFrom_185 : decode cX12_wayFrom 185 = .ok (.iaload, 1) := by decide +kernel
theorem dX12_wayFrom_186 : decode cX12_wayFrom 186 = .ok (.iastore, 1) := by decide +kernel
theorem dX12_wayFrom_187 : decode cX12_wayFrom 187 = .ok (.iinc 10 1, 3) := by decide +kernel
theorem dX12_wayFrom_190 : decode cX12_wayFrom 190 = .ok (.goto (-24), 3) := by decide +kernel
theorem dX12_wayFrom_193 : decode cX12_wayFrom 193 = .ok (.aload_n 0, 1) := by decide +kernel
theorem dX12_wayFrom_194 : decode cX12_wayFrom 194 = .ok (.iload 4, 2) := by decide +kernel
theorem dX12_wayFrom_196 : decode cX12_wayFrom 196 = .ok (.invokevirtual 428, 3) := by decide +kernel
theorem dX12_wayFrom_199 : decode cX12_wayFrom 199 = .ok (.istore 6, 2) := by decide +kernel
theorem dX12_wayFrom_201 : decode cX12_wayFrom 201 = .ok (.goto (-154), 3) := by decide +kernel
theorem dX12_wayFrom_204 : decode cX12_wayFrom 204 = .ok (.iload 5, 2) := by decide +kernel
theorem dX12_wayFrom_206 : decode cX12_wayFrom 206 = .ok (.ireturn, 1) := by decide +kernel
theorem dX12_wayOf_0 : decode cX12_wayOf 0 = .ok (.aload_n 0, 1) := by decide +kernel
theorem dX12_wayOf_1 : decode cX12_wayOf 1 = .ok (.iload_n 1, 1) := by decide +kernel
theorem dX12_wayOf_2 : decode cX12_wayOf 2 = .ok (.aload_n 0, 1) := by decide +kernel
theorem dX12_wayOf_3 : decode cX12_wayOf 3 = .ok (.getfield 52, 3) := by decide +kernel
theorem dX12_wayOf_6 : decode cX12_wayOf 6 = .ok (.bipush 7, 2) := by decide +kernel
theorem dX12_wayOf_8 : decode cX12_wayOf 8 = .ok (.aload_n 0, 1) := by decide +kernel
theorem dX12_wayOf_9 : decode cX12_wayOf 9 = .ok (.getfield 258, 3) := by decide +kernel
theorem dX12_wayOf_12 : decode cX12_wayOf 12 = .ok (.imul, 1) := by decide +kernel
theorem dX12_wayOf_13 : decode cX12_wayOf 13 = .ok (.iload_n 1, 1) := by decide +kernel
theorem dX12_wayOf_14 : decode cX12_wayOf 14 = .ok (.iadd, 1) := by decide +kernel
theorem dX12_wayOf_15 : decode cX12_wayOf 15 = .ok (.iaload, 1) := by decide +kernel
theorem dX12_wayOf_16 : decode cX12_wayOf 16 = .ok (.aload_n 0, 1) := by decide +kernel
theorem dX12_wayOf_17 : decode cX12_wayOf 17 = .ok (.getfield 55, 3) := by decide +kernel
theorem dX12_wayOf_20 : decode cX12_wayOf 20 = .ok (.bipush 7, 2) := by decide +kernel
theorem dX12_wayOf_22 : decode cX12_wayOf 22 = .ok (.aload_n 0, 1) := by decide +kernel
theorem dX12_wayOf_23 : decode cX12_wayOf 23 = .ok (.getfield 258, 3) := by decide +kernel
theorem dX12_wayOf_26 : decode cX12_wayOf 26 = .ok (.imul, 1) := by decide +kernel
theorem dX12_wayOf_27 : decode cX12_wayOf 27 = .ok (.iload_n 1, 1) := by decide +kernel
theorem dX12_wayOf_28 : decode cX12_wayOf 28 = .ok (.iadd, 1) := by decide +kernel
theorem dX12_wayOf_29 : decode cX12_wayOf 29 = .ok (.iaload, 1) := by decide +kernel
theorem dX12_wayOf_30 : decode cX12_wayOf 30 = .ok (.invokevirtual 431, 3) := by decide +kernel
theorem dX12_wayOf_33 : decode cX12_wayOf 33 = .ok (.ireturn, 1) := by decide +kernel
theorem dX12_way_0 : decode cX12_way 0 = .ok (.aload_n 0, 1) := by decide +kernel
theorem dX12_way_1 : decode cX12_way 1 = .ok (.iload_n 1, 1) := by decide +kernel
theorem dX12_way_2 : decode cX12_way 2 = .ok (.invokevirtual 394, 3) := by decide +kernel
theorem dX12_way_5 : decode cX12_way 5 = .ok (.ifCond .eq 11, 3) := by decide +kernel
theorem dX12_way_8 : decode cX12_way 8 = .ok (.aload_n 0, 1) := by decide +kernel
theorem dX12_way_9 : decode cX12_way 9 = .ok (.iload_n 1, 1) := by decide +kernel
theorem dX12_way_10 : decode cX12_way 10 = .ok (.invokevirtual 434, 3) := by decide +kernel
theorem dX12_way_13 : decode cX12_way 13 = .ok (.goto 4, 3) := by decide +kernel
theorem dX12_way_16 : decode cX12_way 16 = .ok (.iconst (-1), 1) := by decide +kernel
theorem dX12_way_17 : decode cX12_way 17 = .ok (.ireturn, 1) := by decide +kernel
theorem dX12_wayAt_0 : decode cX12_wayAt 0 = .ok (.aload_n 0, 1) := by decide +kernel
theorem dX12_wayAt_1 : decode cX12_wayAt 1 = .ok (.iload_n 1, 1) := by decide +kernel
theorem dX12_wayAt_2 : decode cX12_wayAt 2 = .ok (.invokevirtual 394, 3) := by decide +kernel
theorem dX12_wayAt_5 : decode cX12_wayAt 5 = .ok (.ifCond .eq 27, 3) := by decide +kernel
theorem dX12_wayAt_8 : decode cX12_wayAt 8 = .ok (.iload_n 2, 1) := by decide +kernel
theorem dX12_wayAt_9 : decode cX12_wayAt 9 = .ok (.iconst 0, 1) := by decide +kernel
theorem dX12_wayAt_10 : decode cX12_wayAt 10 = .ok (.aload_n 0, 1) := by decide +kernel
theorem dX12_wayAt_11 : decode cX12_wayAt 11 = .ok (.getfield 61, 3) := by decide +kernel
theorem dX12_wayAt_14 : decode cX12_wayAt 14 = .ok (.bipush 7, 2) := by decide +kernel
theorem dX12_wayAt_16 : decode cX12_wayAt 16 = .ok (.aload_n 0, 1) := by decide +kernel
theorem dX12_wayAt_17 : decode cX12_wayAt 17 = .ok (.getfield 258, 3) := by decide +kernel
theorem dX12_wayAt_20 : decode cX12_wayAt 20 = .ok (.imul, 1) := by decide +kernel
theorem dX12_wayAt_21 : decode cX12_wayAt 21 = .ok (.iload_n 1, 1) := by decide +kernel
theorem dX12_wayAt_22 : decode cX12_wayAt 22 = .ok (.iadd, 1) := by decide +kernel
theorem dX12_wayAt_23 : decode cX12_wayAt 23 = .ok (.iaload, 1) := by decide +kernel
theorem dX12_wayAt_24 : decode cX12_wayAt 24 = .ok (.iconst 1, 1) := by decide +kernel
theorem dX12_wayAt_25 : decode cX12_wayAt 25 = .ok (.isub, 1) := by decide +kernel
theorem dX12_wayAt_26 : decode cX12_wayAt 26 = .ok (.invokestatic 345, 3) := by decide +kernel
theorem dX12_wayAt_29 : decode cX12_wayAt 29 = .ok (.ifCond .ne 5, 3) := by decide +kernel
theorem dX12_wayAt_32 : decode cX12_wayAt 32 = .ok (.iconst (-1), 1) := by decide +kernel
theorem dX12_wayAt_33 : decode cX12_wayAt 33 = .ok (.ireturn, 1) := by decide +kernel
theorem dX12_wayAt_34 : decode cX12_wayAt 34 = .ok (.aload_n 0, 1) := by decide +kernel
theorem dX12_wayAt_35 : decode cX12_wayAt 35 = .ok (.iload_n 1, 1) := by decide +kernel
theorem dX12_wayAt_36 : decode cX12_wayAt 36 = .ok (.invokevirtual 434, 3) := by decide +kernel
theorem dX12_wayAt_39 : decode cX12_wayAt 39 = .ok (.pop, 1) := by decide +kernel
theorem dX12_wayAt_40 : decode cX12_wayAt 40 = .ok (.aload_n 0, 1) := by decide +kernel
theorem dX12_wayAt_41 : decode cX12_wayAt 41 = .ok (.getfield 150, 3) := by decide +kernel
theorem dX12_wayAt_44 : decode cX12_wayAt 44 = .ok (.iload_n 2, 1) := by decide +kernel
theorem dX12_wayAt_45 : decode cX12_wayAt 45 = .ok (.iaload, 1) := by decide +kernel
theorem dX12_wayAt_46 : decode cX12_wayAt 46 = .ok (.ireturn, 1) := by decide +kernel
theorem dX12_lives_0 : decode cX12_lives 0 = .ok (.aload_n 0, 1) := by decide +kernel
theorem dX12_lives_1 : decode cX12_lives 1 = .ok (.iload_n 1, 1) := by decide +kernel
theorem dX12_lives_2 : decode cX12_lives 2 = .ok (.invokevirtual 394, 3) := by decide +kernel
theorem dX12_lives_5 : decode cX12_lives 5 = .ok (.ifCond .ne 5, 3) := by decide +kernel
theorem dX12_lives_8 : decode cX12_lives 8 = .ok (.iconst (-1), 1) := by decide +kernel
theorem dX12_lives_9 : decode cX12_lives 9 = .ok (.ireturn, 1) := by decide +kernel
theorem dX12_lives_10 : decode cX12_lives 10 = .ok (.aload_n 0, 1) := by decide +kernel
theorem dX12_lives_11 : decode cX12_lives 11 = .ok (.iload_n 1, 1) := by decide +kernel
theorem dX12_lives_12 : decode cX12_lives 12 = .ok (.invokevirtual 359, 3) := by decide +kernel
theorem dX12_lives_15 : decode cX12_lives 15 = .ok (.istore_n 2, 1) := by decide +kernel
theorem dX12_lives_16 : decode cX12_lives 16 = .ok (.iconst 0, 1) := by decide +kernel
theorem dX12_lives_17 : decode cX12_lives 17 = .ok (.istore_n 3, 1) := by decide +kernel
theorem dX12_lives_18 : decode cX12_lives 18 = .ok (.iconst 0, 1) := by decide +kernel
theorem dX12_lives_19 : decode cX12_lives 19 = .ok (.istore 4, 2) := by decide +kernel
theorem dX12_lives_21 : decode cX12_lives 21 = .ok (.iload 4, 2) := by decide +kernel
theorem dX12_lives_23 : decode cX12_lives 23 = .ok (.aload_n 0, 1) := by decide +kernel
theorem dX12_lives_24 : decode cX12_lives 24 = .ok (.getfield 46, 3) := by decide +kernel
theorem dX12_lives_27 : decode cX12_lives 27 = .ok (.aload_n 0, 1) := by decide +kernel
theorem dX12_lives_28 : decode cX12_lives 28 = .ok (.getfield 258, 3) := by decide +kernel
theorem dX12_lives_31 : decode cX12_lives 31 = .ok (.iaload, 1) := by decide +kernel
theorem dX12_lives_32 : decode cX12_lives 32 = .ok (.if_icmp .ge 48, 3) := by decide +kernel
theorem dX12_lives_35 : decode cX12_lives 35 = .ok (.iconst 0, 1) := by decide +kernel
theorem dX12_lives_36 : decode cX12_lives 36 = .ok (.istore 5, 2) := by decide +kernel
theorem dX12_lives_38 : decode cX12_lives 38 = .ok (.iload 5, 2) := by decide +kernel
theorem dX12_lives_40 : decode cX12_lives 40 = .ok (.aload_n 0, 1) := by decide +kernel
theorem dX12_lives_41 : decode cX12_lives 41 = .ok (.getfield 43, 3) := by decide +kernel
theorem dX12_lives_44 : decode cX12_lives 44 = .ok (.aload_n 0, 1) := by decide +kernel
theorem dX12_lives_45 : decode cX12_lives 45 = .ok (.getfield 258, 3) := by decide +kernel
theorem dX12_lives_48 : decode cX12_lives 48 = .ok (.iaload, 1) := by decide +kernel
theorem dX12_lives_49 : decode cX12_lives 49 = .ok (.if_icmp .ge 25, 3) := by decide +kernel
theorem dX12_lives_52 : decode cX12_lives 52 = .ok (.aload_n 0, 1) := by decide +kernel
theorem dX12_lives_53 : decode cX12_lives 53 = .ok (.iload_n 1, 1) := by decide +kernel
theorem dX12_lives_54 : decode cX12_lives 54 = .ok (.iload 5, 2) := by decide +kernel
theorem dX12_lives_56 : decode cX12_lives 56 = .ok (.iload 4, 2) := by decide +kernel
theorem dX12_lives_58 : decode cX12_lives 58 = .ok (.invokevirtual 431, 3) := by decide +kernel
theorem dX12_lives_61 : decode cX12_lives 61 = .ok (.iload_n 2, 1) := by decide +kernel
theorem dX12_lives_62 : decode cX12_lives 62 = .ok (.if_icmp .gt 6, 3) := by decide +kernel
theorem dX12_lives_65 : decode cX12_lives 65 = .ok (.iinc 3 1, 3) := by decide +kernel
theorem dX12_lives_68 : decode cX12_lives 68 = .ok (.iinc 5 1, 3) := by decide +kernel
theorem dX12_lives_71 : decode cX12_lives 71 = .ok (.goto (-33), 3) := by decide +kernel
theorem dX12_lives_74 : decode cX12_lives 74 = .ok (.iinc 4 1, 3) := by decide +kernel
theorem dX12_lives_77 : decode cX12_lives 77 = .ok (.goto (-56), 3) := by decide +kernel
theorem dX12_lives_80 : decode cX12_lives 80 = .ok (.iload_n 3, 1) := by decide +kernel
theorem dX12_lives_81 : decode cX12_lives 81 = .ok (.ireturn, 1) := by decide +kernel
theorem dX12_turnsOf_0 : decode cX12_turnsOf 0 = .ok (.iconst 0, 1) := by decide +kernel
theorem dX12_turnsOf_1 : decode cX12_turnsOf 1 = .ok (.istore_n 3, 1) := by decide +kernel
theorem dX12_turnsOf_2 : decode cX12_turnsOf 2 = .ok (.iconst 0, 1) := by decide +kernel
theorem dX12_turnsOf_3 : decode cX12_turnsOf 3 = .ok (.istore 4, 2) := by decide +kernel
theorem dX12_turnsOf_5 : decode cX12_turnsOf 5 = .ok (.iload 4, 2) := by decide +kernel
theorem dX12_turnsOf_7 : decode cX12_turnsOf 7 = .ok (.aload_n 0, 1) := by decide +kernel
theorem dX12_turnsOf_8 : decode cX12_turnsOf 8 = .ok (.getfield 131, 3) := by decide +kernel
theorem dX12_turnsOf_11 : decode cX12_turnsOf 11 = .ok (.bipush 14, 2) := by decide +kernel
theorem dX12_turnsOf_13 : decode cX12_turnsOf 13 = .ok (.iload_n 1, 1) := by decide +kernel
theorem dX12_turnsOf_14 : decode cX12_turnsOf 14 = .ok (.iadd, 1) := by decide +kernel
theorem dX12_turnsOf_15 : decode cX12_turnsOf 15 = .ok (.iaload, 1) := by decide +kernel
theorem dX12_turnsOf_16 : decode cX12_turnsOf 16 = .ok (.if_icmp .ge 114, 3) := by decide +kernel
theorem dX12_turnsOf_19 : decode cX12_turnsOf 19 = .ok (.aload_n 0, 1) := by decide +kernel
theorem dX12_turnsOf_20 : decode cX12_turnsOf 20 = .ok (.getfield 131, 3) := by decide +kernel
theorem dX12_turnsOf_23 : decode cX12_turnsOf 23 = .ok (.bipush 30, 2) := by decide +kernel
theorem dX12_turnsOf_25 : decode cX12_turnsOf 25 = .ok (.bipush 60, 2) := by decide +kernel
theorem dX12_turnsOf_27 : decode cX12_turnsOf 27 = .ok (.iload_n 1, 1) := by decide +kernel
theorem dX12_turnsOf_28 : decode cX12_turnsOf 28 = .ok (.imul, 1) := by decide +kernel
theorem dX12_turnsOf_29 : decode cX12_turnsOf 29 = .ok (.iadd, 1) := by decide +kernel
theorem dX12_turnsOf_30 : decode cX12_turnsOf 30 = .ok (.iload 4, 2) := by decide +kernel
theorem dX12_turnsOf_32 : decode cX12_turnsOf 32 = .ok (.iadd, 1) := by decide +kernel
theorem dX12_turnsOf_33 : decode cX12_turnsOf 33 = .ok (.iaload, 1) := by decide +kernel
theorem dX12_turnsOf_34 : decode cX12_turnsOf 34 = .ok (.istore 5, 2) := by decide +kernel
theorem dX12_turnsOf_36 : decode cX12_turnsOf 36 = .ok (.aload_n 0, 1) := by decide +kernel
theorem dX12_turnsOf_37 : decode cX12_turnsOf 37 = .ok (.getfield 131, 3) := by decide +kernel
theorem dX12_turnsOf_40 : decode cX12_turnsOf 40 = .ok (.sipush 870, 3) := by decide +kernel
theorem dX12_turnsOf_43 : decode cX12_turnsOf 43 = .ok (.bipush 60, 2) := by decide +kernel
theorem dX12_turnsOf_45 : decode cX12_turnsOf 45 = .ok (.iload_n 1, 1) := by decide +kernel
theorem dX12_turnsOf_46 : decode cX12_turnsOf 46 = .ok (.imul, 1) := by decide +kernel
theorem dX12_turnsOf_47 : decode cX12_turnsOf 47 = .ok (.iadd, 1) := by decide +kernel
theorem dX12_turnsOf_48 : decode cX12_turnsOf 48 = .ok (.iload 4, 2) := by decide +kernel
theorem dX12_turnsOf_50 : decode cX12_turnsOf 50 = .ok (.iadd, 1) := by decide +kernel
theorem dX12_turnsOf_51 : decode cX12_turnsOf 51 = .ok (.iaload, 1) := by decide +kernel
theorem dX12_turnsOf_52 : decode cX12_turnsOf 52 = .ok (.sipush 144, 3) := by decide +kernel
theorem dX12_turnsOf_55 : decode cX12_turnsOf 55 = .ok (.isub, 1) := by decide +kernel
theorem dX12_turnsOf_56 : decode cX12_turnsOf 56 = .ok (.istore 6, 2) := by decide +kernel
theorem dX12_turnsOf_58 : decode cX12_turnsOf 58 = .ok (.iload 6, 2) := by decide +kernel
theorem dX12_turnsOf_60 : decode cX12_turnsOf 60 = .ok (.ifCond .lt 64, 3) := by decide +kernel
theorem dX12_turnsOf_63 : decode cX12_turnsOf 63 = .ok (.iload 6, 2) := by decide +kernel
theorem dX12_turnsOf_65 : decode cX12_turnsOf 65 = .ok (.bipush 12, 2) := by decide +kernel
theorem dX12_turnsOf_67 : decode cX12_turnsOf 67 = .ok (.idiv, 1) := by decide +kernel
theorem dX12_turnsOf_68 : decode cX12_turnsOf 68 = .ok (.aload_n 0, 1) := by decide +kernel
theorem dX12_turnsOf_69 : decode cX12_turnsOf 69 = .ok (.getfield 76, 3) := by decide +kernel
theorem dX12_turnsOf_72 : decode cX12_turnsOf 72 = .ok (.bipush 6, 2) := by decide +kernel
theorem dX12_turnsOf_74 : decode cX12_turnsOf 74 = .ok (.aload_n 0, 1) := by decide +kernel
theorem dX12_turnsOf_75 : decode cX12_turnsOf 75 = .ok (.getfield 258, 3) := by decide +kernel
theorem dX12_turnsOf_78 : decode cX12_turnsOf 78 = .ok (.imul, 1) := by decide +kernel
theorem dX12_turnsOf_79 : decode cX12_turnsOf 79 = .ok (.iload_n 2, 1) := by decide +kernel
theorem dX12_turnsOf_80 : decode cX12_turnsOf 80 = .ok (.iadd, 1) := by decide +kernel
theorem dX12_turnsOf_81 : decode cX12_turnsOf 81 = .ok (.iaload, 1) := by decide +kernel
theorem dX12_turnsOf_82 : decode cX12_turnsOf 82 = .ok (.if_icmp .ne 42, 3) := by decide +kernel
theorem dX12_turnsOf_85 : decode cX12_turnsOf 85 = .ok (.iload 6, 2) := by decide +kernel
theorem dX12_turnsOf_87 : decode cX12_turnsOf 87 = .ok (.bipush 12, 2) := by decide +kernel
theorem dX12_turnsOf_89 : decode cX12_turnsOf 89 = .ok (.irem, 1) := by decide +kernel
theorem dX12_turnsOf_90 : decode cX12_turnsOf 90 = .ok (.aload_n 0, 1) := by decide +kernel
theorem dX12_turnsOf_91 : decode cX12_turnsOf 91 = .ok (.getfield 73, 3) := by decide +kernel
theorem dX12_turnsOf_94 : decode cX12_turnsOf 94 = .ok (.bipush 6, 2) := by decide +kernel
theorem dX12_turnsOf_96 : decode cX12_turnsOf 96 = .ok (.aload_n 0, 1) := by decide +kernel
theorem dX12_turnsOf_97 : decode cX12_turnsOf 97 = .ok (.getfield 258, 3) := by decide +kernel
theorem dX12_turnsOf_100 : decode cX12_turnsOf 100 = .ok (.imul, 1) := by decide +kernel
theorem dX12_turnsOf_101 : decode cX12_turnsOf 101 = .ok (.iload_n 2, 1) := by decide +kernel
theorem dX12_turnsOf_102 : decode cX12_turnsOf 102 = .ok (.iadd, 1) := by decide +kernel
theorem dX12_turnsOf_103 : decode cX12_turnsOf 103 = .ok (.iaload, 1) := by decide +kernel
theorem dX12_turnsOf_104 : decode cX12_turnsOf 104 = .ok (.if_icmp .gt 6, 3) := by decide +kernel
theorem dX12_turnsOf_107 : decode cX12_turnsOf 107 = .ok (.goto 17, 3) := by decide +kernel
theorem dX12_turnsOf_110 : decode cX12_turnsOf 110 = .ok (.iload_n 3, 1) := by decide +kernel
theorem dX12_turnsOf_111 : decode cX12_turnsOf 111 = .ok (.iload 5, 2) := by decide +kernel
theorem dX12_turnsOf_113 : decode cX12_turnsOf 113 = .ok (.iconst 1, 1) := by decide +kernel
theorem dX12_turnsOf_114 : decode cX12_turnsOf 114 = .ok (.if_icmp .ne 7, 3) := by decide +kernel
theorem dX12_turnsOf_117 : decode cX12_turnsOf 117 = .ok (.iconst 1, 1) := by decide +kernel
theorem dX12_turnsOf_118 : decode cX12_turnsOf 118 = .ok (.goto 4, 3) := by decide +kernel
theorem dX12_turnsOf_121 : decode cX12_turnsOf 121 = .ok (.iconst (-1), 1) := by decide +kernel
theorem dX12_turnsOf_122 : decode cX12_turnsOf 122 = .ok (.iadd, 1) := by decide +kernel
theorem dX12_turnsOf_123 : decode cX12_turnsOf 123 = .ok (.istore_n 3, 1) := by decide +kernel
theorem dX12_turnsOf_124 : decode cX12_turnsOf 124 = .ok (.iinc 4 1, 3) := by decide +kernel
theorem dX12_turnsOf_127 : decode cX12_turnsOf 127 = .ok (.goto (-122), 3) := by decide +kernel
theorem dX12_turnsOf_130 : decode cX12_turnsOf 130 = .ok (.iload_n 3, 1) := by decide +kernel
theorem dX12_turnsOf_131 : decode cX12_turnsOf 131 = .ok (.ireturn, 1) := by decide +kernel
theorem dX12_turns_0 : decode cX12_turns 0 = .ok (.aload_n 0, 1) := by decide +kernel
theorem dX12_turns_1 : decode cX12_turns 1 = .ok (.iload_n 1, 1) := by decide +kernel
theorem dX12_turns_2 : decode cX12_turns 2 = .ok (.invokevirtual 394, 3) := by decide +kernel
theorem dX12_turns_5 : decode cX12_turns 5 = .ok (.ifCond .eq 22, 3) := by decide +kernel
theorem dX12_turns_8 : decode cX12_turns 8 = .ok (.iload_n 2, 1) := by decide +kernel
theorem dX12_turns_9 : decode cX12_turns 9 = .ok (.iconst 0, 1) := by decide +kernel
theorem dX12_turns_10 : decode cX12_turns 10 = .ok (.aload_n 0, 1) := by decide +kernel
theorem dX12_turns_11 : decode cX12_turns 11 = .ok (.getfield 70, 3) := by decide +kernel
theorem dX12_turns_14 : decode cX12_turns 14 = .ok (.aload_n 0, 1) := by decide +kernel
theorem dX12_turns_15 : decode cX12_turns 15 = .ok (.getfield 258, 3) := by decide +kernel
theorem dX12_turns_18 : decode cX12_turns 18 = .ok (.iaload, 1) := by decide +kernel
theorem dX12_turns_19 : decode cX12_turns 19 = .ok (.iconst 1, 1) := by decide +kernel
theorem dX12_turns_20 : decode cX12_turns 20 = .ok (.isub, 1) := by decide +kernel
theorem dX12_turns_21 : decode cX12_turns 21 = .ok (.invokestatic 345, 3) := by decide +kernel
theorem dX12_turns_24 : decode cX12_turns 24 = .ok (.ifCond .ne 7, 3) := by decide +kernel
theorem dX12_turns_27 : decode cX12_turns 27 = .ok (.sipush (-1000), 3) := by decide +kernel
theorem dX12_turns_30 : decode cX12_turns 30 = .ok (.ireturn, 1) := by decide +kernel
theorem dX12_turns_31 : decode cX12_turns 31 = .ok (.aload_n 0, 1) := by decide +kernel
theorem dX12_turns_32 : decode cX12_turns 32 = .ok (.invokevirtual 397, 3) := by decide +kernel
theorem dX12_turns_35 : decode cX12_turns 35 = .ok (.aload_n 0, 1) := by decide +kernel
theorem dX12_turns_36 : decode cX12_turns 36 = .ok (.iload_n 1, 1) := by decide +kernel
theorem dX12_turns_37 : decode cX12_turns 37 = .ok (.iload_n 2, 1) := by decide +kernel
theorem dX12_turns_38 : decode cX12_turns 38 = .ok (.invokevirtual 437, 3) := by decide +kernel
theorem dX12_turns_41 : decode cX12_turns 41 = .ok (.ireturn, 1) := by decide +kernel
theorem dX12_thieves_0 : decode cX12_thieves 0 = .ok (.aload_n 0, 1) := by decide +kernel
theorem dX12_thieves_1 : decode cX12_thieves 1 = .ok (.invokevirtual 397, 3) := by decide +kernel
theorem dX12_thieves_4 : decode cX12_thieves 4 = .ok (.iconst 0, 1) := by decide +kernel
theorem dX12_thieves_5 : decode cX12_thieves 5 = .ok (.istore_n 1, 1) := by decide +kernel
theorem dX12_thieves_6 : decode cX12_thieves 6 = .ok (.iconst 0, 1) := by decide +kernel
theorem dX12_thieves_7 : decode cX12_thieves 7 = .ok (.istore_n 2, 1) := by decide +kernel
theorem dX12_thieves_8 : decode cX12_thieves 8 = .ok (.iload_n 2, 1) := by decide +kernel
theorem dX12_thieves_9 : decode cX12_thieves 9 = .ok (.aload_n 0, 1) := by decide +kernel
theorem dX12_thieves_10 : decode cX12_thieves 10 = .ok (.getfield 49, 3) := by decide +kernel
theorem dX12_thieves_13 : decode cX12_thieves 13 = .ok (.aload_n 0, 1) := by decide +kernel
theorem dX12_thieves_14 : decode cX12_thieves 14 = .ok (.getfield 258, 3) := by decide +kernel
theorem dX12_thieves_17 : decode cX12_thieves 17 = .ok (.iaload, 1) := by decide +kernel
theorem dX12_thieves_18 : decode cX12_thieves 18 = .ok (.if_icmp .ge 45, 3) := by decide +kernel
theorem dX12_thieves_21 : decode cX12_thieves 21 = .ok (.iconst 0, 1) := by decide +kernel
theorem dX12_thieves_22 : decode cX12_thieves 22 = .ok (.istore_n 3, 1) := by decide +kernel
theorem dX12_thieves_23 : decode cX12_thieves 23 = .ok (.iload_n 3, 1) := by decide +kernel
theorem dX12_thieves_24 : decode cX12_thieves 24 = .ok (.aload_n 0, 1) := by decide +kernel
theorem dX12_thieves_25 : decode cX12_thieves 25 = .ok (.getfield 70, 3) := by decide +kernel
theorem dX12_thieves_28 : decode cX12_thieves 28 = .ok (.aload_n 0, 1) := by decide +kernel
theorem dX12_thieves_29 : decode cX12_thieves 29 = .ok (.getfield 258, 3) := by decide +kernel
theorem dX12_thieves_32 : decode cX12_thieves 32 = .ok (.iaload, 1) := by decide +kernel
theorem dX12_thieves_33 : decode cX12_thieves 33 = .ok (.if_icmp .ge 24, 3) := by decide +kernel
theorem dX12_thieves_36 : decode cX12_thieves 36 = .ok (.aload_n 0, 1) := by decide +kernel
theorem dX12_thieves_37 : decode cX12_thieves 37 = .ok (.iload_n 2, 1) := by decide +kernel
theorem dX12_thieves_38 : decode cX12_thieves 38 = .ok (.iload_n 3, 1) := by decide +kernel
theorem dX12_thieves_39 : decode cX12_thieves 39 = .ok (.invokevirtual 437, 3) := by decide +kernel
theorem dX12_thieves_42 : decode cX12_thieves 42 = .ok (.ifCond .ge 9, 3) := by decide +kernel
theorem dX12_thieves_45 : decode cX12_thieves 45 = .ok (.iload_n 1, 1) := by decide +kernel
theorem dX12_thieves_46 : decode cX12_thieves 46 = .ok (.iconst 1, 1) := by decide +kernel
theorem dX12_thieves_47 : decode cX12_thieves 47 = .ok (.iload_n 2, 1) := by decide +kernel
theorem dX12_thieves_48 : decode cX12_thieves 48 = .ok (.ishl, 1) := by decide +kernel
theorem dX12_thieves_49 : decode cX12_thieves 49 = .ok (.ior, 1) := by decide +kernel
theorem dX12_thieves_50 : decode cX12_thieves 50 = .ok (.istore_n 1, 1) := by decide +kernel
theorem dX12_thieves_51 : decode cX12_thieves 51 = .ok (.iinc 3 1, 3) := by decide +kernel
theorem dX12_thieves_54 : decode cX12_thieves 54 = .ok (.goto (-31), 3) := by decide +kernel
theorem dX12_thieves_57 : decode cX12_thieves 57 = .ok (.iinc 2 1, 3) := by decide +kernel
theorem dX12_thieves_60 : decode cX12_thieves 60 = .ok (.goto (-52), 3) := by decide +kernel
theorem dX12_thieves_63 : decode cX12_thieves 63 = .ok (.iload_n 1, 1) := by decide +kernel
theorem dX12_thieves_64 : decode cX12_thieves 64 = .ok (.ireturn, 1) := by decide +kernel
theorem dX12_meet_0 : decode cX12_meet 0 = .ok (.aload_n 0, 1) := by decide +kernel
theorem dX12_meet_1 : decode cX12_meet 1 = .ok (.iload_n 1, 1) := by decide +kernel
theorem dX12_meet_2 : decode cX12_meet 2 = .ok (.iload_n 2, 1) := by decide +kernel
theorem dX12_meet_3 : decode cX12_meet 3 = .ok (.invokevirtual 413, 3) := by decide +kernel
theorem dX12_meet_6 : decode cX12_meet 6 = .ok (.ifCond .ne 5, 3) := by decide +kernel
theorem dX12_meet_9 : decode cX12_meet 9 = .ok (.iconst (-1), 1) := by decide +kernel
theorem dX12_meet_10 : decode cX12_meet 10 = .ok (.ireturn, 1) := by decide +kernel
theorem dX12_meet_11 : decode cX12_meet 11 = .ok (.aload_n 0, 1) := by decide +kernel
theorem dX12_meet_12 : decode cX12_meet 12 = .ok (.invokevirtual 397, 3) := by decide +kernel
theorem dX12_meet_15 : decode cX12_meet 15 = .ok (.iconst 0, 1) := by decide +kernel
theorem dX12_meet_16 : decode cX12_meet 16 = .ok (.istore_n 3, 1) := by decide +kernel
theorem dX12_meet_17 : decode cX12_meet 17 = .ok (.iload_n 3, 1) := by decide +kernel
theorem dX12_meet_18 : decode cX12_meet 18 = .ok (.sipush 200, 3) := by decide +kernel
theorem dX12_meet_21 : decode cX12_meet 21 = .ok (.if_icmp .gt 51, 3) := by decide +kernel
theorem dX12_meet_24 : decode cX12_meet 24 = .ok (.aload_n 0, 1) := by decide +kernel
theorem dX12_meet_25 : decode cX12_meet 25 = .ok (.getfield 131, 3) := by decide +kernel
theorem dX12_meet_28 : decode cX12_meet 28 = .ok (.iload_n 1, 1) := by decide +kernel
theorem dX12_meet_29 : decode cX12_meet 29 = .ok (.iaload, 1) := by decide +kernel
theorem dX12_meet_30 : decode cX12_meet 30 = .ok (.aload_n 0, 1) := by decide +kernel
theorem dX12_meet_31 : decode cX12_meet 31 = .ok (.getfield 131, 3) := by decide +kernel
theorem dX12_meet_34 : decode cX12_meet 34 = .ok (.iload_n 2, 1) := by decide +kernel
theorem dX12_meet_35 : decode cX12_meet 35 = .ok (.iaload, 1) := by decide +kernel
theorem dX12_meet_36 : decode cX12_meet 36 = .ok (.if_icmp .ne 26, 3) := by decide +kernel
theorem dX12_meet_39 : decode cX12_meet 39 = .ok (.aload_n 0, 1) := by decide +kernel
theorem dX12_meet_40 : decode cX12_meet 40 = .ok (.getfield 131, 3) := by decide +kernel
theorem dX12_meet_43 : decode cX12_meet 43 = .ok (.bipush 7, 2) := by decide +kernel
theorem dX12_meet_45 : decode cX12_meet 45 = .ok (.iload_n 1, 1) := by decide +kernel
theorem dX12_meet_46 : decode cX12_meet 46 = .ok (.iadd, 1) := by decide +kernel
theorem dX12_meet_47 : decode cX12_meet 47 = .ok (.iaload, 1) := by decide +kernel
theorem dX12_meet_48 : decode cX12_meet 48 = .ok (.aload_n 0, 1) := by decide +kernel
theorem dX12_meet_49 : decode cX12_meet 49 = .ok (.getfield 131, 3) := by decide +kernel
theorem dX12_meet_52 : decode cX12_meet 52 = .ok (.bipush 7, 2) := by decide +kernel
theorem dX12_meet_54 : decode cX12_meet 54 = .ok (.iload_n 2, 1) := by decide +kernel
theorem dX12_meet_55 : decode cX12_meet 55 = .ok (.iadd, 1) := by decide +kernel
theorem dX12_meet_56 : decode cX12_meet 56 = .ok (.iaload, 1) := by decide +kernel
theorem dX12_meet_57 : decode cX12_meet 57 = .ok (.if_icmp .ne 5, 3) := by decide +kernel
theorem dX12_meet_60 : decode cX12_meet 60 = .ok (.iload_n 3, 1) := by decide +kernel
theorem dX12_meet_61 : decode cX12_meet 61 = .ok (.ireturn, 1) := by decide +kernel
theorem dX12_meet_62 : decode cX12_meet 62 = .ok (.aload_n 0, 1) := by decide +kernel
theorem dX12_meet_63 : decode cX12_meet 63 = .ok (.invokevirtual 407, 3) := by decide +kernel
theorem dX12_meet_66 : decode cX12_meet 66 = .ok (.iinc 3 1, 3) := by decide +kernel
theorem dX12_meet_69 : decode cX12_meet 69 = .ok (.goto (-52), 3) := by decide +kernel
theorem dX12_meet_72 : decode cX12_meet 72 = .ok (.bipush (-2), 2) := by decide +kernel
theorem dX12_meet_74 : decode cX12_meet 74 = .ok (.ireturn, 1) := by decide +kernel
theorem dX12_overAll_0 : decode cX12_overAll 0 = .ok (.iconst 0, 1) := by decide +kernel
theorem dX12_overAll_1 : decode cX12_overAll 1 = .ok (.istore_n 2, 1) := by decide +kernel
theorem dX12_overAll_2 : decode cX12_overAll 2 = .ok (.iconst 0, 1) := by decide +kernel
theorem dX12_overAll_3 : decode cX12_overAll 3 = .ok (.istore_n 3, 1) := by decide +kernel
theorem dX12_overAll_4 : decode cX12_overAll 4 = .ok (.iload_n 3, 1) := by decide +kernel
theorem dX12_overAll_5 : decode cX12_overAll 5 = .ok (.aload_n 0, 1) := by decide +kernel
theorem dX12_overAll_6 : decode cX12_overAll 6 = .ok (.getfield 49, 3) := by decide +kernel
theorem dX12_overAll_9 : decode cX12_overAll 9 = .ok (.aload_n 0, 1) := by decide +kernel
theorem dX12_overAll_10 : decode cX12_overAll 10 = .ok (.getfield 258, 3) := by decide +kernel
theorem dX12_overAll_13 : decode cX12_overAll 13 = .ok (.iaload, 1) := by decide +kernel
theorem dX12_overAll_14 : decode cX12_overAll 14 = .ok (.if_icmp .ge 23, 3) := by decide +kernel
theorem dX12_overAll_17 : decode cX12_overAll 17 = .ok (.iload_n 3, 1) := by decide +kernel
theorem dX12_overAll_18 : decode cX12_overAll 18 = .ok (.iload_n 1, 1) := by decide +kernel
theorem dX12_overAll_19 : decode cX12_overAll 19 = .ok (.if_icmp .eq 12, 3) := by decide +kernel
theorem dX12_overAll_22 : decode cX12_overAll 22 = .ok (.iload_n 2, 1) := by decide +kernel
theorem dX12_overAll_23 : decode cX12_overAll 23 = .ok (.aload_n 0, 1) := by decide +kernel
theorem dX12_overAll_24 : decode cX12_overAll 24 = .ok (.iload_n 1, 1) := by decide +kernel
theorem dX12_overAll_25 : decode cX12_overAll 25 = .ok (.iload_n 3, 1) := by decide +kernel
theorem dX12_overAll_26 : decode cX12_overAll 26 = .ok (.invokevirtual 410, 3) := by decide +kernel
theorem dX12_overAll_29 : decode cX12_overAll 29 = .ok (.iadd, 1) := by decide +kernel
theorem dX12_overAll_30 : decode cX12_overAll 30 = .ok (.istore_n 2, 1) := by decide +kernel
theorem dX12_overAll_31 : decode cX12_overAll 31 = .ok (.iinc 3 1, 3) := by decide +kernel
theorem dX12_overAll_34 : decode cX12_overAll 34 = .ok (.goto (-30), 3) := by decide +kernel
theorem dX12_overAll_37 : decode cX12_overAll 37 = .ok (.iload_n 2, 1) := by decide +kernel
theorem dX12_overAll_38 : decode cX12_overAll 38 = .ok (.ireturn, 1) := by decide +kernel
theorem dX12_most_0 : decode cX12_most 0 = .ok (.iload_n 1, 1) := by decide +kernel
theorem dX12_most_1 : decode cX12_most 1 = .ok (.iconst 0, 1) := by decide +kernel
theorem dX12_most_2 : decode cX12_most 2 = .ok (.iconst 1, 1) := by decide +kernel
theorem dX12_most_3 : decode cX12_most 3 = .ok (.invokestatic 345, 3) := by decide +kernel
theorem dX12_most_6 : decode cX12_most 6 = .ok (.ifCond .ne 5, 3) := by decide +kernel
theorem dX12_most_9 : decode cX12_most 9 = .ok (.iconst (-1), 1) := by decide +kernel
theorem dX12_most_10 : decode cX12_most 10 = .ok (.ireturn, 1) := by decide +kernel
theorem dX12_most_11 : decode cX12_most 11 = .ok (.aload_n 0, 1) := by decide +kernel
theorem dX12_most_12 : decode cX12_most 12 = .ok (.getfield 49, 3) := by decide +kernel
theorem dX12_most_15 : decode cX12_most 15 = .ok (.aload_n 0, 1) := by decide +kernel
theorem dX12_most_16 : decode cX12_most 16 = .ok (.getfield 258, 3) := by decide +kernel
theorem dX12_most_19 : decode cX12_most 19 = .ok (.iaload, 1) := by decide +kernel
theorem dX12_most_20 : decode cX12_most 20 = .ok (.ifCond .ne 6, 3) := by decide +kernel
theorem dX12_most_23 : decode cX12_most 23 = .ok (.bipush (-2), 2) := by decide +kernel
theorem dX12_most_25 : decode cX12_most 25 = .ok (.ireturn, 1) := by decide +kernel
theorem dX12_most_26 : decode cX12_most 26 = .ok (.aload_n 0, 1) := by decide +kernel
theorem dX12_most_27 : decode cX12_most 27 = .ok (.invokevirtual 397, 3) := by decide +kernel
theorem dX12_most_30 : decode cX12_most 30 = .ok (.iconst 0, 1) := by decide +kernel
theorem dX12_most_31 : decode cX12_most 31 = .ok (.istore_n 2, 1) := by decide +kernel
theorem dX12_most_32 : decode cX12_most 32 = .ok (.iconst 1, 1) := by decide +kernel
theorem dX12_most_33 : decode cX12_most 33 = .ok (.istore_n 3, 1) := by decide +kernel
theorem dX12_most_34 : decode cX12_most 34 = .ok (.iload_n 3, 1) := by decide +kernel
theorem dX12_most_35 : decode cX12_most 35 = .ok (.aload_n 0, 1) := by decide +kernel
theorem dX12_most_36 : decode cX12_most 36 = .ok (.getfield 49, 3) := by decide +kernel
theorem dX12_most_39 : decode cX12_most 39 = .ok (.aload_n 0, 1) := by decide +kernel
theorem dX12_most_40 : decode cX12_most 40 = .ok (.getfield 258, 3) := by decide +kernel
theorem dX12_most_43 : decode cX12_most 43 = .ok (.iaload, 1) := by decide +kernel
theorem dX12_most_44 : decode cX12_most 44 = .ok (.if_icmp .ge 24, 3) := by decide +kernel
theorem dX12_most_47 : decode cX12_most 47 = .ok (.aload_n 0, 1) := by decide +kernel
theorem dX12_most_48 : decode cX12_most 48 = .ok (.iload_n 3, 1) := by decide +kernel
theorem dX12_most_49 : decode cX12_most 49 = .ok (.invokevirtual 440, 3) := by decide +kernel
theorem dX12_most_52 : decode cX12_most 52 = .ok (.aload_n 0, 1) := by decide +kernel
theorem dX12_most_53 : decode cX12_most 53 = .ok (.iload_n 2, 1) := by decide +kernel
theorem dX12_most_54 : decode cX12_most 54 = .ok (.invokevirtual 440, 3) := by decide +kernel
theorem dX12_most_57 : decode cX12_most 57 = .ok (.if_icmp .le 5, 3) := by decide +kernel
theorem dX12_most_60 : decode cX12_most 60 = .ok (.iload_n 3, 1) := by decide +kernel
theorem dX12_most_61 : decode cX12_most 61 = .ok (.istore_n 2, 1) := by decide +kernel
theorem dX12_most_62 : decode cX12_most 62 = .ok (.iinc 3 1, 3) := by decide +kernel
theorem dX12_most_65 : decode cX12_most 65 = .ok (.goto (-31), 3) := by decide +kernel
theorem dX12_most_68 : decode cX12_most 68 = .ok (.iload_n 1, 1) := by decide +kernel
theorem dX12_most_69 : decode cX12_most 69 = .ok (.ifCond .ne 7, 3) := by decide +kernel
theorem dX12_most_72 : decode cX12_most 72 = .ok (.iload_n 2, 1) := by decide +kernel
theorem dX12_most_73 : decode cX12_most 73 = .ok (.goto 8, 3) := by decide +kernel
theorem dX12_most_76 : decode cX12_most 76 = .ok (.aload_n 0, 1) := by decide +kernel
theorem dX12_most_77 : decode cX12_most 77 = .ok (.iload_n 2, 1) := by decide +kernel
theorem dX12_most_78 : decode cX12_most 78 = .ok (.invokevirtual 440, 3) := by decide +kernel
theorem dX12_most_81 : decode cX12_most 81 = .ok (.ireturn, 1) := by decide +kernel
theorem dX12_unfair_0 : decode cX12_unfair 0 = .ok (.aload_n 0, 1) := by decide +kernel
theorem dX12_unfair_1 : decode cX12_unfair 1 = .ok (.getfield 49, 3) := by decide +kernel
theorem dX12_unfair_4 : decode cX12_unfair 4 = .ok (.aload_n 0, 1) := by decide +kernel
theorem dX12_unfair_5 : decode cX12_unfair 5 = .ok (.getfield 258, 3) := by decide +kernel
theorem dX12_unfair_8 : decode cX12_unfair 8 = .ok (.iaload, 1) := by decide +kernel
theorem dX12_unfair_9 : decode cX12_unfair 9 = .ok (.ifCond .ne 5, 3) := by decide +kernel
theorem dX12_unfair_12 : decode cX12_unfair 12 = .ok (.iconst 0, 1) := by decide +kernel
theorem dX12_unfair_13 : decode cX12_unfair 13 = .ok (.ireturn, 1) := by decide +kernel
theorem dX12_unfair_14 : decode cX12_unfair 14 = .ok (.aload_n 0, 1) := by decide +kernel
theorem dX12_unfair_15 : decode cX12_unfair 15 = .ok (.invokevirtual 397, 3) := by decide +kernel
theorem dX12_unfair_18 : decode cX12_unfair 18 = .ok (.aload_n 0, 1) := by decide +kernel
theorem dX12_unfair_19 : decode cX12_unfair 19 = .ok (.iconst 0, 1) := by decide +kernel
theorem dX12_unfair_20 : decode cX12_unfair 20 = .ok (.invokevirtual 440, 3) := by decide +kernel
theorem dX12_unfair_23 : decode cX12_unfair 23 = .ok (.istore_n 1, 1) := by decide +kernel
theorem dX12_unfair_24 : decode cX12_unfair 24 = .ok (.iload_n 1, 1) := by decide +kernel
theorem dX12_unfair_25 : decode cX12_unfair 25 = .ok (.istore_n 2, 1) := by decide +kernel
theorem dX12_unfair_26 : decode cX12_unfair 26 = .ok (.iconst 1, 1) := by decide +kernel
theorem dX12_unfair_27 : decode cX12_unfair 27 = .ok (.istore_n 3, 1) := by decide +kernel
theorem dX12_unfair_28 : decode cX12_unfair 28 = .ok (.iload_n 3, 1) := by decide +kernel
theorem dX12_unfair_29 : decode cX12_unfair 29 = .ok (.aload_n 0, 1) := by decide +kernel
theorem dX12_unfair_30 : decode cX12_unfair 30 = .ok (.getfield 49, 3) := by decide +kernel
theorem dX12_unfair_33 : decode cX12_unfair 33 = .ok (.aload_n 0, 1) := by decide +kernel
theorem dX12_unfair_34 : decode cX12_unfair 34 = .ok (.getfield 258, 3) := by decide +kernel
theorem dX12_unfair_37 : decode cX12_unfair 37 = .ok (.iaload, 1) := by decide +kernel
theorem dX12_unfair_38 : decode cX12_unfair 38 = .ok (.if_icmp .ge 39, 3) := by decide +kernel
theorem dX12_unfair_41 : decode cX12_unfair 41 = .ok (.aload_n 0, 1) := by decide +kernel
theorem dX12_unfair_42 : decode cX12_unfair 42 = .ok (.iload_n 3, 1) := by decide +kernel
theorem dX12_unfair_43 : decode cX12_unfair 43 = .ok (.invokevirtual 440, 3) := by decide +kernel
theorem dX12_unfair_46 : decode cX12_unfair 46 = .ok (.iload_n 1, 1) := by decide +kernel
theorem dX12_unfair_47 : decode cX12_unfair 47 = .ok (.if_icmp .ge 9, 3) := by decide +kernel
theorem dX12_unfair_50 : decode cX12_unfair 50 = .ok (.aload_n 0, 1) := by decide +kernel
theorem dX12_unfair_51 : decode cX12_unfair 51 = .ok (.iload_n 3, 1) := by decide +kernel
theorem dX12_unfair_52 : decode cX12_unfair 52 = .ok (.invokevirtual 440, 3) := by decide +kernel
theorem dX12_unfair_55 : decode cX12_unfair 55 = .ok (.istore_n 1, 1) := by decide +kernel
theorem dX12_unfair_56 : decode cX12_unfair 56 = .ok (.aload_n 0, 1) := by decide +kernel
theorem dX12_unfair_57 : decode cX12_unfair 57 = .ok (.iload_n 3, 1) := by decide +kernel
theorem dX12_unfair_58 : decode cX12_unfair 58 = .ok (.invokevirtual 440, 3) := by decide +kernel
theorem dX12_unfair_61 : decode cX12_unfair 61 = .ok (.iload_n 2, 1) := by decide +kernel
theorem dX12_unfair_62 : decode cX12_unfair 62 = .ok (.if_icmp .le 9, 3) := by decide +kernel
theorem dX12_unfair_65 : decode cX12_unfair 65 = .ok (.aload_n 0, 1) := by decide +kernel
theorem dX12_unfair_66 : decode cX12_unfair 66 = .ok (.iload_n 3, 1) := by decide +kernel
theorem dX12_unfair_67 : decode cX12_unfair 67 = .ok (.invokevirtual 440, 3) := by decide +kernel
theorem dX12_unfair_70 : decode cX12_unfair 70 = .ok (.istore_n 2, 1) := by decide +kernel
theorem dX12_unfair_71 : decode cX12_unfair 71 = .ok (.iinc 3 1, 3) := by decide +kernel
theorem dX12_unfair_74 : decode cX12_unfair 74 = .ok (.goto (-46), 3) := by decide +kernel
theorem dX12_unfair_77 : decode cX12_unfair 77 = .ok (.iload_n 2, 1) := by decide +kernel
theorem dX12_unfair_78 : decode cX12_unfair 78 = .ok (.iload_n 1, 1) := by decide +kernel
theorem dX12_unfair_79 : decode cX12_unfair 79 = .ok (.isub, 1) := by decide +kernel
theorem dX12_unfair_80 : decode cX12_unfair 80 = .ok (.ireturn, 1) := by decide +kernel
theorem dX12_nearest_0 : decode cX12_nearest 0 = .ok (.aload_n 0, 1) := by decide +kernel
theorem dX12_nearest_1 : decode cX12_nearest 1 = .ok (.iload_n 1, 1) := by decide +kernel
theorem dX12_nearest_2 : decode cX12_nearest 2 = .ok (.invokevirtual 394, 3) := by decide +kernel
theorem dX12_nearest_5 : decode cX12_nearest 5 = .ok (.ifCond .eq 12, 3) := by decide +kernel
theorem dX12_nearest_8 : decode cX12_nearest 8 = .ok (.iload_n 2, 1) := by decide +kernel
theorem dX12_nearest_9 : decode cX12_nearest 9 = .ok (.iconst 0, 1) := by decide +kernel
theorem dX12_nearest_10 : decode cX12_nearest 10 = .ok (.iconst 1, 1) := by decide +kernel
theorem dX12_nearest_11 : decode cX12_nearest 11 = .ok (.invokestatic 345, 3) := by decide +kernel
theorem dX12_nearest_14 : decode cX12_nearest 14 = .ok (.ifCond .ne 5, 3) := by decide +kernel
theorem dX12_nearest_17 : decode cX12_nearest 17 = .ok (.iconst (-1), 1) := by decide +kernel
theorem dX12_nearest_18 : decode cX12_nearest 18 = .ok (.ireturn, 1) := by decide +kernel
theorem dX12_nearest_19 : decode cX12_nearest 19 = .ok (.bipush (-2), 2) := by decide +kernel
theorem dX12_nearest_21 : decode cX12_nearest 21 = .ok (.istore_n 3, 1) := by decide +kernel
theorem dX12_nearest_22 : decode cX12_nearest 22 = .ok (.bipush (-2), 2) := by decide +kernel
theorem dX12_nearest_24 : decode cX12_nearest 24 = .ok (.istore 4, 2) := by decide +kernel
theorem dX12_nearest_26 : decode cX12_nearest 26 = .ok (.iconst 0, 1) := by decide +kernel
theorem dX12_nearest_27 : decode cX12_nearest 27 = .ok (.istore 5, 2) := by decide +kernel
theorem dX12_nearest_29 : decode cX12_nearest 29 = .ok (.iload 5, 2) := by decide +kernel
theorem dX12_nearest_31 : decode cX12_nearest 31 = .ok (.aload_n 0, 1) := by decide +kernel
theorem dX12_nearest_32 : decode cX12_nearest 32 = .ok (.getfield 49, 3) := by decide +kernel
theorem dX12_nearest_35 : decode cX12_nearest 35 = .ok (.aload_n 0, 1) := by decide +kernel
theorem dX12_nearest_36 : decode cX12_nearest 36 = .ok (.getfield 258, 3) := by decide +kernel
theorem dX12_nearest_39 : decode cX12_nearest 39 = .ok (.iaload, 1) := by decide +kernel
theorem dX12_nearest_40 : decode cX12_nearest 40 = .ok (.if_icmp .ge 77, 3) := by decide +kernel
theorem dX12_nearest_43 : decode cX12_nearest 43 = .ok (.aload_n 0, 1) := by decide +kernel
theorem dX12_nearest_44 : decode cX12_nearest 44 = .ok (.getfield 128, 3) := by decide +kernel
theorem dX12_nearest_47 : decode cX12_nearest 47 = .ok (.iload_n 1, 1) := by decide +kernel
theorem dX12_nearest_48 : decode cX12_nearest 48 = .ok (.iaload, 1) := by decide +kernel
theorem dX12_nearest_49 : decode cX12_nearest 49 = .ok (.aload_n 0, 1) := by decide +kernel
theorem dX12_nearest_50 : decode cX12_nearest 50 = .ok (.getfield 128, 3) := by decide +kernel
theorem dX12_nearest_53 : decode cX12_nearest 53 = .ok (.iload 5, 2) := by decide +kernel
theorem dX12_nearest_55 : decode cX12_nearest 55 = .ok (.iaload, 1) := by decide +kernel
theorem dX12_nearest_56 : decode cX12_nearest 56 = .ok (.invokestatic 400, 3) := by decide +kernel
theorem dX12_nearest_59 : decode cX12_nearest 59 = .ok (.aload_n 0, 1) := by decide +kernel
theorem dX12_nearest_60 : decode cX12_nearest 60 = .ok (.getfield 128, 3) := by decide +kernel
theorem dX12_nearest_63 : decode cX12_nearest 63 = .ok (.bipush 7, 2) := by decide +kernel
theorem dX12_nearest_65 : decode cX12_nearest 65 = .ok (.iload_n 1, 1) := by decide +kernel
theorem dX12_nearest_66 : decode cX12_nearest 66 = .ok (.iadd, 1) := by decide +kernel
theorem dX12_nearest_67 : decode cX12_nearest 67 = .ok (.iaload, 1) := by decide +kernel
theorem dX12_nearest_68 : decode cX12_nearest 68 = .ok (.aload_n 0, 1) := by decide +kernel
theorem dX12_nearest_69 : decode cX12_nearest 69 = .ok (.getfield 128, 3) := by decide +kernel
theorem dX12_nearest_72 : decode cX12_nearest 72 = .ok (.bipush 7, 2) := by decide +kernel
theorem dX12_nearest_74 : decode cX12_nearest 74 = .ok (.iload 5, 2) := by decide +kernel
theorem dX12_nearest_76 : decode cX12_nearest 76 = .ok (.iadd, 1) := by decide +kernel
theorem dX12_nearest_77 : decode cX12_nearest 77 = .ok (.iaload, 1) := by decide +kernel
theorem dX12_nearest_78 : decode cX12_nearest 78 = .ok (.invokestatic 400, 3) := by decide +kernel
theorem dX12_nearest_81 : decode cX12_nearest 81 = .ok (.iadd, 1) := by decide +kernel
theorem dX12_nearest_82 : decode cX12_nearest 82 = .ok (.istore 6, 2) := by decide +kernel
theorem dX12_nearest_84 : decode cX12_nearest 84 = .ok (.iload 5, 2) := by decide +kernel
theorem dX12_nearest_86 : decode cX12_nearest 86 = .ok (.iload_n 1, 1) := by decide +kernel
theorem dX12_nearest_87 : decode cX12_nearest 87 = .ok (.if_icmp .eq 24, 3) := by decide +kernel
theorem dX12_nearest_90 : decode cX12_nearest 90 = .ok (.iload_n 3, 1) := by decide +kernel
theorem dX12_nearest_91 : decode cX12_nearest 91 = .ok (.ifCond .lt 13, 3) := by decide +kernel
theorem dX12_nearest_94 : decode cX12_nearest 94 = .ok (.iload 6, 2) := by decide +kernel
theorem dX12_nearest_96 : decode cX12_nearest 96 = .ok (.iload 4, 2) := by decide +kernel
theorem dX12_nearest_98 : decode cX12_nearest 98 = .ok (.if_icmp .lt 6, 3) := by decide +kernel
theorem dX12_nearest_101 : decode cX12_nearest 101 = .ok (.goto 10, 3) := by decide +kernel
theorem dX12_nearest_104 : decode cX12_nearest 104 = .ok (.iload 5, 2) := by decide +kernel
theorem dX12_nearest_106 : decode cX12_nearest 106 = .ok (.istore_n 3, 1) := by decide +kernel
theorem dX12_nearest_107 : decode cX12_nearest 107 = .ok (.iload 6, 2) := by decide +kernel
theorem dX12_nearest_109 : decode cX12_nearest 109 = .ok (.istore 4, 2) := by decide +kernel
theorem dX12_nearest_111 : decode cX12_nearest 111 = .ok (.iinc 5 1, 3) := by decide +kernel
theorem dX12_nearest_114 : decode cX12_nearest 114 = .ok (.goto (-85), 3) := by decide +kernel
theorem dX12_nearest_117 : decode cX12_nearest 117 = .ok (.iload_n 2, 1) := by decide +kernel
theorem dX12_nearest_118 : decode cX12_nearest 118 = .ok (.ifCond .ne 7, 3) := by decide +kernel
theorem dX12_nearest_121 : decode cX12_nearest 121 = .ok (.iload_n 3, 1) := by decide +kernel
theorem dX12_nearest_122 : decode cX12_nearest 122 = .ok (.goto 5, 3) := by decide +kernel
theorem dX12_nearest_125 : decode cX12_nearest 125 = .ok (.iload 4, 2) := by decide +kernel
theorem dX12_nearest_127 : decode cX12_nearest 127 = .ok (.ireturn, 1) := by decide +kernel
theorem dX12_isStreet_0 : decode cX12_isStreet 0 = .ok (.iload_n 3, 1) := by decide +kernel
theorem dX12_isStreet_1 : decode cX12_isStreet 1 = .ok (.iconst 1, 1) := by decide +kernel
theorem dX12_isStreet_2 : decode cX12_isStreet 2 = .ok (.iconst 4, 1) := by decide +kernel
theorem dX12_isStreet_3 : decode cX12_isStreet 3 = .ok (.invokestatic 345, 3) := by decide +kernel
theorem dX12_isStreet_6 : decode cX12_isStreet 6 = .ok (.ifCond .eq 35, 3) := by decide +kernel
theorem dX12_isStreet_9 : decode cX12_isStreet 9 = .ok (.aload_n 0, 1) := by decide +kernel
theorem dX12_isStreet_10 : decode cX12_isStreet 10 = .ok (.iload_n 1, 1) := by decide +kernel
theorem dX12_isStreet_11 : decode cX12_isStreet 11 = .ok (.iload_n 2, 1) := by decide +kernel
theorem dX12_isStreet_12 : decode cX12_isStreet 12 = .ok (.invokevirtual 374, 3) := by decide +kernel
theorem dX12_isStreet_15 : decode cX12_isStreet 15 = .ok (.ifCond .eq 26, 3) := by decide +kernel
theorem dX12_isStreet_18 : decode cX12_isStreet 18 = .ok (.aload_n 0, 1) := by decide +kernel
theorem dX12_isStreet_19 : decode cX12_isStreet 19 = .ok (.iload_n 1, 1) := by decide +kernel
theorem dX12_isStreet_20 : decode cX12_isStreet 20 = .ok (.iload_n 3, 1) := by decide +kernel
theorem dX12_isStreet_21 : decode cX12_isStreet 21 = .ok (.invokestatic 368, 3) := by decide +kernel
theorem dX12_isStreet_24 : decode cX12_isStreet 24 = .ok (.iadd, 1) := by decide +kernel
theorem dX12_isStreet_25 : decode cX12_isStreet 25 = .ok (.iload_n 2, 1) := by decide +kernel
theorem dX12_isStreet_26 : decode cX12_isStreet 26 = .ok (.iload_n 3, 1) := by decide +kernel
theorem dX12_isStreet_27 : decode cX12_isStreet 27 = .ok (.invokestatic 371, 3) := by decide +kernel
theorem dX12_isStreet_30 : decode cX12_isStreet 30 = .ok (.iadd, 1) := by decide +kernel
theorem dX12_isStreet_31 : decode cX12_isStreet 31 = .ok (.invokevirtual 374, 3) := by decide +kernel
theorem dX12_isStreet_34 : decode cX12_isStreet 34 = .ok (.ifCond .eq 7, 3) := by decide +kernel
theorem dX12_isStreet_37 : decode cX12_isStreet 37 = .ok (.iconst 1, 1) := by decide +kernel
theorem dX12_isStreet_38 : decode cX12_isStreet 38 = .ok (.goto 4, 3) := by decide +kernel
theorem dX12_isStreet_41 : decode cX12_isStreet 41 = .ok (.iconst 0, 1) := by decide +kernel
theorem dX12_isStreet_42 : decode cX12_isStreet 42 = .ok (.ireturn, 1) := by decide +kernel
theorem dX12_whoseAt_0 : decode cX12_whoseAt 0 = .ok (.iconst 0, 1) := by decide +kernel
theorem dX12_whoseAt_1 : decode cX12_whoseAt 1 = .ok (.istore_n 3, 1) := by decide +kernel
theorem dX12_whoseAt_2 : decode cX12_whoseAt 2 = .ok (.iload_n 3, 1) := by decide +kernel
theorem dX12_whoseAt_3 : decode cX12_whoseAt 3 = .ok (.aload_n 0, 1) := by decide +kernel
theorem dX12_whoseAt_4 : decode cX12_whoseAt 4 = .ok (.getfield 49, 3) := by decide +kernel
theorem dX12_whoseAt_7 : decode cX12_whoseAt 7 = .ok (.aload_n 0, 1) := by decide +kernel
theorem dX12_whoseAt_8 : decode cX12_whoseAt 8 = .ok (.getfield 258, 3) := by decide +kernel
theorem dX12_whoseAt_11 : decode cX12_whoseAt 11 = .ok (.iaload, 1) := by decide +kernel
theorem dX12_whoseAt_12 : decode cX12_whoseAt 12 = .ok (.if_icmp .ge 79, 3) := by decide +kernel
theorem dX12_whoseAt_15 : decode cX12_whoseAt 15 = .ok (.iconst 0, 1) := by decide +kernel
theorem dX12_whoseAt_16 : decode cX12_whoseAt 16 = .ok (.istore 4, 2) := by decide +kernel
theorem dX12_whoseAt_18 : decode cX12_whoseAt 18 = .ok (.iload 4, 2) := by decide +kernel
theorem dX12_whoseAt_20 : decode cX12_whoseAt 20 = .ok (.aload_n 0, 1) := by decide +kernel
theorem dX12_whoseAt_21 : decode cX12_whoseAt 21 = .ok (.getfield 131, 3) := by decide +kernel
theorem dX12_whoseAt_24 : decode cX12_whoseAt 24 = .ok (.bipush 14, 2) := by decide +kernel
theorem dX12_whoseAt_26 : decode cX12_whoseAt 26 = .ok (.iload_n 3, 1) := by decide +kernel
theorem dX12_whoseAt_27 : decode cX12_whoseAt 27 = .ok (.iadd, 1) := by decide +kernel
theorem dX12_whoseAt_28 : decode cX12_whoseAt 28 = .ok (.iaload, 1) := by decide +kernel
theorem dX12_whoseAt_29 : decode cX12_whoseAt 29 = .ok (.if_icmp .ge 56, 3) := by decide +kernel
theorem dX12_whoseAt_32 : decode cX12_whoseAt 32 = .ok (.bipush 60, 2) := by decide +kernel
theorem dX12_whoseAt_34 : decode cX12_whoseAt 34 = .ok (.iload_n 3, 1) := by decide +kernel
theorem dX12_whoseAt_35 : decode cX12_whoseAt 35 = .ok (.imul, 1) := by decide +kernel
theorem dX12_whoseAt_36 : decode cX12_whoseAt 36 = .ok (.iload 4, 2) := by decide +kernel
theorem dX12_whoseAt_38 : decode cX12_whoseAt 38 = .ok (.iadd, 1) := by decide +kernel
theorem dX12_whoseAt_39 : decode cX12_whoseAt 39 = .ok (.istore 5, 2) := by decide +kernel
theorem dX12_whoseAt_41 : decode cX12_whoseAt 41 = .ok (.aload_n 0, 1) := by decide +kernel
theorem dX12_whoseAt_42 : decode cX12_whoseAt 42 = .ok (.getfield 131, 3) := by decide +kernel
theorem dX12_whoseAt_45 : decode cX12_whoseAt 45 = .ok (.sipush 870, 3) := by decide +kernel
theorem dX12_whoseAt_48 : decode cX12_whoseAt 48 = .ok (.iload 5, 2) := by decide +kernel
theorem dX12_whoseAt_50 : decode cX12_whoseAt 50 = .ok (.iadd, 1) := by decide +kernel
theorem dX12_whoseAt_51 : decode cX12_whoseAt 51 = .ok (.iaload, 1) := by decide +kernel
theorem dX12_whoseAt_52 : decode cX12_whoseAt 52 = .ok (.iload_n 1, 1) := by decide +kernel
theorem dX12_whoseAt_53 : decode cX12_whoseAt 53 = .ok (.if_icmp .ne 26, 3) := by decide +kernel
theorem dX12_whoseAt_56 : decode cX12_whoseAt 56 = .ok (.aload_n 0, 1) := by decide +kernel
theorem dX12_whoseAt_57 : decode cX12_whoseAt 57 = .ok (.iload_n 1, 1) := by decide +kernel
theorem dX12_whoseAt_58 : decode cX12_whoseAt 58 = .ok (.aload_n 0, 1) := by decide +kernel
theorem dX12_whoseAt_59 : decode cX12_whoseAt 59 = .ok (.getfield 131, 3) := by decide +kernel
theorem dX12_whoseAt_62 : decode cX12_whoseAt 62 = .ok (.sipush 450, 3) := by decide +kernel
theorem dX12_whoseAt_65 : decode cX12_whoseAt 65 = .ok (.iload 5, 2) := by decide +kernel
theorem dX12_whoseAt_67 : decode cX12_whoseAt 67 = .ok (.iadd, 1) := by decide +kernel
theorem dX12_whoseAt_68 : decode cX12_whoseAt 68 = .ok (.iaload, 1) := by decide +kernel
theorem dX12_whoseAt_69 : decode cX12_whoseAt 69 = .ok (.iconst 0, 1) := by decide +kernel
theorem dX12_whoseAt_70 : decode cX12_whoseAt 70 = .ok (.invokevirtual 381, 3) := by decide +kernel
theorem dX12_whoseAt_73 : decode cX12_whoseAt 73 = .ok (.iload_n 2, 1) := by decide +kernel
theorem dX12_whoseAt_74 : decode cX12_whoseAt 74 = .ok (.if_icmp .ne 5, 3) := by decide +kernel
theorem dX12_whoseAt_77 : decode cX12_whoseAt 77 = .ok (.iload_n 3, 1) := by decide +kernel
theorem dX12_whoseAt_78 : decode cX12_whoseAt 78 = .ok (.ireturn, 1) := by decide +kernel
theorem dX12_whoseAt_79 : decode cX12_whoseAt 79 = .ok (.iinc 4 1, 3) := by decide +kernel
theorem dX12_whoseAt_82 : decode cX12_whoseAt 82 = .ok (.goto (-64), 3) := by decide +kernel
theorem dX12_whoseAt_85 : decode cX12_whoseAt 85 = .ok (.iinc 3 1, 3) := by decide +kernel
theorem dX12_whoseAt_88 : decode cX12_whoseAt 88 = .ok (.goto (-86), 3) := by decide +kernel
theorem dX12_whoseAt_91 : decode cX12_whoseAt 91 = .ok (.iconst (-1), 1) := by decide +kernel
theorem dX12_whoseAt_92 : decode cX12_whoseAt 92 = .ok (.ireturn, 1) := by decide +kernel
theorem dX12_manyOn_0 : decode cX12_manyOn 0 = .ok (.aload_n 0, 1) := by decide +kernel
theorem dX12_manyOn_1 : decode cX12_manyOn 1 = .ok (.iload_n 1, 1) := by decide +kernel
theorem dX12_manyOn_2 : decode cX12_manyOn 2 = .ok (.iconst (-1), 1) := by decide +kernel
theorem dX12_manyOn_3 : decode cX12_manyOn 3 = .ok (.iconst 1, 1) := by decide +kernel
theorem dX12_manyOn_4 : decode cX12_manyOn 4 = .ok (.invokevirtual 381, 3) := by decide +kernel
theorem dX12_manyOn_7 : decode cX12_manyOn 7 = .ok (.ireturn, 1) := by decide +kernel
theorem dX12_topOf_0 : decode cX12_topOf 0 = .ok (.aload_n 0, 1) := by decide +kernel
theorem dX12_topOf_1 : decode cX12_topOf 1 = .ok (.iload_n 1, 1) := by decide +kernel
theorem dX12_topOf_2 : decode cX12_topOf 2 = .ok (.aload_n 0, 1) := by decide +kernel
theorem dX12_topOf_3 : decode cX12_topOf 3 = .ok (.iload_n 1, 1) := by decide +kernel
theorem dX12_topOf_4 : decode cX12_topOf 4 = .ok (.invokevirtual 443, 3) := by decide +kernel
theorem dX12_topOf_7 : decode cX12_topOf 7 = .ok (.iconst 1, 1) := by decide +kernel
theorem dX12_topOf_8 : decode cX12_topOf 8 = .ok (.isub, 1) := by decide +kernel
theorem dX12_topOf_9 : decode cX12_topOf 9 = .ok (.invokevirtual 446, 3) := by decide +kernel
theorem dX12_topOf_12 : decode cX12_topOf 12 = .ok (.ireturn, 1) := by decide +kernel
theorem dX12_street_0 : decode cX12_street 0 = .ok (.aload_n 0, 1) := by decide +kernel
theorem dX12_street_1 : decode cX12_street 1 = .ok (.iload_n 1, 1) := by decide +kernel
theorem dX12_street_2 : decode cX12_street 2 = .ok (.iload_n 2, 1) := by decide +kernel
theorem dX12_street_3 : decode cX12_street 3 = .ok (.iload_n 3, 1) := by decide +kernel
theorem dX12_street_4 : decode cX12_street 4 = .ok (.invokevirtual 449, 3) := by decide +kernel
theorem dX12_street_7 : decode cX12_street 7 = .ok (.ifCond .eq 9, 3) := by decide +kernel
theorem dX12_street_10 : decode cX12_street 10 = .ok (.iload 4, 2) := by decide +kernel
theorem dX12_street_12 : decode cX12_street 12 = .ok (.iconst (-1), 1) := by decide +kernel
theorem dX12_street_13 : decode cX12_street 13 = .ok (.if_icmp .ge 5, 3) := by decide +kernel
theorem dX12_street_16 : decode cX12_street 16 = .ok (.iconst (-1), 1) := by decide +kernel
theorem dX12_street_17 : decode cX12_street 17 = .ok (.ireturn, 1) := by decide +kernel
theorem dX12_street_18 : decode cX12_street 18 = .ok (.aload_n 0, 1) := by decide +kernel
theorem dX12_street_19 : decode cX12_street 19 = .ok (.invokevirtual 397, 3) := by decide +kernel
theorem dX12_street_22 : decode cX12_street 22 = .ok (.iload_n 1, 1) := by decide +kernel
theorem dX12_street_23 : decode cX12_street 23 = .ok (.iload_n 2, 1) := by decide +kernel
theorem dX12_street_24 : decode cX12_street 24 = .ok (.iload_n 3, 1) := by decide +kernel
theorem dX12_street_25 : decode cX12_street 25 = .ok (.invokestatic 378, 3) := by decide +kernel
theorem dX12_street_28 : decode cX12_street 28 = .ok (.istore 5, 2) := by decide +kernel
theorem dX12_street_30 : decode cX12_street 30 = .ok (.iload 4, 2) := by decide +kernel
theorem dX12_street_32 : decode cX12_street 32 = .ok (.iconst (-1), 1) := by decide +kernel
theorem dX12_street_33 : decode cX12_street 33 = .ok (.if_icmp .ne 12, 3) := by decide +kernel
theorem dX12_street_36 : decode cX12_street 36 = .ok (.aload_n 0, 1) := by decide +kernel
theorem dX12_street_37 : decode cX12_street 37 = .ok (.iload 5, 2) := by decide +kernel
theorem dX12_street_39 : decode cX12_street 39 = .ok (.invokevirtual 443, 3) := by decide +kernel
theorem dX12_street_42 : decode cX12_street 42 = .ok (.goto 11, 3) := by decide +kernel
theorem dX12_street_45 : decode cX12_street 45 = .ok (.aload_n 0, 1) := by decide +kernel
theorem dX12_street_46 : decode cX12_street 46 = .ok (.iload 5, 2) := by decide +kernel
theorem dX12_street_48 : decode cX12_street 48 = .ok (.iload 4, 2) := by decide +kernel
theorem dX12_street_50 : decode cX12_street 50 = .ok (.invokevirtual 446, 3) := by decide +kernel
theorem dX12_street_53 : decode cX12_street 53 = .ok (.ireturn, 1) := by decide +kernel
theorem dX12_shows_0 : decode cX12_shows 0 = .ok (.aload_n 0, 1) := by decide +kernel
theorem dX12_shows_1 : decode cX12_shows 1 = .ok (.iload_n 1, 1) := by decide +kernel
theorem dX12_shows_2 : decode cX12_shows 2 = .ok (.iload_n 2, 1) := by decide +kernel
theorem dX12_shows_3 : decode cX12_shows 3 = .ok (.iload_n 3, 1) := by decide +kernel
theorem dX12_shows_4 : decode cX12_shows 4 = .ok (.invokevirtual 449, 3) := by decide +kernel
theorem dX12_shows_7 : decode cX12_shows 7 = .ok (.ifCond .ne 5, 3) := by decide +kernel
theorem dX12_shows_10 : decode cX12_shows 10 = .ok (.iconst (-1), 1) := by decide +kernel
theorem dX12_shows_11 : decode cX12_shows 11 = .ok (.ireturn, 1) := by decide +kernel
theorem dX12_shows_12 : decode cX12_shows 12 = .ok (.aload_n 0, 1) := by decide +kernel
theorem dX12_shows_13 : decode cX12_shows 13 = .ok (.invokevirtual 397, 3) := by decide +kernel
theorem dX12_shows_16 : decode cX12_shows 16 = .ok (.aload_n 0, 1) := by decide +kernel
theorem dX12_shows_17 : decode cX12_shows 17 = .ok (.iload_n 1, 1) := by decide +kernel
theorem dX12_shows_18 : decode cX12_shows 18 = .ok (.iload_n 2, 1) := by decide +kernel
theorem dX12_shows_19 : decode cX12_shows 19 = .ok (.iload_n 3, 1) := by decide +kernel
theorem dX12_shows_20 : decode cX12_shows 20 = .ok (.invokestatic 378, 3) := by decide +kernel
theorem dX12_shows_23 : decode cX12_shows 23 = .ok (.invokevirtual 452, 3) := by decide +kernel
theorem dX12_shows_26 : decode cX12_shows 26 = .ok (.istore 4, 2) := by decide +kernel
theorem dX12_shows_28 : decode cX12_shows 28 = .ok (.iload 4, 2) := by decide +kernel
theorem dX12_shows_30 : decode cX12_shows 30 = .ok (.ifCond .ge 8, 3) := by decide +kernel
theorem dX12_shows_33 : decode cX12_shows 33 = .ok (.bipush (-2), 2) := by decide +kernel
theorem dX12_shows_35 : decode cX12_shows 35 = .ok (.goto 18, 3) := by decide +kernel
theorem dX12_shows_38 : decode cX12_shows 38 = .ok (.aload_n 0, 1) := by decide +kernel
theorem dX12_shows_39 : decode cX12_shows 39 = .ok (.getfield 58, 3) := by decide +kernel
theorem dX12_shows_42 : decode cX12_shows 42 = .ok (.bipush 7, 2) := by decide +kernel
theorem dX12_shows_44 : decode cX12_shows 44 = .ok (.aload_n 0, 1) := by decide +kernel
theorem dX12_shows_45 : decode cX12_shows 45 = .ok (.getfield 258, 3) := by decide +kernel
theorem dX12_shows_48 : decode cX12_shows 48 = .ok (.imul, 1) := by decide +kernel
theorem dX12_shows_49 : decode cX12_shows 49 = .ok (.iload 4, 2) := by decide +kernel
theorem dX12_shows_51 : decode cX12_shows 51 = .ok (.iadd, 1) := by decide +kernel
theorem dX12_shows_52 : decode cX12_shows 52 = .ok (.iaload, 1) := by decide +kernel
theorem dX12_shows_53 : decode cX12_shows 53 = .ok (.ireturn, 1) := by decide +kernel
theorem dX12_shown_0 : decode cX12_shown 0 = .ok (.iload_n 1, 1) := by decide +kernel
theorem dX12_shown_1 : decode cX12_shown 1 = .ok (.iconst 0, 1) := by decide +kernel
theorem dX12_shown_2 : decode cX12_shown 2 = .ok (.bipush 9, 2) := by decide +kernel
theorem dX12_shown_4 : decode cX12_shown 4 = .ok (.invokestatic 345, 3) := by decide +kernel
theorem dX12_shown_7 : decode cX12_shown 7 = .ok (.ifCond .ne 5, 3) := by decide +kernel
theorem dX12_shown_10 : decode cX12_shown 10 = .ok (.iconst (-1), 1) := by decide +kernel
theorem dX12_shown_11 : decode cX12_shown 11 = .ok (.ireturn, 1) := by decide +kernel
theorem dX12_shown_12 : decode cX12_shown 12 = .ok (.aload_n 0, 1) := by decide +kernel
theorem dX12_shown_13 : decode cX12_shown 13 = .ok (.invokevirtual 397, 3) := by decide +kernel
theorem dX12_shown_16 : decode cX12_shown 16 = .ok (.iconst 0, 1) := by decide +kernel
theorem dX12_shown_17 : decode cX12_shown 17 = .ok (.istore_n 2, 1) := by decide +kernel
theorem dX12_shown_18 : decode cX12_shown 18 = .ok (.iconst 0, 1) := by decide +kernel
theorem dX12_shown_19 : decode cX12_shown 19 = .ok (.istore_n 3, 1) := by decide +kernel
theorem dX12_shown_20 : decode cX12_shown 20 = .ok (.iload_n 3, 1) := by decide +kernel
theorem dX12_shown_21 : decode cX12_shown 21 = .ok (.sipush 288, 3) := by decide +kernel
theorem dX12_shown_24 : decode cX12_shown 24 = .ok (.if_icmp .ge 43, 3) := by decide +kernel
theorem dX12_shown_27 : decode cX12_shown 27 = .ok (.aload_n 0, 1) := by decide +kernel
theorem dX12_shown_28 : decode cX12_shown 28 = .ok (.iload_n 3, 1) := by decide +kernel
theorem dX12_shown_29 : decode cX12_shown 29 = .ok (.invokevirtual 452, 3) := by decide +kernel
theorem dX12_shown_32 : decode cX12_shown 32 = .ok (.istore 4, 2) := by decide +kernel
theorem dX12_shown_34 : decode cX12_shown 34 = .ok (.iload 4, 2) := by decide +kernel
theorem dX12_shown_36 : decode cX12_shown 36 = .ok (.ifCond .lt 25, 3) := by decide +kernel
theorem dX12_shown_39 : decode cX12_shown 39 = .ok (.aload_n 0, 1) := by decide +kernel
theorem dX12_shown_40 : decode cX12_shown 40 = .ok (.getfield 58, 3) := by decide +kernel
theorem dX12_shown_43 : decode cX12_shown 43 = .ok (.bipush 7, 2) := by decide +kernel
theorem dX12_shown_45 : decode cX12_shown 45 = .ok (.aload_n 0, 1) := by decide +kernel
theorem dX12_shown_46 : decode cX12_shown 46 = .ok (.getfield 258, 3) := by decide +kernel
theorem dX12_shown_49 : decode cX12_shown 49 = .ok (.imul, 1) := by decide +kernel
theorem dX12_shown_50 : decode cX12_shown 50 = .ok (.iload 4, 2) := by decide +kernel
theorem dX12_shown_52 : decode cX12_shown 52 = .ok (.iadd, 1) := by decide +kernel
theorem dX12_shown_53 : decode cX12_shown 53 = .ok (.iaload, 1) := by decide +kernel
theorem dX12_shown_54 : decode cX12_shown 54 = .ok (.iload_n 1, 1) := by decide +kernel
theorem dX12_shown_55 : decode cX12_shown 55 = .ok (.if_icmp .ne 6, 3) := by decide +kernel
theorem dX12_shown_58 : decode cX12_shown 58 = .ok (.iinc 2 1, 3) := by decide +kernel
theorem dX12_shown_61 : decode cX12_shown 61 = .ok (.iinc 3 1, 3) := by decide +kernel
theorem dX12_shown_64 : decode cX12_shown 64 = .ok (.goto (-44), 3) := by decide +kernel
theorem dX12_shown_67 : decode cX12_shown 67 = .ok (.iload_n 2, 1) := by decide +kernel
theorem dX12_shown_68 : decode cX12_shown 68 = .ok (.ireturn, 1) := by decide +kernel
theorem dX12_uppermost_0 : decode cX12_uppermost 0 = .ok (.aload_n 0, 1) := by decide +kernel
theorem dX12_uppermost_1 : decode cX12_uppermost 1 = .ok (.iload_n 1, 1) := by decide +kernel
theorem dX12_uppermost_2 : decode cX12_uppermost 2 = .ok (.invokevirtual 394, 3) := by decide +kernel
theorem dX12_uppermost_5 : decode cX12_uppermost 5 = .ok (.ifCond .ne 5, 3) := by decide +kernel
theorem dX12_uppermost_8 : decode cX12_uppermost 8 = .ok (.iconst (-1), 1) := by decide +kernel
theorem dX12_uppermost_9 : decode cX12_uppermost 9 = .ok (.ireturn, 1) := by decide +kernel
theorem dX12_uppermost_10 : decode cX12_uppermost 10 = .ok (.aload_n 0, 1) := by decide +kernel
theorem dX12_uppermost_11 : decode cX12_uppermost 11 = .ok (.invokevirtual 397, 3) := by decide +kernel
theorem dX12_uppermost_14 : decode cX12_uppermost 14 = .ok (.iconst 0, 1) := by decide +kernel
theorem dX12_uppermost_15 : decode cX12_uppermost 15 = .ok (.istore_n 2, 1) := by decide +kernel
theorem dX12_uppermost_16 : decode cX12_uppermost 16 = .ok (.iconst 0, 1) := by decide +kernel
theorem dX12_uppermost_17 : decode cX12_uppermost 17 = .ok (.istore_n 3, 1) := by decide +kernel
theorem dX12_uppermost_18 : decode cX12_uppermost 18 = .ok (.iload_n 3, 1) := by decide +kernel
theorem dX12_uppermost_19 : decode cX12_uppermost 19 = .ok (.sipush 288, 3) := by decide +kernel
theorem dX12_uppermost_22 : decode cX12_uppermost 22 = .ok (.if_icmp .ge 21, 3) := by decide +kernel
theorem dX12_uppermost_25 : decode cX12_uppermost 25 = .ok (.aload_n 0, 1) := by decide +kernel
theorem dX12_uppermost_26 : decode cX12_uppermost 26 = .ok (.iload_n 3, 1) := by decide +kernel
theorem dX12_uppermost_27 : decode cX12_uppermost 27 = .ok (.invokevirtual 452, 3) := by decide +kernel
theorem dX12_uppermost_30 : decode cX12_uppermost 30 = .ok (.iload_n 1, 1) := by decide +kernel
theorem dX12_uppermost_31 : decode cX12_uppermost 31 = .ok (.if_icmp .ne 6, 3) := by decide +kernel
theorem dX12_uppermost_34 : decode cX12_uppermost 34 = .ok (.iinc 2 1, 3) := by decide +kernel
theorem dX12_uppermost_37 : decode cX12_uppermost 37 = .ok (.iinc 3 1, 3) := by decide +kernel
theorem dX12_uppermost_40 : decode cX12_uppermost 40 = .ok (.goto (-22), 3) := by decide +kernel
theorem dX12_uppermost_43 : decode cX12_uppermost 43 = .ok (.iload_n 2, 1) := by decide +kernel
theorem dX12_uppermost_44 : decode cX12_uppermost 44 = .ok (.ireturn, 1) := by decide +kernel
theorem dX12_duskBy_0 : decode cX12_duskBy 0 = .ok (.aload_n 0, 1) := by decide +kernel
theorem dX12_duskBy_1 : decode cX12_duskBy 1 = .ok (.invokevirtual 397, 3) := by decide +kernel
theorem dX12_duskBy_4 : decode cX12_duskBy 4 = .ok (.aload_n 0, 1) := by decide +kernel
theorem dX12_duskBy_5 : decode cX12_duskBy 5 = .ok (.iconst 0, 1) := by decide +kernel
theorem dX12_duskBy_6 : decode cX12_duskBy 6 = .ok (.putfield 455, 3) := by decide +kernel
theorem dX12_duskBy_9 : decode cX12_duskBy 9 = .ok (.aload_n 0, 1) := by decide +kernel
theorem dX12_duskBy_10 : decode cX12_duskBy 10 = .ok (.iconst 0, 1) := by decide +kernel
theorem dX12_duskBy_11 : decode cX12_duskBy 11 = .ok (.putfield 458, 3) := by decide +kernel
theorem dX12_duskBy_14 : decode cX12_duskBy 14 = .ok (.iconst 1, 1) := by decide +kernel
theorem dX12_duskBy_15 : decode cX12_duskBy 15 = .ok (.istore_n 2, 1) := by decide +kernel
theorem dX12_duskBy_16 : decode cX12_duskBy 16 = .ok (.iload_n 2, 1) := by decide +kernel
theorem dX12_duskBy_17 : decode cX12_duskBy 17 = .ok (.ifCond .eq 293, 3) := by decide +kernel
theorem dX12_duskBy_20 : decode cX12_duskBy 20 = .ok (.iconst 0, 1) := by decide +kernel
theorem dX12_duskBy_21 : decode cX12_duskBy 21 = .ok (.istore_n 2, 1) := by decide +kernel
theorem dX12_duskBy_22 : decode cX12_duskBy 22 = .ok (.iconst 0, 1) := by decide +kernel
theorem dX12_duskBy_23 : decode cX12_duskBy 23 = .ok (.istore_n 3, 1) := by decide +kernel
theorem dX12_duskBy_24 : decode cX12_duskBy 24 = .ok (.iload_n 3, 1) := by decide +kernel
theorem dX12_duskBy_25 : decode cX12_duskBy 25 = .ok (.aload_n 0, 1) := by decide +kernel
theorem dX12_duskBy_26 : decode cX12_duskBy 26 = .ok (.getfield 49, 3) := by decide +kernel
theorem dX12_duskBy_29 : decode cX12_duskBy 29 = .ok (.aload_n 0, 1) := by decide +kernel
theorem dX12_duskBy_30 : decode cX12_duskBy 30 = .ok (.getfield 258, 3) := by decide +kernel
theorem dX12_duskBy_33 : decode cX12_duskBy 33 = .ok (.iaload, 1) := by decide +kernel
theorem dX12_duskBy_34 : decode cX12_duskBy 34 = .ok (.if_icmp .ge 142, 3) := by decide +kernel
theorem dX12_duskBy_37 : decode cX12_duskBy 37 = .ok (.bipush 60, 2) := by decide +kernel
theorem dX12_duskBy_39 : decode cX12_duskBy 39 = .ok (.iload_n 3, 1) := by decide +kernel
theorem dX12_duskBy_40 : decode cX12_duskBy 40 = .ok (.imul, 1) := by decide +kernel
theorem dX12_duskBy_41 : decode cX12_duskBy 41 = .ok (.aload_n 0, 1) := by decide +kernel
theorem dX12_duskBy_42 : decode cX12_duskBy 42 = .ok (.getfield 131, 3) := by decide +kernel
theorem dX12_duskBy_45 : decode cX12_duskBy 45 = .ok (.bipush 14, 2) := by decide +kernel
theorem dX12_duskBy_47 : decode cX12_duskBy 47 = .ok (.iload_n 3, 1) := by decide +kernel
theorem dX12_duskBy_48 : decode cX12_duskBy 48 = .ok (.iadd, 1) := by decide +kernel
theorem dX12_duskBy_49 : decode cX12_duskBy 49 = .ok (.iaload, 1) := by decide +kernel
theorem dX12_duskBy_50 : decode cX12_duskBy 50 = .ok (.iadd, 1) := by decide +kernel
theorem dX12_duskBy_51 : decode cX12_duskBy 51 = .ok (.iconst 1, 1) := by decide +kernel
theorem dX12_duskBy_52 : decode cX12_duskBy 52 = .ok (.isub, 1) := by decide +kernel
theorem dX12_duskBy_53 : decode cX12_duskBy 53 = .ok (.istore 4, 2) := by decide +kernel
theorem dX12_duskBy_55 : decode cX12_duskBy 55 = .ok (.aload_n 0, 1) := by decide +kernel
theorem dX12_duskBy_56 : decode cX12_duskBy 56 = .ok (.getfield 153, 3) := by decide +kernel
theorem dX12_duskBy_59 : decode cX12_duskBy 59 = .ok (.iload_n 3, 1) := by decide +kernel
theorem dX12_duskBy_60 : decode cX12_duskBy 60 = .ok (.iload_n 1, 1) := by decide +kernel
theorem dX12_duskBy_61 : decode cX12_duskBy 61 = .ok (.ifCond .ne 7, 3) := by decide +kernel
theorem dX12_duskBy_64 : decode cX12_duskBy 64 = .ok (.iconst 0, 1) := by decide +kernel
theorem dX12_duskBy_65 : decode cX12_duskBy 65 = .ok (.goto 104, 3) := by decide +kernel
theorem dX12_duskBy_68 : decode cX12_duskBy 68 = .ok (.iload_n 1, 1) := by decide +kernel
theorem dX12_duskBy_69 : decode cX12_duskBy 69 = .ok (.iconst 1, 1) := by decide +kernel
theorem dX12_duskBy_70 : decode cX12_duskBy 70 = .ok (.if_icmp .ne 15, 3) := by decide +kernel
theorem dX12_duskBy_73 : decode cX12_duskBy 73 = .ok (.aload_n 0, 1) := by decide +kernel
theorem dX12_duskBy_74 : decode cX12_duskBy 74 = .ok (.getfield 131, 3) := by decide +kernel
theorem dX12_duskBy_77 : decode cX12_duskBy 77 = .ok (.bipush 14, 2) := by decide +kernel
theorem dX12_duskBy_79 : decode cX12_duskBy 79 = .ok (.iload_n 3, 1) := by decide +kernel
theorem dX12_duskBy_80 : decode cX12_duskBy 80 = .ok (.iadd, 1) := by decide +kernel
theorem dX12_duskBy_81 : decode cX12_duskBy 81 = .ok (.iaload, 1) := by decide +kernel
theorem dX12_duskBy_82 : decode cX12_duskBy 82 = .ok (.goto 87, 3) := by decide +kernel
theorem dX12_duskBy_85 : decode cX12_duskBy 85 = .ok (.iload_n 1, 1) := by decide +kernel
theorem dX12_duskBy_86 : decode cX12_duskBy 86 = .ok (.iconst 2, 1) := by decide +kernel
theorem dX12_duskBy_87 : decode cX12_duskBy 87 = .ok (.if_icmp .ne 11, 3) := by decide +kernel
theorem dX12_duskBy_90 : decode cX12_duskBy 90 = .ok (.aload_n 0, 1) := by decide +kernel
theorem dX12_duskBy_91 : decode cX12_duskBy 91 = .ok (.iload_n 3, 1) := by decide +kernel
theorem dX12_duskBy_92 : decode cX12_duskBy 92 = .ok (.invokevirtual 362, 3) := by decide +kernel
theorem dX12_duskBy_95 : decode cX12_duskBy 95 = .ok (.goto 74, 3) := by decide +kernel
theorem dX12_duskBy_98 : decode cX12_duskBy 98 = .ok (.iload_n 1, 1) := by decide +kernel
theorem dX12_duskBy_99 : decode cX12_duskBy 99 = .ok (.iconst 3, 1) := by decide +kernel
theorem dX12_duskBy_100 : decode cX12_duskBy 100 = .ok (.if_icmp .ne 33, 3) := by decide +kernel
theorem dX12_duskBy_103 : decode cX12_duskBy 103 = .ok (.aload_n 0, 1) := by decide +kernel
theorem dX12_duskBy_104 : decode cX12_duskBy 104 = .ok (.getfield 131, 3) := by decide +kernel
theorem dX12_duskBy_107 : decode cX12_duskBy 107 = .ok (.bipush 14, 2) := by decide +kernel
theorem dX12_duskBy_109 : decode cX12_duskBy 109 = .ok (.iload_n 3, 1) := by decide +kernel
theorem dX12_duskBy_110 : decode cX12_duskBy 110 = .ok (.iadd, 1) := by decide +kernel
theorem dX12_duskBy_111 : decode cX12_duskBy 111 = .ok (.iaload, 1) := by decide +kernel
theorem dX12_duskBy_112 : decode cX12_duskBy 112 = .ok (.ifCond .ne 7, 3) := by decide +kernel
theorem dX12_duskBy_115 : decode cX12_duskBy 115 = .ok (.iconst (-1), 1) := by decide +kernel
theorem dX12_duskBy_116 : decode cX12_duskBy 116 = .ok (.goto 53, 3) := by decide +kernel
theorem dX12_duskBy_119 : decode cX12_duskBy 119 = .ok (.aload_n 0, 1) := by decide +kernel
theorem dX12_duskBy_120 : decode cX12_duskBy 120 = .ok (.getfield 131, 3) := by decide +kernel
theorem dX12_duskBy_123 : decode cX12_duskBy 123 = .ok (.sipush 450, 3) := by decide +kernel
theorem dX12_duskBy_126 : decode cX12_duskBy 126 = .ok (.iload 4, 2) := by decide +kernel
theorem dX12_duskBy_128 : decode cX12_duskBy 128 = .ok (.iadd, 1) := by decide +kernel
theorem dX12_duskBy_129 : decode cX12_duskBy 129 = .ok (.iaload, 1) := by decide +kernel
theorem dX12_duskBy_130 : decode cX12_duskBy 130 = .ok (.goto 39, 3) := by decide +kernel
theorem dX12_duskBy_133 : decode cX12_duskBy 133 = .ok (.aload_n 0, 1) := by decide +kernel
theorem dX12_duskBy_134 : decode cX12_duskBy 134 = .ok (.getfield 79, 3) := by decide +kernel
theorem dX12_duskBy_137 : decode cX12_duskBy 137 = .ok (.aload_n 0, 1) := by decide +kernel
theorem dX12_duskBy_138 : decode cX12_duskBy 138 = .ok (.getfield 258, 3) := by decide +kernel
theorem dX12_duskBy_141 : decode cX12_duskBy 141 = .ok (.iaload, 1) := by decide +kernel
theorem dX12_duskBy_142 : decode cX12_duskBy 142 = .ok (.sipush 2000, 3) := by decide +kernel
theorem dX12_duskBy_145 : decode cX12_duskBy 145 = .ok (.bipush 8, 2) := by decide +kernel
theorem dX12_duskBy_147 : decode cX12_duskBy 147 = .ok (.aload_n 0, 1) := by decide +kernel
theorem dX12_duskBy_148 : decode cX12_duskBy 148 = .ok (.getfield 131, 3) := by decide +kernel
theorem dX12_duskBy_151 : decode cX12_duskBy 151 = .ok (.bipush 28, 2) := by decide +kernel
theorem dX12_duskBy_153 : decode cX12_duskBy 153 = .ok (.iaload, 1) := by decide +kernel
theorem dX12_duskBy_154 : decode cX12_duskBy 154 = .ok (.aload_n 0, 1) := by decide +kernel
theorem dX12_duskBy_155 : decode cX12_duskBy 155 = .ok (.getfield 455, 3) := by decide +kernel
theorem dX12_duskBy_158 : decode cX12_duskBy 158 = .ok (.iadd, 1) := by decide +kernel
theorem dX12_duskBy_159 : decode cX12_duskBy 159 = .ok (.imul, 1) := by decide +kernel
theorem dX12_duskBy_160 : decode cX12_duskBy 160 = .ok (.iadd, 1) := by decide +kernel
theorem dX12_duskBy_161 : decode cX12_duskBy 161 = .ok (.iload_n 3, 1) := by decide +kernel
theorem dX12_duskBy_162 : decode cX12_duskBy 162 = .ok (.iadd, 1) := by decide +kernel
theorem dX12_duskBy_163 : decode cX12_duskBy 163 = .ok (.sipush 1000, 3) := by decide +kernel
theorem dX12_duskBy_166 : decode cX12_duskBy 166 = .ok (.invokestatic 365, 3) := by decide +kernel
theorem dX12_duskBy_169 : decode cX12_duskBy 169 = .ok (.iastore, 1) := by decide +kernel
theorem dX12_duskBy_170 : decode cX12_duskBy 170 = .ok (.iinc 3 1, 3) := by decide +kernel
theorem dX12_duskBy_173 : decode cX12_duskBy 173 = .ok (.goto (-149), 3) := by decide +kernel
theorem dX12_duskBy_176 : decode cX12_duskBy 176 = .ok (.iconst 0, 1) := by decide +kernel
theorem dX12_duskBy_177 : decode cX12_duskBy 177 = .ok (.istore_n 3, 1) := by decide +kernel
theorem dX12_duskBy_178 : decode cX12_duskBy 178 = .ok (.iconst 0, 1) := by decide +kernel
theorem dX12_duskBy_179 : decode cX12_duskBy 179 = .ok (.istore 4, 2) := by decide +kernel
theorem dX12_duskBy_181 : decode cX12_duskBy 181 = .ok (.iload 4, 2) := by decide +kernel
theorem dX12_duskBy_183 : decode cX12_duskBy 183 = .ok (.aload_n 0, 1) := by decide +kernel
theorem dX12_duskBy_184 : decode cX12_duskBy 184 = .ok (.getfield 49, 3) := by decide +kernel
theorem dX12_duskBy_187 : decode cX12_duskBy 187 = .ok (.aload_n 0, 1) := by decide +kernel
theorem dX12_duskBy_188 : decode cX12_duskBy 188 = .ok (.getfield 258, 3) := by decide +kernel
theorem dX12_duskBy_191 : decode cX12_duskBy 191 = .ok (.iaload, 1) := by decide +kernel
theorem dX12_duskBy_192 : decode cX12_duskBy 192 = .ok (.if_icmp .ge 101, 3) := by decide +kernel
theorem dX12_duskBy_195 : decode cX12_duskBy 195 = .ok (.iconst (-1), 1) := by decide +kernel
theorem dX12_duskBy_196 : decode cX12_duskBy 196 = .ok (.istore 5, 2) := by decide +kernel
theorem dX12_duskBy_198 : decode cX12_duskBy 198 = .ok (.iconst 0, 1) := by decide +kernel
theorem dX12_duskBy_199 : decode cX12_duskBy 199 = .ok (.istore 6, 2) := by decide +kernel
theorem dX12_duskBy_201 : decode cX12_duskBy 201 = .ok (.iload 6, 2) := by decide +kernel
theorem dX12_duskBy_203 : decode cX12_duskBy 203 = .ok (.aload_n 0, 1) := by decide +kernel
theorem dX12_duskBy_204 : decode cX12_duskBy 204 = .ok (.getfield 49, 3) := by decide +kernel
theorem dX12_duskBy_207 : decode cX12_duskBy 207 = .ok (.aload_n 0, 1) := by decide +kernel
theorem dX12_duskBy_208 : decode cX12_duskBy 208 = .ok (.getfield 258, 3) := by decide +kernel
theorem dX12_duskBy_211 : decode cX12_duskBy 211 = .ok (.iaload, 1) := by decide +kernel
theorem dX12_duskBy_212 : decode cX12_duskBy 212 = .ok (.if_icmp .ge 44, 3) := by decide +kernel
theorem dX12_duskBy_215 : decode cX12_duskBy 215 = .ok (.iload_n 3, 1) := by decide +kernel
theorem dX12_duskBy_216 : decode cX12_duskBy 216 = .ok (.iload 6, 2) := by decide +kernel
theorem dX12_duskBy_218 : decode cX12_duskBy 218 = .ok (.ishr, 1) := by decide +kernel
theorem dX12_duskBy_219 : decode cX12_duskBy 219 = .ok (.iconst 1, 1) := by decide +kernel
theorem dX12_duskBy_220 : decode cX12_duskBy 220 = .ok (.iand, 1) := by decide +kernel
theorem dX12_duskBy_221 : decode cX12_duskBy 221 = .ok (.ifCond .ne 29, 3) := by decide +kernel
theorem dX12_duskBy_224 : decode cX12_duskBy 224 = .ok (.iload 5, 2) := by decide +kernel
theorem dX12_duskBy_226 : decode cX12_duskBy 226 = .ok (.ifCond .lt 20, 3) := by decide +kernel
theorem dX12_duskBy_229 : decode cX12_duskBy 229 = .ok (.aload_n 0, 1) := by decide +kernel
theorem dX12_duskBy_230 : decode cX12_duskBy 230 = .ok (.getfield 153, 3) := by decide +kernel
theorem dX12_duskBy_233 : decode cX12_duskBy 233 = .ok (.iload 6, 2) := by decide +kernel
theorem dX12_duskBy_235 : decode cX12_duskBy 235 = .ok (.iaload, 1) := by decide +kernel
theorem dX12_duskBy_236 : decode cX12_duskBy 236 = .ok (.aload_n 0, 1) := by decide +kernel
theorem dX12_duskBy_237 : decode cX12_duskBy 237 = .ok (.getfield 153, 3) := by decide +kernel
theorem dX12_duskBy_240 : decode cX12_duskBy 240 = .ok (.iload 5, 2) := by decide +kernel
theorem dX12_duskBy_242 : decode cX12_duskBy 242 = .ok (.iaload, 1) := by decide +kernel
theorem dX12_duskBy_243 : decode cX12_duskBy 243 = .ok (.if_icmp .le 7, 3) := by decide +kernel
theorem dX12_duskBy_246 : decode cX12_duskBy 246 = .ok (.iload 6, 2) := by decide +kernel
theorem dX12_duskBy_248 : decode cX12_duskBy 248 = .ok (.istore 5, 2) := by decide +kernel
theorem dX12_duskBy_250 : decode cX12_duskBy 250 = .ok (.iinc 6 1, 3) := by decide +kernel
theorem dX12_duskBy_253 : decode cX12_duskBy 253 = .ok (.goto (-52), 3) := by decide +kernel
theorem dX12_duskBy_256 : decode cX12_duskBy 256 = .ok (.iload_n 3, 1) := by decide +kernel
theorem dX12_duskBy_257 : decode cX12_duskBy 257 = .ok (.iconst 1, 1) := by decide +kernel
theorem dX12_duskBy_258 : decode cX12_duskBy 258 = .ok (.iload 5, 2) := by decide +kernel
theorem dX12_duskBy_260 : decode cX12_duskBy 260 = .ok (.ishl, 1) := by decide +kernel
theorem dX12_duskBy_261 : decode cX12_duskBy 261 = .ok (.ior, 1) := by decide +kernel
theorem dX12_duskBy_262 : decode cX12_duskBy 262 = .ok (.istore_n 3, 1) := by decide +kernel
theorem dX12_duskBy_263 : decode cX12_duskBy 263 = .ok (.aload_n 0, 1) := by decide +kernel
theorem dX12_duskBy_264 : decode cX12_duskBy 264 = .ok (.iload 5, 2) := by decide +kernel
theorem dX12_duskBy_266 : decode cX12_duskBy 266 = .ok (.invokevirtual 391, 3) := by decide +kernel
theorem dX12_duskBy_269 : decode cX12_duskBy 269 = .ok (.ifCond .ne 6, 3) := by decide +kernel
theorem dX12_duskBy_272 : decode cX12_duskBy 272 = .ok (.goto 15, 3) := by decide +kernel
theorem dX12_duskBy_275 : decode cX12_duskBy 275 = .ok (.iconst 1, 1) := by decide +kernel
theorem dX12_duskBy_276 : decode cX12_duskBy 276 = .ok (.istore_n 2, 1) := by decide +kernel
theorem dX12_duskBy_277 : decode cX12_duskBy 277 = .ok (.aload_n 0, 1) := by decide +kernel
theorem dX12_duskBy_278 : decode cX12_duskBy 278 = .ok (.dup, 1) := by decide +kernel
theorem dX12_duskBy_279 : decode cX12_duskBy 279 = .ok (.getfield 458, 3) := by decide +kernel
theorem dX12_duskBy_282 : decode cX12_duskBy 282 = .ok (.iconst 1, 1) := by decide +kernel
theorem dX12_duskBy_283 : decode cX12_duskBy 283 = .ok (.iadd, 1) := by decide +kernel
theorem dX12_duskBy_284 : decode cX12_duskBy 284 = .ok (.putfield 458, 3) := by decide +kernel
theorem dX12_duskBy_287 : decode cX12_duskBy 287 = .ok (.iinc 4 1, 3) := by decide +kernel
theorem dX12_duskBy_290 : decode cX12_duskBy 290 = .ok (.goto (-109), 3) := by decide +kernel
theorem dX12_duskBy_293 : decode cX12_duskBy 293 = .ok (.iload_n 2, 1) := by decide +kernel
theorem dX12_duskBy_294 : decode cX12_duskBy 294 = .ok (.ifCond .eq 13, 3) := by decide +kernel
theorem dX12_duskBy_297 : decode cX12_duskBy 297 = .ok (.aload_n 0, 1) := by decide +kernel
theorem dX12_duskBy_298 : decode cX12_duskBy 298 = .ok (.dup, 1) := by decide +kernel
theorem dX12_duskBy_299 : decode cX12_duskBy 299 = .ok (.getfield 455, 3) := by decide +kernel
theorem dX12_duskBy_302 : decode cX12_duskBy 302 = .ok (.iconst 1, 1) := by decide +kernel
theorem dX12_duskBy_303 : decode cX12_duskBy 303 = .ok (.iadd, 1) := by decide +kernel
theorem dX12_duskBy_304 : decode cX12_duskBy 304 = .ok (.putfield 455, 3) := by decide +kernel
theorem dX12_duskBy_307 : decode cX12_duskBy 307 = .ok (.goto (-291), 3) := by decide +kernel
theorem dX12_duskBy_310 : decode cX12_duskBy 310 = .ok (.return_, 1) := by decide +kernel
theorem dX12_dusk_0 : decode cX12_dusk 0 = .ok (.iload_n 1, 1) := by decide +kernel
theorem dX12_dusk_1 : decode cX12_dusk 1 = .ok (.iconst 0, 1) := by decide +kernel
theorem dX12_dusk_2 : decode cX12_dusk 2 = .ok (.iconst 4, 1) := by decide +kernel
theorem dX12_dusk_3 : decode cX12_dusk 3 = .ok (.invokestatic 345, 3) := by decide +kernel
theorem dX12_dusk_6 : decode cX12_dusk 6 = .ok (.ifCond .eq 12, 3) := by decide +kernel
theorem dX12_dusk_9 : decode cX12_dusk 9 = .ok (.iload_n 2, 1) := by decide +kernel
theorem dX12_dusk_10 : decode cX12_dusk 10 = .ok (.iconst 0, 1) := by decide +kernel
theorem dX12_dusk_11 : decode cX12_dusk 11 = .ok (.iconst 3, 1) := by decide +kernel
theorem dX12_dusk_12 : decode cX12_dusk 12 = .ok (.invokestatic 345, 3) := by decide +kernel
theorem dX12_dusk_15 : decode cX12_dusk 15 = .ok (.ifCond .ne 5, 3) := by decide +kernel
theorem dX12_dusk_18 : decode cX12_dusk 18 = .ok (.iconst (-1), 1) := by decide +kernel
theorem dX12_dusk_19 : decode cX12_dusk 19 = .ok (.ireturn, 1) := by decide +kernel
theorem dX12_dusk_20 : decode cX12_dusk 20 = .ok (.aload_n 0, 1) := by decide +kernel
theorem dX12_dusk_21 : decode cX12_dusk 21 = .ok (.iload_n 1, 1) := by decide +kernel
theorem dX12_dusk_22 : decode cX12_dusk 22 = .ok (.invokevirtual 461, 3) := by decide +kernel
theorem dX12_dusk_25 : decode cX12_dusk 25 = .ok (.iload_n 2, 1) := by decide +kernel
theorem dX12_dusk_26 : decode cX12_dusk 26 = .ok (.ifCond .ne 8, 3) := by decide +kernel
theorem dX12_dusk_29 : decode cX12_dusk 29 = .ok (.aload_n 0, 1) := by decide +kernel
theorem dX12_dusk_30 : decode cX12_dusk 30 = .ok (.getfield 455, 3) := by decide +kernel
theorem dX12_dusk_33 : decode cX12_dusk 33 = .ok (.ireturn, 1) := by decide +kernel
theorem dX12_dusk_34 : decode cX12_dusk 34 = .ok (.iload_n 2, 1) := by decide +kernel
theorem dX12_dusk_35 : decode cX12_dusk 35 = .ok (.iconst 1, 1) := by decide +kernel
theorem dX12_dusk_36 : decode cX12_dusk 36 = .ok (.if_icmp .ne 8, 3) := by decide +kernel
theorem dX12_dusk_39 : decode cX12_dusk 39 = .ok (.aload_n 0, 1) := by decide +kernel
theorem dX12_dusk_40 : decode cX12_dusk 40 = .ok (.getfield 458, 3) := by decide +kernel
theorem dX12_dusk_43 : decode cX12_dusk 43 = .ok (.ireturn, 1) := by decide +kernel
theorem dX12_dusk_44 : decode cX12_dusk 44 = .ok (.iconst 0, 1) := by decide +kernel
theorem dX12_dusk_45 : decode cX12_dusk 45 = .ok (.istore_n 3, 1) := by decide +kernel
theorem dX12_dusk_46 : decode cX12_dusk 46 = .ok (.iconst 0, 1) := by decide +kernel
theorem dX12_dusk_47 : decode cX12_dusk 47 = .ok (.istore 4, 2) := by decide +kernel
theorem dX12_dusk_49 : decode cX12_dusk 49 = .ok (.iconst 0, 1) := by decide +kernel
theorem dX12_dusk_50 : decode cX12_dusk 50 = .ok (.istore 5, 2) := by decide +kernel
theorem dX12_dusk_52 : decode cX12_dusk 52 = .ok (.iload 5, 2) := by decide +kernel
theorem dX12_dusk_54 : decode cX12_dusk 54 = .ok (.aload_n 0, 1) := by decide +kernel
theorem dX12_dusk_55 : decode cX12_dusk 55 = .ok (.getfield 49, 3) := by decide +kernel
theorem dX12_dusk_58 : decode cX12_dusk 58 = .ok (.aload_n 0, 1) := by decide +kernel
theorem dX12_dusk_59 : decode cX12_dusk 59 = .ok (.getfield 258, 3) := by decide +kernel
theorem dX12_dusk_62 : decode cX12_dusk 62 = .ok (.iaload, 1) := by decide +kernel
theorem dX12_dusk_63 : decode cX12_dusk 63 = .ok (.if_icmp .ge 64, 3) := by decide +kernel
theorem dX12_dusk_66 : decode cX12_dusk 66 = .ok (.aload_n 0, 1) := by decide +kernel
theorem dX12_dusk_67 : decode cX12_dusk 67 = .ok (.getfield 131, 3) := by decide +kernel
theorem dX12_dusk_70 : decode cX12_dusk 70 = .ok (.bipush 21, 2) := by decide +kernel
theorem dX12_dusk_72 : decode cX12_dusk 72 = .ok (.iload 5, 2) := by decide +kernel
theorem dX12_dusk_74 : decode cX12_dusk 74 = .ok (.iadd, 1) := by decide +kernel
theorem dX12_dusk_75 : decode cX12_dusk 75 = .ok (.iaload, 1) := by decide +kernel
theorem dX12_dusk_76 : decode cX12_dusk 76 = .ok (.ifCond .ne 23, 3) := by decide +kernel
theorem dX12_dusk_79 : decode cX12_dusk 79 = .ok (.aload_n 0, 1) := by decide +kernel
theorem dX12_dusk_80 : decode cX12_dusk 80 = .ok (.getfield 131, 3) := by decide +kernel
theorem dX12_dusk_83 : decode cX12_dusk 83 = .ok (.bipush 14, 2) := by decide +kernel
theorem dX12_dusk_85 : decode cX12_dusk 85 = .ok (.iload 5, 2) := by decide +kernel
theorem dX12_dusk_87 : decode cX12_dusk 87 = .ok (.iadd, 1) := by decide +kernel
theorem dX12_dusk_88 : decode cX12_dusk 88 = .ok (.iaload, 1) := by decide +kernel
theorem dX12_dusk_89 : decode cX12_dusk 89 = .ok (.ifCond .ne 10, 3) := by decide +kernel
theorem dX12_dusk_92 : decode cX12_dusk 92 = .ok (.iload_n 3, 1) := by decide +kernel
theorem dX12_dusk_93 : decode cX12_dusk 93 = .ok (.iconst 1, 1) := by decide +kernel
theorem dX12_dusk_94 : decode cX12_dusk 94 = .ok (.iload 5, 2) := by decide +kernel
theorem dX12_dusk_96 : decode cX12_dusk 96 = .ok (.ishl, 1) := by decide +kernel
theorem dX12_dusk_97 : decode cX12_dusk 97 = .ok (.ior, 1) := by decide +kernel
theorem dX12_dusk_98 : decode cX12_dusk 98 = .ok (.istore_n 3, 1) := by decide +kernel
theorem dX12_dusk_99 : decode cX12_dusk 99 = .ok (.aload_n 0, 1) := by decide +kernel
theorem dX12_dusk_100 : decode cX12_dusk 100 = .ok (.getfield 131, 3) := by decide +kernel
theorem dX12_dusk_103 : decode cX12_dusk 103 = .ok (.bipush 14, 2) := by decide +kernel
theorem dX12_dusk_105 : decode cX12_dusk 105 = .ok (.iload 5, 2) := by decide +kernel
theorem dX12_dusk_107 : decode cX12_dusk 107 = .ok (.iadd, 1) := by decide +kernel
theorem dX12_dusk_108 : decode cX12_dusk 108 = .ok (.iaload, 1) := by decide +kernel
theorem dX12_dusk_109 : decode cX12_dusk 109 = .ok (.ifCond .le 12, 3) := by decide +kernel
theorem dX12_dusk_112 : decode cX12_dusk 112 = .ok (.iload 4, 2) := by decide +kernel
theorem dX12_dusk_114 : decode cX12_dusk 114 = .ok (.iconst 1, 1) := by decide +kernel
theorem dX12_dusk_115 : decode cX12_dusk 115 = .ok (.iload 5, 2) := by decide +kernel
theorem dX12_dusk_117 : decode cX12_dusk 117 = .ok (.ishl, 1) := by decide +kernel
theorem dX12_dusk_118 : decode cX12_dusk 118 = .ok (.ior, 1) := by decide +kernel
theorem dX12_dusk_119 : decode cX12_dusk 119 = .ok (.istore 4, 2) := by decide +kernel
theorem dX12_dusk_121 : decode cX12_dusk 121 = .ok (.iinc 5 1, 3) := by decide +kernel
theorem dX12_dusk_124 : decode cX12_dusk 124 = .ok (.goto (-72), 3) := by decide +kernel
theorem dX12_dusk_127 : decode cX12_dusk 127 = .ok (.iload_n 2, 1) := by decide +kernel
theorem dX12_dusk_128 : decode cX12_dusk 128 = .ok (.iconst 2, 1) := by decide +kernel
theorem dX12_dusk_129 : decode cX12_dusk 129 = .ok (.if_icmp .ne 7, 3) := by decide +kernel
theorem dX12_dusk_132 : decode cX12_dusk 132 = .ok (.iload_n 3, 1) := by decide +kernel
theorem dX12_dusk_133 : decode cX12_dusk 133 = .ok (.goto 5, 3) := by decide +kernel
theorem dX12_dusk_136 : decode cX12_dusk 136 = .ok (.iload 4, 2) := by decide +kernel
theorem dX12_dusk_138 : decode cX12_dusk 138 = .ok (.ireturn, 1) := by decide +kernel
theorem dX12_bestDusk_0 : decode cX12_bestDusk 0 = .ok (.iconst 0, 1) := by decide +kernel
theorem dX12_bestDusk_1 : decode cX12_bestDusk 1 = .ok (.istore_n 1, 1) := by decide +kernel
theorem dX12_bestDusk_2 : decode cX12_bestDusk 2 = .ok (.iconst (-1), 1) := by decide +kernel
theorem dX12_bestDusk_3 : decode cX12_bestDusk 3 = .ok (.istore_n 2, 1) := by decide +kernel
theorem dX12_bestDusk_4 : decode cX12_bestDusk 4 = .ok (.iconst 0, 1) := by decide +kernel
theorem dX12_bestDusk_5 : decode cX12_bestDusk 5 = .ok (.istore_n 3, 1) := by decide +kernel
theorem dX12_bestDusk_6 : decode cX12_bestDusk 6 = .ok (.iconst 0, 1) := by decide +kernel
theorem dX12_bestDusk_7 : decode cX12_bestDusk 7 = .ok (.istore 4, 2) := by decide +kernel
theorem dX12_bestDusk_9 : decode cX12_bestDusk 9 = .ok (.iload 4, 2) := by decide +kernel
theorem dX12_bestDusk_11 : decode cX12_bestDusk 11 = .ok (.iconst 5, 1) := by decide +kernel
theorem dX12_bestDusk_12 : decode cX12_bestDusk 12 = .ok (.if_icmp .ge 55, 3) := by decide +kernel
theorem dX12_bestDusk_15 : decode cX12_bestDusk 15 = .ok (.aload_n 0, 1) := by decide +kernel
theorem dX12_bestDusk_16 : decode cX12_bestDusk 16 = .ok (.iload 4, 2) := by decide +kernel
theorem dX12_bestDusk_18 : decode cX12_bestDusk 18 = .ok (.invokevirtual 461, 3) := by decide +kernel
theorem dX12_bestDusk_21 : decode cX12_bestDusk 21 = .ok (.aload_n 0, 1) := by decide +kernel
theorem dX12_bestDusk_22 : decode cX12_bestDusk 22 = .ok (.getfield 458, 3) := by decide +kernel
theorem dX12_bestDusk_25 : decode cX12_bestDusk 25 = .ok (.iload_n 2, 1) := by decide +kernel
theorem dX12_bestDusk_26 : decode cX12_bestDusk 26 = .ok (.if_icmp .lt 35, 3) := by decide +kernel
theorem dX12_bestDusk_29 : decode cX12_bestDusk 29 = .ok (.aload_n 0, 1) := by decide +kernel
theorem dX12_bestDusk_30 : decode cX12_bestDusk 30 = .ok (.getfield 458, 3) := by decide +kernel
theorem dX12_bestDusk_33 : decode cX12_bestDusk 33 = .ok (.iload_n 2, 1) := by decide +kernel
theorem dX12_bestDusk_34 : decode cX12_bestDusk 34 = .ok (.if_icmp .ne 14, 3) := by decide +kernel
theorem dX12_bestDusk_37 : decode cX12_bestDusk 37 = .ok (.aload_n 0, 1) := by decide +kernel
theorem dX12_bestDusk_38 : decode cX12_bestDusk 38 = .ok (.getfield 455, 3) := by decide +kernel
theorem dX12_bestDusk_41 : decode cX12_bestDusk 41 = .ok (.iload_n 3, 1) := by decide +kernel
theorem dX12_bestDusk_42 : decode cX12_bestDusk 42 = .ok (.if_icmp .lt 6, 3) := by decide +kernel
theorem dX12_bestDusk_45 : decode cX12_bestDusk 45 = .ok (.goto 16, 3) := by decide +kernel
theorem dX12_bestDusk_48 : decode cX12_bestDusk 48 = .ok (.iload 4, 2) := by decide +kernel
theorem dX12_bestDusk_50 : decode cX12_bestDusk 50 = .ok (.istore_n 1, 1) := by decide +kernel
theorem dX12_bestDusk_51 : decode cX12_bestDusk 51 = .ok (.aload_n 0, 1) := by decide +kernel
theorem dX12_bestDusk_52 : decode cX12_bestDusk 52 = .ok (.getfield 458, 3) := by decide +kernel
theorem dX12_bestDusk_55 : decode cX12_bestDusk 55 = .ok (.istore_n 2, 1) := by decide +kernel
theorem dX12_bestDusk_56 : decode cX12_bestDusk 56 = .ok (.aload_n 0, 1) := by decide +kernel
theorem dX12_bestDusk_57 : decode cX12_bestDusk 57 = .ok (.getfield 455, 3) := by decide +kernel
theorem dX12_bestDusk_60 : decode cX12_bestDusk 60 = .ok (.istore_n 3, 1) := by decide +kernel
theorem dX12_bestDusk_61 : decode cX12_bestDusk 61 = .ok (.iinc 4 1, 3) := by decide +kernel
theorem dX12_bestDusk_64 : decode cX12_bestDusk 64 = .ok (.goto (-55), 3) := by decide +kernel
theorem dX12_bestDusk_67 : decode cX12_bestDusk 67 = .ok (.iload_n 1, 1) := by decide +kernel
theorem dX12_bestDusk_68 : decode cX12_bestDusk 68 = .ok (.ireturn, 1) := by decide +kernel
theorem dX12_knowsNow_0 : decode cX12_knowsNow 0 = .ok (.iconst 0, 1) := by decide +kernel
theorem dX12_knowsNow_1 : decode cX12_knowsNow 1 = .ok (.istore_n 2, 1) := by decide +kernel
theorem dX12_knowsNow_2 : decode cX12_knowsNow 2 = .ok (.iconst 0, 1) := by decide +kernel
theorem dX12_knowsNow_3 : decode cX12_knowsNow 3 = .ok (.istore_n 3, 1) := by decide +kernel
theorem dX12_knowsNow_4 : decode cX12_knowsNow 4 = .ok (.iload_n 3, 1) := by decide +kernel
theorem dX12_knowsNow_5 : decode cX12_knowsNow 5 = .ok (.aload_n 0, 1) := by decide +kernel
theorem dX12_knowsNow_6 : decode cX12_knowsNow 6 = .ok (.getfield 49, 3) := by decide +kernel
theorem dX12_knowsNow_9 : decode cX12_knowsNow 9 = .ok (.aload_n 0, 1) := by decide +kernel
theorem dX12_knowsNow_10 : decode cX12_knowsNow 10 = .ok (.getfield 258, 3) := by decide +kernel
theorem dX12_knowsNow_13 : decode cX12_knowsNow 13 = .ok (.iaload, 1) := by decide +kernel
theorem dX12_knowsNow_14 : decode cX12_knowsNow 14 = .ok (.if_icmp .ge 38, 3) := by decide +kernel
theorem dX12_knowsNow_17 : decode cX12_knowsNow 17 = .ok (.iload_n 3, 1) := by decide +kernel
theorem dX12_knowsNow_18 : decode cX12_knowsNow 18 = .ok (.iload_n 1, 1) := by decide +kernel
theorem dX12_knowsNow_19 : decode cX12_knowsNow 19 = .ok (.if_icmp .eq 27, 3) := by decide +kernel
theorem dX12_knowsNow_22 : decode cX12_knowsNow 22 = .ok (.aload_n 0, 1) := by decide +kernel
theorem dX12_knowsNow_23 : decode cX12_knowsNow 23 = .ok (.iload_n 1, 1) := by decide +kernel
theorem dX12_knowsNow_24 : decode cX12_knowsNow 24 = .ok (.iload_n 3, 1) := by decide +kernel
theorem dX12_knowsNow_25 : decode cX12_knowsNow 25 = .ok (.invokevirtual 410, 3) := by decide +kernel
theorem dX12_knowsNow_28 : decode cX12_knowsNow 28 = .ok (.ifCond .gt 12, 3) := by decide +kernel
theorem dX12_knowsNow_31 : decode cX12_knowsNow 31 = .ok (.aload_n 0, 1) := by decide +kernel
theorem dX12_knowsNow_32 : decode cX12_knowsNow 32 = .ok (.iload_n 3, 1) := by decide +kernel
theorem dX12_knowsNow_33 : decode cX12_knowsNow 33 = .ok (.iload_n 1, 1) := by decide +kernel
theorem dX12_knowsNow_34 : decode cX12_knowsNow 34 = .ok (.invokevirtual 410, 3) := by decide +kernel
theorem dX12_knowsNow_37 : decode cX12_knowsNow 37 = .ok (.ifCond .le 9, 3) := by decide +kernel
theorem dX12_knowsNow_40 : decode cX12_knowsNow 40 = .ok (.iload_n 2, 1) := by decide +kernel
theorem dX12_knowsNow_41 : decode cX12_knowsNow 41 = .ok (.iconst 1, 1) := by decide +kernel
theorem dX12_knowsNow_42 : decode cX12_knowsNow 42 = .ok (.iload_n 3, 1) := by decide +kernel
theorem dX12_knowsNow_43 : decode cX12_knowsNow 43 = .ok (.ishl, 1) := by decide +kernel
theorem dX12_knowsNow_44 : decode cX12_knowsNow 44 = .ok (.ior, 1) := by decide +kernel
theorem dX12_knowsNow_45 : decode cX12_knowsNow 45 = .ok (.istore_n 2, 1) := by decide +kernel
theorem dX12_knowsNow_46 : decode cX12_knowsNow 46 = .ok (.iinc 3 1, 3) := by decide +kernel
theorem dX12_knowsNow_49 : decode cX12_knowsNow 49 = .ok (.goto (-45), 3) := by decide +kernel
theorem dX12_knowsNow_52 : decode cX12_knowsNow 52 = .ok (.iload_n 2, 1) := by decide +kernel
theorem dX12_knowsNow_53 : decode cX12_knowsNow 53 = .ok (.ireturn, 1) := by decide +kernel
theorem dX12_knows_0 : decode cX12_knows 0 = .ok (.aload_n 0, 1) := by decide +kernel
theorem dX12_knows_1 : decode cX12_knows 1 = .ok (.iload_n 1, 1) := by decide +kernel
theorem dX12_knows_2 : decode cX12_knows 2 = .ok (.invokevirtual 394, 3) := by decide +kernel
theorem dX12_knows_5 : decode cX12_knows 5 = .ok (.ifCond .ne 5, 3) := by decide +kernel
theorem dX12_knows_8 : decode cX12_knows 8 = .ok (.iconst (-1), 1) := by decide +kernel
theorem dX12_knows_9 : decode cX12_knows 9 = .ok (.ireturn, 1) := by decide +kernel
theorem dX12_knows_10 : decode cX12_knows 10 = .ok (.aload_n 0, 1) := by decide +kernel
theorem dX12_knows_11 : decode cX12_knows 11 = .ok (.invokevirtual 397, 3) := by decide +kernel
theorem dX12_knows_14 : decode cX12_knows 14 = .ok (.aload_n 0, 1) := by decide +kernel
theorem dX12_knows_15 : decode cX12_knows 15 = .ok (.iload_n 1, 1) := by decide +kernel
theorem dX12_knows_16 : decode cX12_knows 16 = .ok (.invokevirtual 464, 3) := by decide +kernel
theorem dX12_knows_19 : decode cX12_knows 19 = .ok (.ireturn, 1) := by decide +kernel
theorem dX12_linkedTo_0 : decode cX12_linkedTo 0 = .ok (.iload_n 1, 1) := by decide +kernel
theorem dX12_linkedTo_1 : decode cX12_linkedTo 1 = .ok (.istore_n 2, 1) := by decide +kernel
theorem dX12_linkedTo_2 : decode cX12_linkedTo 2 = .ok (.iconst 0, 1) := by decide +kernel
theorem dX12_linkedTo_3 : decode cX12_linkedTo 3 = .ok (.istore_n 3, 1) := by decide +kernel
theorem dX12_linkedTo_4 : decode cX12_linkedTo 4 = .ok (.iload_n 3, 1) := by decide +kernel
theorem dX12_linkedTo_5 : decode cX12_linkedTo 5 = .ok (.aload_n 0, 1) := by decide +kernel
theorem dX12_linkedTo_6 : decode cX12_linkedTo 6 = .ok (.getfield 49, 3) := by decide +kernel
theorem dX12_linkedTo_9 : decode cX12_linkedTo 9 = .ok (.aload_n 0, 1) := by decide +kernel
theorem dX12_linkedTo_10 : decode cX12_linkedTo 10 = .ok (.getfield 258, 3) := by decide +kernel
theorem dX12_linkedTo_13 : decode cX12_linkedTo 13 = .ok (.iaload, 1) := by decide +kernel
theorem dX12_linkedTo_14 : decode cX12_linkedTo 14 = .ok (.if_icmp .ge 26, 3) := by decide +kernel
theorem dX12_linkedTo_17 : decode cX12_linkedTo 17 = .ok (.iload_n 1, 1) := by decide +kernel
theorem dX12_linkedTo_18 : decode cX12_linkedTo 18 = .ok (.iload_n 3, 1) := by decide +kernel
theorem dX12_linkedTo_19 : decode cX12_linkedTo 19 = .ok (.ishr, 1) := by decide +kernel
theorem dX12_linkedTo_20 : decode cX12_linkedTo 20 = .ok (.iconst 1, 1) := by decide +kernel
theorem dX12_linkedTo_21 : decode cX12_linkedTo 21 = .ok (.iand, 1) := by decide +kernel
theorem dX12_linkedTo_22 : decode cX12_linkedTo 22 = .ok (.iconst 1, 1) := by decide +kernel
theorem dX12_linkedTo_23 : decode cX12_linkedTo 23 = .ok (.if_icmp .ne 11, 3) := by decide +kernel
theorem dX12_linkedTo_26 : decode cX12_linkedTo 26 = .ok (.iload_n 2, 1) := by decide +kernel
theorem dX12_linkedTo_27 : decode cX12_linkedTo 27 = .ok (.aload_n 0, 1) := by decide +kernel
theorem dX12_linkedTo_28 : decode cX12_linkedTo 28 = .ok (.iload_n 3, 1) := by decide +kernel
theorem dX12_linkedTo_29 : decode cX12_linkedTo 29 = .ok (.invokevirtual 464, 3) := by decide +kernel
theorem dX12_linkedTo_32 : decode cX12_linkedTo 32 = .ok (.ior, 1) := by decide +kernel
theorem dX12_linkedTo_33 : decode cX12_linkedTo 33 = .ok (.istore_n 2, 1) := by decide +kernel
theorem dX12_linkedTo_34 : decode cX12_linkedTo 34 = .ok (.iinc 3 1, 3) := by decide +kernel
theorem dX12_linkedTo_37 : decode cX12_linkedTo 37 = .ok (.goto (-33), 3) := by decide +kernel
theorem dX12_linkedTo_40 : decode cX12_linkedTo 40 = .ok (.iload_n 2, 1) := by decide +kernel
theorem dX12_linkedTo_41 : decode cX12_linkedTo 41 = .ok (.ireturn, 1) := by decide +kernel
theorem dX12_links_0 : decode cX12_links 0 = .ok (.aload_n 0, 1) := by decide +kernel
theorem dX12_links_1 : decode cX12_links 1 = .ok (.iload_n 1, 1) := by decide +kernel
theorem dX12_links_2 : decode cX12_links 2 = .ok (.iload_n 2, 1) := by decide +kernel
theorem dX12_links_3 : decode cX12_links 3 = .ok (.invokevirtual 413, 3) := by decide +kernel
theorem dX12_links_6 : decode cX12_links 6 = .ok (.ifCond .ne 5, 3) := by decide +kernel
theorem dX12_links_9 : decode cX12_links 9 = .ok (.iconst (-1), 1) := by decide +kernel
theorem dX12_links_10 : decode cX12_links 10 = .ok (.ireturn, 1) := by decide +kernel
theorem dX12_links_11 : decode cX12_links 11 = .ok (.aload_n 0, 1) := by decide +kernel
theorem dX12_links_12 : decode cX12_links 12 = .ok (.invokevirtual 397, 3) := by decide +kernel
theorem dX12_links_15 : decode cX12_links 15 = .ok (.iconst 1, 1) := by decide +kernel
theorem dX12_links_16 : decode cX12_links 16 = .ok (.iload_n 1, 1) := by decide +kernel
theorem dX12_links_17 : decode cX12_links 17 = .ok (.ishl, 1) := by decide +kernel
theorem dX12_links_18 : decode cX12_links 18 = .ok (.istore_n 3, 1) := by decide +kernel
theorem dX12_links_19 : decode cX12_links 19 = .ok (.iconst 1, 1) := by decide +kernel
theorem dX12_links_20 : decode cX12_links 20 = .ok (.istore 4, 2) := by decide +kernel
theorem dX12_links_22 : decode cX12_links 22 = .ok (.iload 4, 2) := by decide +kernel
theorem dX12_links_24 : decode cX12_links 24 = .ok (.bipush 7, 2) := by decide +kernel
theorem dX12_links_26 : decode cX12_links 26 = .ok (.if_icmp .ge 27, 3) := by decide +kernel
theorem dX12_links_29 : decode cX12_links 29 = .ok (.aload_n 0, 1) := by decide +kernel
theorem dX12_links_30 : decode cX12_links 30 = .ok (.iload_n 3, 1) := by decide +kernel
theorem dX12_links_31 : decode cX12_links 31 = .ok (.invokevirtual 467, 3) := by decide +kernel
theorem dX12_links_34 : decode cX12_links 34 = .ok (.istore_n 3, 1) := by decide +kernel
theorem dX12_links_35 : decode cX12_links 35 = .ok (.iload_n 3, 1) := by decide +kernel
theorem dX12_links_36 : decode cX12_links 36 = .ok (.iload_n 2, 1) := by decide +kernel
theorem dX12_links_37 : decode cX12_links 37 = .ok (.ishr, 1) := by decide +kernel
theorem dX12_links_38 : decode cX12_links 38 = .ok (.iconst 1, 1) := by decide +kernel
theorem dX12_links_39 : decode cX12_links 39 = .ok (.iand, 1) := by decide +kernel
theorem dX12_links_40 : decode cX12_links 40 = .ok (.iconst 1, 1) := by decide +kernel
theorem dX12_links_41 : decode cX12_links 41 = .ok (.if_icmp .ne 6, 3) := by decide +kernel
theorem dX12_links_44 : decode cX12_links 44 = .ok (.iload 4, 2) := by decide +kernel
theorem dX12_links_46 : decode cX12_links 46 = .ok (.ireturn, 1) := by decide +kernel
theorem dX12_links_47 : decode cX12_links 47 = .ok (.iinc 4 1, 3) := by decide +kernel
theorem dX12_links_50 : decode cX12_links 50 = .ok (.goto (-28), 3) := by decide +kernel
theorem dX12_links_53 : decode cX12_links 53 = .ok (.bipush (-2), 2) := by decide +kernel
theorem dX12_links_55 : decode cX12_links 55 = .ok (.ireturn, 1) := by decide +kernel
theorem dX12_rounds_0 : decode cX12_rounds 0 = .ok (.aload_n 0, 1) := by decide +kernel
theorem dX12_rounds_1 : decode cX12_rounds 1 = .ok (.invokevirtual 397, 3) := by decide +kernel
theorem dX12_rounds_4 : decode cX12_rounds 4 = .ok (.aload_n 0, 1) := by decide +kernel
theorem dX12_rounds_5 : decode cX12_rounds 5 = .ok (.invokevirtual 416, 3) := by decide +kernel
theorem dX12_rounds_8 : decode cX12_rounds 8 = .ok (.istore_n 1, 1) := by decide +kernel
theorem dX12_rounds_9 : decode cX12_rounds 9 = .ok (.iconst 0, 1) := by decide +kernel
theorem dX12_rounds_10 : decode cX12_rounds 10 = .ok (.istore_n 2, 1) := by decide +kernel
theorem dX12_rounds_11 : decode cX12_rounds 11 = .ok (.iload_n 1, 1) := by decide +kernel
theorem dX12_rounds_12 : decode cX12_rounds 12 = .ok (.ifCond .eq 42, 3) := by decide +kernel
theorem dX12_rounds_15 : decode cX12_rounds 15 = .ok (.iload_n 1, 1) := by decide +kernel
theorem dX12_rounds_16 : decode cX12_rounds 16 = .ok (.iload_n 1, 1) := by decide +kernel
theorem dX12_rounds_17 : decode cX12_rounds 17 = .ok (.ineg, 1) := by decide +kernel
theorem dX12_rounds_18 : decode cX12_rounds 18 = .ok (.iand, 1) := by decide +kernel
theorem dX12_rounds_19 : decode cX12_rounds 19 = .ok (.istore_n 3, 1) := by decide +kernel
theorem dX12_rounds_20 : decode cX12_rounds 20 = .ok (.iconst 0, 1) := by decide +kernel
theorem dX12_rounds_21 : decode cX12_rounds 21 = .ok (.istore 4, 2) := by decide +kernel
theorem dX12_rounds_23 : decode cX12_rounds 23 = .ok (.iload 4, 2) := by decide +kernel
theorem dX12_rounds_25 : decode cX12_rounds 25 = .ok (.bipush 7, 2) := by decide +kernel
theorem dX12_rounds_27 : decode cX12_rounds 27 = .ok (.if_icmp .ge 15, 3) := by decide +kernel
theorem dX12_rounds_30 : decode cX12_rounds 30 = .ok (.aload_n 0, 1) := by decide +kernel
theorem dX12_rounds_31 : decode cX12_rounds 31 = .ok (.iload_n 3, 1) := by decide +kernel
theorem dX12_rounds_32 : decode cX12_rounds 32 = .ok (.invokevirtual 467, 3) := by decide +kernel
theorem dX12_rounds_35 : decode cX12_rounds 35 = .ok (.istore_n 3, 1) := by decide +kernel
theorem dX12_rounds_36 : decode cX12_rounds 36 = .ok (.iinc 4 1, 3) := by decide +kernel
theorem dX12_rounds_39 : decode cX12_rounds 39 = .ok (.goto (-16), 3) := by decide +kernel
theorem dX12_rounds_42 : decode cX12_rounds 42 = .ok (.iload_n 1, 1) := by decide +kernel
theorem dX12_rounds_43 : decode cX12_rounds 43 = .ok (.iload_n 3, 1) := by decide +kernel
theorem dX12_rounds_44 : decode cX12_rounds 44 = .ok (.iconst (-1), 1) := by decide +kernel
theorem dX12_rounds_45 : decode cX12_rounds 45 = .ok (.ixor, 1) := by decide +kernel
theorem dX12_rounds_46 : decode cX12_rounds 46 = .ok (.iand, 1) := by decide +kernel
theorem dX12_rounds_47 : decode cX12_rounds 47 = .ok (.istore_n 1, 1) := by decide +kernel
theorem dX12_rounds_48 : decode cX12_rounds 48 = .ok (.iinc 2 1, 3) := by decide +kernel
theorem dX12_rounds_51 : decode cX12_rounds 51 = .ok (.goto (-40), 3) := by decide +kernel
theorem dX12_rounds_54 : decode cX12_rounds 54 = .ok (.iload_n 2, 1) := by decide +kernel
theorem dX12_rounds_55 : decode cX12_rounds 55 = .ok (.ireturn, 1) := by decide +kernel
theorem dX12_comesTo_0 : decode cX12_comesTo 0 = .ok (.aload_n 0, 1) := by decide +kernel
theorem dX12_comesTo_1 : decode cX12_comesTo 1 = .ok (.getfield 52, 3) := by decide +kernel
theorem dX12_comesTo_4 : decode cX12_comesTo 4 = .ok (.bipush 7, 2) := by decide +kernel
theorem dX12_comesTo_6 : decode cX12_comesTo 6 = .ok (.aload_n 0, 1) := by decide +kernel
theorem dX12_comesTo_7 : decode cX12_comesTo 7 = .ok (.getfield 258, 3) := by decide +kernel
theorem dX12_comesTo_10 : decode cX12_comesTo 10 = .ok (.imul, 1) := by decide +kernel
theorem dX12_comesTo_11 : decode cX12_comesTo 11 = .ok (.iload_n 1, 1) := by decide +kernel
theorem dX12_comesTo_12 : decode cX12_comesTo 12 = .ok (.iadd, 1) := by decide +kernel
theorem dX12_comesTo_13 : decode cX12_comesTo 13 = .ok (.iaload, 1) := by decide +kernel
theorem dX12_comesTo_14 : decode cX12_comesTo 14 = .ok (.istore 4, 2) := by decide +kernel
theorem dX12_comesTo_16 : decode cX12_comesTo 16 = .ok (.aload_n 0, 1) := by decide +kernel
theorem dX12_comesTo_17 : decode cX12_comesTo 17 = .ok (.getfield 55, 3) := by decide +kernel
theorem dX12_comesTo_20 : decode cX12_comesTo 20 = .ok (.bipush 7, 2) := by decide +kernel
theorem dX12_comesTo_22 : decode cX12_comesTo 22 = .ok (.aload_n 0, 1) := by decide +kernel
theorem dX12_comesTo_23 : decode cX12_comesTo 23 = .ok (.getfield 258, 3) := by decide +kernel
theorem dX12_comesTo_26 : decode cX12_comesTo 26 = .ok (.imul, 1) := by decide +kernel
theorem dX12_comesTo_27 : decode cX12_comesTo 27 = .ok (.iload_n 1, 1) := by decide +kernel
theorem dX12_comesTo_28 : decode cX12_comesTo 28 = .ok (.iadd, 1) := by decide +kernel
theorem dX12_comesTo_29 : decode cX12_comesTo 29 = .ok (.iaload, 1) := by decide +kernel
theorem dX12_comesTo_30 : decode cX12_comesTo 30 = .ok (.istore 5, 2) := by decide +kernel
theorem dX12_comesTo_32 : decode cX12_comesTo 32 = .ok (.aload_n 0, 1) := by decide +kernel
theorem dX12_comesTo_33 : decode cX12_comesTo 33 = .ok (.getfield 131, 3) := by decide +kernel
theorem dX12_comesTo_36 : decode cX12_comesTo 36 = .ok (.bipush 14, 2) := by decide +kernel
theorem dX12_comesTo_38 : decode cX12_comesTo 38 = .ok (.iload_n 1, 1) := by decide +kernel
theorem dX12_comesTo_39 : decode cX12_comesTo 39 = .ok (.iadd, 1) := by decide +kernel
theorem dX12_comesTo_40 : decode cX12_comesTo 40 = .ok (.iaload, 1) := by decide +kernel
theorem dX12_comesTo_41 : decode cX12_comesTo 41 = .ok (.ifCond .le 17, 3) := by decide +kernel
theorem dX12_comesTo_44 : decode cX12_comesTo 44 = .ok (.iload 4, 2) := by decide +kernel
theorem dX12_comesTo_46 : decode cX12_comesTo 46 = .ok (.iload_n 2, 1) := by decide +kernel
theorem dX12_comesTo_47 : decode cX12_comesTo 47 = .ok (.if_icmp .ne 11, 3) := by decide +kernel
theorem dX12_comesTo_50 : decode cX12_comesTo 50 = .ok (.iload 5, 2) := by decide +kernel
theorem dX12_comesTo_52 : decode cX12_comesTo 52 = .ok (.iload_n 3, 1) := by decide +kernel
theorem dX12_comesTo_53 : decode cX12_comesTo 53 = .ok (.if_icmp .ne 5, 3) := by decide +kernel
theorem dX12_comesTo_56 : decode cX12_comesTo 56 = .ok (.iconst 1, 1) := by decide +kernel
theorem dX12_comesTo_57 : decode cX12_comesTo 57 = .ok (.ireturn, 1) := by decide +kernel
theorem dX12_comesTo_58 : decode cX12_comesTo 58 = .ok (.iconst 0, 1) := by decide +kernel
theorem dX12_comesTo_59 : decode cX12_comesTo 59 = .ok (.istore 6, 2) := by decide +kernel
theorem dX12_comesTo_61 : decode cX12_comesTo 61 = .ok (.iload 6, 2) := by decide +kernel
theorem dX12_comesTo_63 : decode cX12_comesTo 63 = .ok (.aload_n 0, 1) := by decide +kernel
theorem dX12_comesTo_64 : decode cX12_comesTo 64 = .ok (.getfield 131, 3) := by decide +kernel
theorem dX12_comesTo_67 : decode cX12_comesTo 67 = .ok (.bipush 14, 2) := by decide +kernel
theorem dX12_comesTo_69 : decode cX12_comesTo 69 = .ok (.iload_n 1, 1) := by decide +kernel
theorem dX12_comesTo_70 : decode cX12_comesTo 70 = .ok (.iadd, 1) := by decide +kernel
theorem dX12_comesTo_71 : decode cX12_comesTo 71 = .ok (.iaload, 1) := by decide +kernel
theorem dX12_comesTo_72 : decode cX12_comesTo 72 = .ok (.if_icmp .ge 69, 3) := by decide +kernel
theorem dX12_comesTo_75 : decode cX12_comesTo 75 = .ok (.iload 4, 2) := by decide +kernel
theorem dX12_comesTo_77 : decode cX12_comesTo 77 = .ok (.aload_n 0, 1) := by decide +kernel
theorem dX12_comesTo_78 : decode cX12_comesTo 78 = .ok (.getfield 131, 3) := by decide +kernel
theorem dX12_comesTo_81 : decode cX12_comesTo 81 = .ok (.bipush 30, 2) := by decide +kernel
theorem dX12_comesTo_83 : decode cX12_comesTo 83 = .ok (.bipush 60, 2) := by decide +kernel
theorem dX12_comesTo_85 : decode cX12_comesTo 85 = .ok (.iload_n 1, 1) := by decide +kernel
theorem dX12_comesTo_86 : decode cX12_comesTo 86 = .ok (.imul, 1) := by decide +kernel
theorem dX12_comesTo_87 : decode cX12_comesTo 87 = .ok (.iadd, 1) := by decide +kernel
theorem dX12_comesTo_88 : decode cX12_comesTo 88 = .ok (.iload 6, 2) := by decide +kernel
theorem dX12_comesTo_90 : decode cX12_comesTo 90 = .ok (.iadd, 1) := by decide +kernel
theorem dX12_comesTo_91 : decode cX12_comesTo 91 = .ok (.iaload, 1) := by decide +kernel
theorem dX12_comesTo_92 : decode cX12_comesTo 92 = .ok (.invokestatic 368, 3) := by decide +kernel
theorem dX12_comesTo_95 : decode cX12_comesTo 95 = .ok (.iadd, 1) := by decide +kernel
theorem dX12_comesTo_96 : decode cX12_comesTo 96 = .ok (.istore 4, 2) := by decide +kernel
theorem dX12_comesTo_98 : decode cX12_comesTo 98 = .ok (.iload 5, 2) := by decide +kernel
theorem dX12_comesTo_100 : decode cX12_comesTo 100 = .ok (.aload_n 0, 1) := by decide +kernel
theorem dX12_comesTo_101 : decode cX12_comesTo 101 = .ok (.getfield 131, 3) := by decide +kernel
theorem dX12_comesTo_104 : decode cX12_comesTo 104 = .ok (.bipush 30, 2) := by decide +kernel
theorem dX12_comesTo_106 : decode cX12_comesTo 106 = .ok (.bipush 60, 2) := by decide +kernel
theorem dX12_comesTo_108 : decode cX12_comesTo 108 = .ok (.iload_n 1, 1) := by decide +kernel
theorem dX12_comesTo_109 : decode cX12_comesTo 109 = .ok (.imul, 1) := by decide +kernel
theorem dX12_comesTo_110 : decode cX12_comesTo 110 = .ok (.iadd, 1) := by decide +kernel
theorem dX12_comesTo_111 : decode cX12_comesTo 111 = .ok (.iload 6, 2) := by decide +kernel
theorem dX12_comesTo_113 : decode cX12_comesTo 113 = .ok (.iadd, 1) := by decide +kernel
theorem dX12_comesTo_114 : decode cX12_comesTo 114 = .ok (.iaload, 1) := by decide +kernel
theorem dX12_comesTo_115 : decode cX12_comesTo 115 = .ok (.invokestatic 371, 3) := by decide +kernel
theorem dX12_comesTo_118 : decode cX12_comesTo 118 = .ok (.iadd, 1) := by decide +kernel
theorem dX12_comesTo_119 : decode cX12_comesTo 119 = .ok (.istore 5, 2) := by decide +kernel
theorem dX12_comesTo_121 : decode cX12_comesTo 121 = .ok (.iload 4, 2) := by decide +kernel
theorem dX12_comesTo_123 : decode cX12_comesTo 123 = .ok (.iload_n 2, 1) := by decide +kernel
theorem dX12_comesTo_124 : decode cX12_comesTo 124 = .ok (.if_icmp .ne 11, 3) := by decide +kernel
theorem dX12_comesTo_127 : decode cX12_comesTo 127 = .ok (.iload 5, 2) := by decide +kernel
theorem dX12_comesTo_129 : decode cX12_comesTo 129 = .ok (.iload_n 3, 1) := by decide +kernel
theorem dX12_comesTo_130 : decode cX12_comesTo 130 = .ok (.if_icmp .ne 5, 3) := by decide +kernel
theorem dX12_comesTo_133 : decode cX12_comesTo 133 = .ok (.iconst 1, 1) := by decide +kernel
theorem dX12_comesTo_134 : decode cX12_comesTo 134 = .ok (.ireturn, 1) := by decide +kernel
theorem dX12_comesTo_135 : decode cX12_comesTo 135 = .ok (.iinc 6 1, 3) := by decide +kernel
theorem dX12_comesTo_138 : decode cX12_comesTo 138 = .ok (.goto (-77), 3) := by decide +kernel
theorem dX12_comesTo_141 : decode cX12_comesTo 141 = .ok (.iconst 0, 1) := by decide +kernel
theorem dX12_comesTo_142 : decode cX12_comesTo 142 = .ok (.ireturn, 1) := by decide +kernel
theorem dX12_crowd_0 : decode cX12_crowd 0 = .ok (.iload_n 1, 1) := by decide +kernel
theorem dX12_crowd_1 : decode cX12_crowd 1 = .ok (.iconst 0, 1) := by decide +kernel
theorem dX12_crowd_2 : decode cX12_crowd 2 = .ok (.iconst 1, 1) := by decide +kernel
theorem dX12_crowd_3 : decode cX12_crowd 3 = .ok (.invokestatic 345, 3) := by decide +kernel
theorem dX12_crowd_6 : decode cX12_crowd 6 = .ok (.ifCond .ne 5, 3) := by decide +kernel
theorem dX12_crowd_9 : decode cX12_crowd 9 = .ok (.iconst (-1), 1) := by decide +kernel
theorem dX12_crowd_10 : decode cX12_crowd 10 = .ok (.ireturn, 1) := by decide +kernel
theorem dX12_crowd_11 : decode cX12_crowd 11 = .ok (.aload_n 0, 1) := by decide +kernel
theorem dX12_crowd_12 : decode cX12_crowd 12 = .ok (.invokevirtual 397, 3) := by decide +kernel
theorem dX12_crowd_15 : decode cX12_crowd 15 = .ok (.bipush (-2), 2) := by decide +kernel
theorem dX12_crowd_17 : decode cX12_crowd 17 = .ok (.istore_n 2, 1) := by decide +kernel
theorem dX12_crowd_18 : decode cX12_crowd 18 = .ok (.iconst 0, 1) := by decide +kernel
theorem dX12_crowd_19 : decode cX12_crowd 19 = .ok (.istore_n 3, 1) := by decide +kernel
theorem dX12_crowd_20 : decode cX12_crowd 20 = .ok (.iconst 0, 1) := by decide +kernel
theorem dX12_crowd_21 : decode cX12_crowd 21 = .ok (.istore 4, 2) := by decide +kernel
theorem dX12_crowd_23 : decode cX12_crowd 23 = .ok (.iload 4, 2) := by decide +kernel
theorem dX12_crowd_25 : decode cX12_crowd 25 = .ok (.aload_n 0, 1) := by decide +kernel
theorem dX12_crowd_26 : decode cX12_crowd 26 = .ok (.getfield 46, 3) := by decide +kernel
theorem dX12_crowd_29 : decode cX12_crowd 29 = .ok (.aload_n 0, 1) := by decide +kernel
theorem dX12_crowd_30 : decode cX12_crowd 30 = .ok (.getfield 258, 3) := by decide +kernel
theorem dX12_crowd_33 : decode cX12_crowd 33 = .ok (.iaload, 1) := by decide +kernel
theorem dX12_crowd_34 : decode cX12_crowd 34 = .ok (.if_icmp .ge 95, 3) := by decide +kernel
theorem dX12_crowd_37 : decode cX12_crowd 37 = .ok (.iconst 0, 1) := by decide +kernel
theorem dX12_crowd_38 : decode cX12_crowd 38 = .ok (.istore 5, 2) := by decide +kernel
theorem dX12_crowd_40 : decode cX12_crowd 40 = .ok (.iload 5, 2) := by decide +kernel
theorem dX12_crowd_42 : decode cX12_crowd 42 = .ok (.aload_n 0, 1) := by decide +kernel
theorem dX12_crowd_43 : decode cX12_crowd 43 = .ok (.getfield 43, 3) := by decide +kernel
theorem dX12_crowd_46 : decode cX12_crowd 46 = .ok (.aload_n 0, 1) := by decide +kernel
theorem dX12_crowd_47 : decode cX12_crowd 47 = .ok (.getfield 258, 3) := by decide +kernel
theorem dX12_crowd_50 : decode cX12_crowd 50 = .ok (.iaload, 1) := by decide +kernel
theorem dX12_crowd_51 : decode cX12_crowd 51 = .ok (.if_icmp .ge 72, 3) := by decide +kernel
theorem dX12_crowd_54 : decode cX12_crowd 54 = .ok (.iconst 0, 1) := by decide +kernel
theorem dX12_crowd_55 : decode cX12_crowd 55 = .ok (.istore 6, 2) := by decide +kernel
theorem dX12_crowd_57 : decode cX12_crowd 57 = .ok (.iconst 0, 1) := by decide +kernel
theorem dX12_crowd_58 : decode cX12_crowd 58 = .ok (.istore 7, 2) := by decide +kernel
theorem dX12_crowd_60 : decode cX12_crowd 60 = .ok (.iload 7, 2) := by decide +kernel
theorem dX12_crowd_62 : decode cX12_crowd 62 = .ok (.aload_n 0, 1) := by decide +kernel
theorem dX12_crowd_63 : decode cX12_crowd 63 = .ok (.getfield 49, 3) := by decide +kernel
theorem dX12_crowd_66 : decode cX12_crowd 66 = .ok (.aload_n 0, 1) := by decide +kernel
theorem dX12_crowd_67 : decode cX12_crowd 67 = .ok (.getfield 258, 3) := by decide +kernel
theorem dX12_crowd_70 : decode cX12_crowd 70 = .ok (.iaload, 1) := by decide +kernel
theorem dX12_crowd_71 : decode cX12_crowd 71 = .ok (.if_icmp .ge 25, 3) := by decide +kernel
theorem dX12_crowd_74 : decode cX12_crowd 74 = .ok (.aload_n 0, 1) := by decide +kernel
theorem dX12_crowd_75 : decode cX12_crowd 75 = .ok (.iload 7, 2) := by decide +kernel
theorem dX12_crowd_77 : decode cX12_crowd 77 = .ok (.iload 5, 2) := by decide +kernel
theorem dX12_crowd_79 : decode cX12_crowd 79 = .ok (.iload 4, 2) := by decide +kernel
theorem dX12_crowd_81 : decode cX12_crowd 81 = .ok (.invokevirtual 470, 3) := by decide +kernel
theorem dX12_crowd_84 : decode cX12_crowd 84 = .ok (.ifCond .eq 6, 3) := by decide +kernel
theorem dX12_crowd_87 : decode cX12_crowd 87 = .ok (.iinc 6 1, 3) := by decide +kernel
theorem dX12_crowd_90 : decode cX12_crowd 90 = .ok (.iinc 7 1, 3) := by decide +kernel
theorem dX12_crowd_93 : decode cX12_crowd 93 = .ok (.goto (-33), 3) := by decide +kernel
theorem dX12_crowd_96 : decode cX12_crowd 96 = .ok (.iload 6, 2) := by decide +kernel
theorem dX12_crowd_98 : decode cX12_crowd 98 = .ok (.iload_n 3, 1) := by decide +kernel
theorem dX12_crowd_99 : decode cX12_crowd 99 = .ok (.if_icmp .gt 6, 3) := by decide +kernel
theorem dX12_crowd_102 : decode cX12_crowd 102 = .ok (.goto 15, 3) := by decide +kernel
theorem dX12_crowd_105 : decode cX12_crowd 105 = .ok (.bipush 100, 2) := by decide +kernel
theorem dX12_crowd_107 : decode cX12_crowd 107 = .ok (.iload 4, 2) := by decide +kernel
theorem dX12_crowd_109 : decode cX12_crowd 109 = .ok (.imul, 1) := by decide +kernel
theorem dX12_crowd_110 : decode cX12_crowd 110 = .ok (.iload 5, 2) := by decide +kernel
theorem dX12_crowd_112 : decode cX12_crowd 112 = .ok (.iadd, 1) := by decide +kernel
theorem dX12_crowd_113 : decode cX12_crowd 113 = .ok (.istore_n 2, 1) := by decide +kernel
theorem dX12_crowd_114 : decode cX12_crowd 114 = .ok (.iload 6, 2) := by decide +kernel
theorem dX12_crowd_116 : decode cX12_crowd 116 = .ok (.istore_n 3, 1) := by decide +kernel
theorem dX12_crowd_117 : decode cX12_crowd 117 = .ok (.iinc 5 1, 3) := by decide +kernel
theorem dX12_crowd_120 : decode cX12_crowd 120 = .ok (.goto (-80), 3) := by decide +kernel
theorem dX12_crowd_123 : decode cX12_crowd 123 = .ok (.iinc 4 1, 3) := by decide +kernel
theorem dX12_crowd_126 : decode cX12_crowd 126 = .ok (.goto (-103), 3) := by decide +kernel
theorem dX12_crowd_129 : decode cX12_crowd 129 = .ok (.iload_n 2, 1) := by decide +kernel
theorem dX12_crowd_130 : decode cX12_crowd 130 = .ok (.ifCond .lt 7, 3) := by decide +kernel
theorem dX12_crowd_133 : decode cX12_crowd 133 = .ok (.iload_n 1, 1) := by decide +kernel
theorem dX12_crowd_134 : decode cX12_crowd 134 = .ok (.ifCond .ne 7, 3) := by decide +kernel
theorem dX12_crowd_137 : decode cX12_crowd 137 = .ok (.iload_n 2, 1) := by decide +kernel
theorem dX12_crowd_138 : decode cX12_crowd 138 = .ok (.goto 4, 3) := by decide +kernel
theorem dX12_crowd_141 : decode cX12_crowd 141 = .ok (.iload_n 3, 1) := by decide +kernel
theorem dX12_crowd_142 : decode cX12_crowd 142 = .ok (.ireturn, 1) := by decide +kernel
theorem dX12_walks_0 : decode cX12_walks 0 = .ok (.sipush 288, 3) := by decide +kernel
theorem dX12_walks_3 : decode cX12_walks 3 = .ok (.iconst 2, 1) := by decide +kernel
theorem dX12_walks_4 : decode cX12_walks 4 = .ok (.iload_n 1, 1) := by decide +kernel
theorem dX12_walks_5 : decode cX12_walks 5 = .ok (.imul, 1) := by decide +kernel
theorem dX12_walks_6 : decode cX12_walks 6 = .ok (.iload_n 2, 1) := by decide +kernel
theorem dX12_walks_7 : decode cX12_walks 7 = .ok (.iadd, 1) := by decide +kernel
theorem dX12_walks_8 : decode cX12_walks 8 = .ok (.imul, 1) := by decide +kernel
theorem dX12_walks_9 : decode cX12_walks 9 = .ok (.istore_n 3, 1) := by decide +kernel
theorem dX12_walks_10 : decode cX12_walks 10 = .ok (.iconst 0, 1) := by decide +kernel
theorem dX12_walks_11 : decode cX12_walks 11 = .ok (.istore 4, 2) := by decide +kernel
theorem dX12_walks_13 : decode cX12_walks 13 = .ok (.iload 4, 2) := by decide +kernel
theorem dX12_walks_15 : decode cX12_walks 15 = .ok (.sipush 288, 3) := by decide +kernel
theorem dX12_walks_18 : decode cX12_walks 18 = .ok (.if_icmp .ge 19, 3) := by decide +kernel
theorem dX12_walks_21 : decode cX12_walks 21 = .ok (.aload_n 0, 1) := by decide +kernel
theorem dX12_walks_22 : decode cX12_walks 22 = .ok (.getfield 156, 3) := by decide +kernel
theorem dX12_walks_25 : decode cX12_walks 25 = .ok (.iload_n 3, 1) := by decide +kernel
theorem dX12_walks_26 : decode cX12_walks 26 = .ok (.iload 4, 2) := by decide +kernel
theorem dX12_walks_28 : decode cX12_walks 28 = .ok (.iadd, 1) := by decide +kernel
theorem dX12_walks_29 : decode cX12_walks 29 = .ok (.iconst 0, 1) := by decide +kernel
theorem dX12_walks_30 : decode cX12_walks 30 = .ok (.iastore, 1) := by decide +kernel
theorem dX12_walks_31 : decode cX12_walks 31 = .ok (.iinc 4 1, 3) := by decide +kernel
theorem dX12_walks_34 : decode cX12_walks 34 = .ok (.goto (-21), 3) := by decide +kernel
theorem dX12_walks_37 : decode cX12_walks 37 = .ok (.aload_n 0, 1) := by decide +kernel
theorem dX12_walks_38 : decode cX12_walks 38 = .ok (.iload_n 1, 1) := by decide +kernel
theorem dX12_walks_39 : decode cX12_walks 39 = .ok (.invokevirtual 434, 3) := by decide +kernel
theorem dX12_walks_42 : decode cX12_walks 42 = .ok (.pop, 1) := by decide +kernel
theorem dX12_walks_43 : decode cX12_walks 43 = .ok (.aload_n 0, 1) := by decide +kernel
theorem dX12_walks_44 : decode cX12_walks 44 = .ok (.getfield 52, 3) := by decide +kernel
theorem dX12_walks_47 : decode cX12_walks 47 = .ok (.bipush 7, 2) := by decide +kernel
theorem dX12_walks_49 : decode cX12_walks 49 = .ok (.aload_n 0, 1) := by decide +kernel
theorem dX12_walks_50 : decode cX12_walks 50 = .ok (.getfield 258, 3) := by decide +kernel
theorem dX12_walks_53 : decode cX12_walks 53 = .ok (.imul, 1) := by decide +kernel
theorem dX12_walks_54 : decode cX12_walks 54 = .ok (.iload_n 1, 1) := by decide +kernel
theorem dX12_walks_55 : decode cX12_walks 55 = .ok (.iadd, 1) := by decide +kernel
theorem dX12_walks_56 : decode cX12_walks 56 = .ok (.iaload, 1) := by decide +kernel
theorem dX12_walks_57 : decode cX12_walks 57 = .ok (.istore 4, 2) := by decide +kernel
theorem dX12_walks_59 : decode cX12_walks 59 = .ok (.aload_n 0, 1) := by decide +kernel
theorem dX12_walks_60 : decode cX12_walks 60 = .ok (.getfield 55, 3) := by decide +kernel
theorem dX12_walks_63 : decode cX12_walks 63 = .ok (.bipush 7, 2) := by decide +kernel
theorem dX12_walks_65 : decode cX12_walks 65 = .ok (.aload_n 0, 1) := by decide +kernel
theorem dX12_walks_66 : decode cX12_walks 66 = .ok (.getfield 258, 3) := by decide +kernel
theorem dX12_walks_69 : decode cX12_walks 69 = .ok (.imul, 1) := by decide +kernel
theorem dX12_walks_70 : decode cX12_walks 70 = .ok (.iload_n 1, 1) := by decide +kernel
theorem dX12_walks_71 : decode cX12_walks 71 = .ok (.iadd, 1) := by decide +kernel
theorem dX12_walks_72 : decode cX12_walks 72 = .ok (.iaload, 1) := by decide +kernel
theorem dX12_walks_73 : decode cX12_walks 73 = .ok (.istore 5, 2) := by decide +kernel
theorem dX12_walks_75 : decode cX12_walks 75 = .ok (.iconst 0, 1) := by decide +kernel
theorem dX12_walks_76 : decode cX12_walks 76 = .ok (.istore 6, 2) := by decide +kernel
theorem dX12_walks_78 : decode cX12_walks 78 = .ok (.iload 6, 2) := by decide +kernel
theorem dX12_walks_80 : decode cX12_walks 80 = .ok (.aload_n 0, 1) := by decide +kernel
theorem dX12_walks_81 : decode cX12_walks 81 = .ok (.getfield 61, 3) := by decide +kernel
theorem dX12_walks_84 : decode cX12_walks 84 = .ok (.bipush 7, 2) := by decide +kernel
theorem dX12_walks_86 : decode cX12_walks 86 = .ok (.aload_n 0, 1) := by decide +kernel
theorem dX12_walks_87 : decode cX12_walks 87 = .ok (.getfield 258, 3) := by decide +kernel
theorem dX12_walks_90 : decode cX12_walks 90 = .ok (.imul, 1) := by decide +kernel
theorem dX12_walks_91 : decode cX12_walks 91 = .ok (.iload_n 1, 1) := by decide +kernel
theorem dX12_walks_92 : decode cX12_walks 92 = .ok (.iadd, 1) := by decide +kernel
theorem dX12_walks_93 : decode cX12_walks 93 = .ok (.iaload, 1) := by decide +kernel
theorem dX12_walks_94 : decode cX12_walks 94 = .ok (.if_icmp .ge 178, 3) := by decide +kernel
theorem dX12_walks_97 : decode cX12_walks 97 = .ok (.bipush 42, 2) := by decide +kernel
theorem dX12_walks_99 : decode cX12_walks 99 = .ok (.aload_n 0, 1) := by decide +kernel
theorem dX12_walks_100 : decode cX12_walks 100 = .ok (.getfield 258, 3) := by decide +kernel
theorem dX12_walks_103 : decode cX12_walks 103 = .ok (.imul, 1) := by decide +kernel
theorem dX12_walks_104 : decode cX12_walks 104 = .ok (.bipush 6, 2) := by decide +kernel
theorem dX12_walks_106 : decode cX12_walks 106 = .ok (.iload_n 1, 1) := by decide +kernel
theorem dX12_walks_107 : decode cX12_walks 107 = .ok (.imul, 1) := by decide +kernel
theorem dX12_walks_108 : decode cX12_walks 108 = .ok (.iadd, 1) := by decide +kernel
theorem dX12_walks_109 : decode cX12_walks 109 = .ok (.aload_n 0, 1) := by decide +kernel
theorem dX12_walks_110 : decode cX12_walks 110 = .ok (.getfield 150, 3) := by decide +kernel
theorem dX12_walks_113 : decode cX12_walks 113 = .ok (.iload 6, 2) := by decide +kernel
theorem dX12_walks_115 : decode cX12_walks 115 = .ok (.iaload, 1) := by decide +kernel
theorem dX12_walks_116 : decode cX12_walks 116 = .ok (.iadd, 1) := by decide +kernel
theorem dX12_walks_117 : decode cX12_walks 117 = .ok (.istore 7, 2) := by decide +kernel
theorem dX12_walks_119 : decode cX12_walks 119 = .ok (.iconst 0, 1) := by decide +kernel
theorem dX12_walks_120 : decode cX12_walks 120 = .ok (.istore 8, 2) := by decide +kernel
theorem dX12_walks_122 : decode cX12_walks 122 = .ok (.iload 8, 2) := by decide +kernel
theorem dX12_walks_124 : decode cX12_walks 124 = .ok (.iconst 2, 1) := by decide +kernel
theorem dX12_walks_125 : decode cX12_walks 125 = .ok (.if_icmp .ge 141, 3) := by decide +kernel
theorem dX12_walks_128 : decode cX12_walks 128 = .ok (.iload 8, 2) := by decide +kernel
theorem dX12_walks_130 : decode cX12_walks 130 = .ok (.iload_n 2, 1) := by decide +kernel
theorem dX12_walks_131 : decode cX12_walks 131 = .ok (.if_icmp .eq 7, 3) := by decide +kernel
theorem dX12_walks_134 : decode cX12_walks 134 = .ok (.iconst 1, 1) := by decide +kernel
theorem dX12_walks_135 : decode cX12_walks 135 = .ok (.goto 4, 3) := by decide +kernel
theorem dX12_walks_138 : decode cX12_walks 138 = .ok (.iconst 0, 1) := by decide +kernel
theorem dX12_walks_139 : decode cX12_walks 139 = .ok (.istore 9, 2) := by decide +kernel
theorem dX12_walks_141 : decode cX12_walks 141 = .ok (.iload 9, 2) := by decide +kernel
theorem dX12_walks_143 : decode cX12_walks 143 = .ok (.ifCond .eq 18, 3) := by decide +kernel
theorem dX12_walks_146 : decode cX12_walks 146 = .ok (.iload 5, 2) := by decide +kernel
theorem dX12_walks_148 : decode cX12_walks 148 = .ok (.aload_n 0, 1) := by decide +kernel
theorem dX12_walks_149 : decode cX12_walks 149 = .ok (.getfield 67, 3) := by decide +kernel
theorem dX12_walks_152 : decode cX12_walks 152 = .ok (.iload 7, 2) := by decide +kernel
theorem dX12_walks_154 : decode cX12_walks 154 = .ok (.iaload, 1) := by decide +kernel
theorem dX12_walks_155 : decode cX12_walks 155 = .ok (.if_icmp .eq 105, 3) := by decide +kernel
theorem dX12_walks_158 : decode cX12_walks 158 = .ok (.goto 15, 3) := by decide +kernel
theorem dX12_walks_161 : decode cX12_walks 161 = .ok (.iload 4, 2) := by decide +kernel
theorem dX12_walks_163 : decode cX12_walks 163 = .ok (.aload_n 0, 1) := by decide +kernel
theorem dX12_walks_164 : decode cX12_walks 164 = .ok (.getfield 64, 3) := by decide +kernel
theorem dX12_walks_167 : decode cX12_walks 167 = .ok (.iload 7, 2) := by decide +kernel
theorem dX12_walks_169 : decode cX12_walks 169 = .ok (.iaload, 1) := by decide +kernel
theorem dX12_walks_170 : decode cX12_walks 170 = .ok (.if_icmp .eq 90, 3) := by decide +kernel
theorem dX12_walks_173 : decode cX12_walks 173 = .ok (.iload 9, 2) := by decide +kernel
theorem dX12_walks_175 : decode cX12_walks 175 = .ok (.ifCond .eq 23, 3) := by decide +kernel
theorem dX12_walks_178 : decode cX12_walks 178 = .ok (.iload 5, 2) := by decide +kernel
theorem dX12_walks_180 : decode cX12_walks 180 = .ok (.aload_n 0, 1) := by decide +kernel
theorem dX12_walks_181 : decode cX12_walks 181 = .ok (.getfield 67, 3) := by decide +kernel
theorem dX12_walks_184 : decode cX12_walks 184 = .ok (.iload 7, 2) := by decide +kernel
theorem dX12_walks_186 : decode cX12_walks 186 = .ok (.iaload, 1) := by decide +kernel
theorem dX12_walks_187 : decode cX12_walks 187 = .ok (.if_icmp .ge 7, 3) := by decide +kernel
theorem dX12_walks_190 : decode cX12_walks 190 = .ok (.iconst 1, 1) := by decide +kernel
theorem dX12_walks_191 : decode cX12_walks 191 = .ok (.goto 24, 3) := by decide +kernel
theorem dX12_walks_194 : decode cX12_walks 194 = .ok (.iconst 3, 1) := by decide +kernel
theorem dX12_walks_195 : decode cX12_walks 195 = .ok (.goto 20, 3) := by decide +kernel
theorem dX12_walks_198 : decode cX12_walks 198 = .ok (.iload 4, 2) := by decide +kernel
theorem dX12_walks_200 : decode cX12_walks 200 = .ok (.aload_n 0, 1) := by decide +kernel
theorem dX12_walks_201 : decode cX12_walks 201 = .ok (.getfield 64, 3) := by decide +kernel
theorem dX12_walks_204 : decode cX12_walks 204 = .ok (.iload 7, 2) := by decide +kernel
theorem dX12_walks_206 : decode cX12_walks 206 = .ok (.iaload, 1) := by decide +kernel
theorem dX12_walks_207 : decode cX12_walks 207 = .ok (.if_icmp .ge 7, 3) := by decide +kernel
theorem dX12_walks_210 : decode cX12_walks 210 = .ok (.iconst 2, 1) := by decide +kernel
theorem dX12_walks_211 : decode cX12_walks 211 = .ok (.goto 4, 3) := by decide +kernel
theorem dX12_walks_214 : decode cX12_walks 214 = .ok (.iconst 4, 1) := by decide +kernel
theorem dX12_walks_215 : decode cX12_walks 215 = .ok (.istore 10, 2) := by decide +kernel
theorem dX12_walks_217 : decode cX12_walks 217 = .ok (.aload_n 0, 1) := by decide +kernel
theorem dX12_walks_218 : decode cX12_walks 218 = .ok (.getfield 156, 3) := by decide +kernel
theorem dX12_walks_221 : decode cX12_walks 221 = .ok (.iload_n 3, 1) := by decide +kernel
theorem dX12_walks_222 : decode cX12_walks 222 = .ok (.iload 4, 2) := by decide +kernel
theorem dX12_walks_224 : decode cX12_walks 224 = .ok (.iload 5, 2) := by decide +kernel
theorem dX12_walks_226 : decode cX12_walks 226 = .ok (.iload 10, 2) := by decide +kernel
theorem dX12_walks_228 : decode cX12_walks 228 = .ok (.invokestatic 378, 3) := by decide +kernel
theorem dX12_walks_231 : decode cX12_walks 231 = .ok (.iadd, 1) := by decide +kernel
theorem dX12_walks_232 : decode cX12_walks 232 = .ok (.dup2, 1) := by decide +kernel
theorem dX12_walks_233 : decode cX12_walks 233 = .ok (.iaload, 1) := by decide +kernel
theorem dX12_walks_234 : decode cX12_walks 234 = .ok (.iconst 1, 1) := by decide +kernel
theorem dX12_walks_235 : decode cX12_walks 235 = .ok (.iadd, 1) := by decide +kernel
theorem dX12_walks_236 : decode cX12_walks 236 = .ok (.iastore, 1) := by decide +kernel
theorem dX12_walks_237 : decode cX12_walks 237 = .ok (.iload 4, 2) := by decide +kernel
theorem dX12_walks_239 : decode cX12_walks 239 = .ok (.iload 10, 2) := by decide +kernel
theorem dX12_walks_241 : decode cX12_walks 241 = .ok (.invokestatic 368, 3) := by decide +kernel
theorem dX12_walks_244 : decode cX12_walks 244 = .ok (.iadd, 1) := by decide +kernel
theorem dX12_walks_245 : decode cX12_walks 245 = .ok (.istore 4, 2) := by decide +kernel
theorem dX12_walks_247 : decode cX12_walks 247 = .ok (.iload 5, 2) := by decide +kernel
theorem dX12_walks_249 : decode cX12_walks 249 = .ok (.iload 10, 2) := by decide +kernel
theorem dX12_walks_251 : decode cX12_walks 251 = .ok (.invokestatic 371, 3) := by decide +kernel
theorem dX12_walks_254 : decode cX12_walks 254 = .ok (.iadd, 1) := by decide +kernel
theorem dX12_walks_255 : decode cX12_walks 255 = .ok (.istore 5, 2) := by decide +kernel
theorem dX12_walks_257 : decode cX12_walks 257 = .ok (.goto (-116), 3) := by decide +kernel
theorem dX12_walks_260 : decode cX12_walks 260 = .ok (.iinc 8 1, 3) := by decide +kernel
theorem dX12_walks_263 : decode cX12_walks 263 = .ok (.goto (-141), 3) := by decide +kernel
theorem dX12_walks_266 : decode cX12_walks 266 = .ok (.iinc 6 1, 3) := by decide +kernel
theorem dX12_walks_269 : decode cX12_walks 269 = .ok (.goto (-191), 3) := by decide +kernel
theorem dX12_walks_272 : decode cX12_walks 272 = .ok (.return_, 1) := by decide +kernel
theorem dX12_plain_0 : decode cX12_plain 0 = .ok (.iload_n 1, 1) := by decide +kernel
theorem dX12_plain_1 : decode cX12_plain 1 = .ok (.iconst 0, 1) := by decide +kernel
theorem dX12_plain_2 : decode cX12_plain 2 = .ok (.iconst 1, 1) := by decide +kernel
theorem dX12_plain_3 : decode cX12_plain 3 = .ok (.invokestatic 345, 3) := by decide +kernel
theorem dX12_plain_6 : decode cX12_plain 6 = .ok (.ifCond .ne 5, 3) := by decide +kernel
theorem dX12_plain_9 : decode cX12_plain 9 = .ok (.iconst (-1), 1) := by decide +kernel
theorem dX12_plain_10 : decode cX12_plain 10 = .ok (.ireturn, 1) := by decide +kernel
theorem dX12_plain_11 : decode cX12_plain 11 = .ok (.iconst 0, 1) := by decide +kernel
theorem dX12_plain_12 : decode cX12_plain 12 = .ok (.istore_n 2, 1) := by decide +kernel
theorem dX12_plain_13 : decode cX12_plain 13 = .ok (.iload_n 2, 1) := by decide +kernel
theorem dX12_plain_14 : decode cX12_plain 14 = .ok (.aload_n 0, 1) := by decide +kernel
theorem dX12_plain_15 : decode cX12_plain 15 = .ok (.getfield 49, 3) := by decide +kernel
theorem dX12_plain_18 : decode cX12_plain 18 = .ok (.aload_n 0, 1) := by decide +kernel
theorem dX12_plain_19 : decode cX12_plain 19 = .ok (.getfield 258, 3) := by decide +kernel
theorem dX12_plain_22 : decode cX12_plain 22 = .ok (.iaload, 1) := by decide +kernel
theorem dX12_plain_23 : decode cX12_plain 23 = .ok (.if_icmp .ge 28, 3) := by decide +kernel
theorem dX12_plain_26 : decode cX12_plain 26 = .ok (.iconst 0, 1) := by decide +kernel
theorem dX12_plain_27 : decode cX12_plain 27 = .ok (.istore_n 3, 1) := by decide +kernel
theorem dX12_plain_28 : decode cX12_plain 28 = .ok (.iload_n 3, 1) := by decide +kernel
theorem dX12_plain_29 : decode cX12_plain 29 = .ok (.iconst 2, 1) := by decide +kernel
theorem dX12_plain_30 : decode cX12_plain 30 = .ok (.if_icmp .ge 15, 3) := by decide +kernel
theorem dX12_plain_33 : decode cX12_plain 33 = .ok (.aload_n 0, 1) := by decide +kernel
theorem dX12_plain_34 : decode cX12_plain 34 = .ok (.iload_n 2, 1) := by decide +kernel
theorem dX12_plain_35 : decode cX12_plain 35 = .ok (.iload_n 3, 1) := by decide +kernel
theorem dX12_plain_36 : decode cX12_plain 36 = .ok (.invokevirtual 473, 3) := by decide +kernel
theorem dX12_plain_39 : decode cX12_plain 39 = .ok (.iinc 3 1, 3) := by decide +kernel
theorem dX12_plain_42 : decode cX12_plain 42 = .ok (.goto (-14), 3) := by decide +kernel
theorem dX12_plain_45 : decode cX12_plain 45 = .ok (.iinc 2 1, 3) := by decide +kernel
theorem dX12_plain_48 : decode cX12_plain 48 = .ok (.goto (-35), 3) := by decide +kernel
theorem dX12_plain_51 : decode cX12_plain 51 = .ok (.iconst 0, 1) := by decide +kernel
theorem dX12_plain_52 : decode cX12_plain 52 = .ok (.istore_n 2, 1) := by decide +kernel
theorem dX12_plain_53 : decode cX12_plain 53 = .ok (.iload_n 2, 1) := by decide +kernel
theorem dX12_plain_54 : decode cX12_plain 54 = .ok (.iconst 2, 1) := by decide +kernel
theorem dX12_plain_55 : decode cX12_plain 55 = .ok (.aload_n 0, 1) := by decide +kernel
theorem dX12_plain_56 : decode cX12_plain 56 = .ok (.getfield 49, 3) := by decide +kernel
theorem dX12_plain_59 : decode cX12_plain 59 = .ok (.aload_n 0, 1) := by decide +kernel
theorem dX12_plain_60 : decode cX12_plain 60 = .ok (.getfield 258, 3) := by decide +kernel
theorem dX12_plain_63 : decode cX12_plain 63 = .ok (.iaload, 1) := by decide +kernel
theorem dX12_plain_64 : decode cX12_plain 64 = .ok (.imul, 1) := by decide +kernel
theorem dX12_plain_65 : decode cX12_plain 65 = .ok (.if_icmp .ge 102, 3) := by decide +kernel
theorem dX12_plain_68 : decode cX12_plain 68 = .ok (.iconst 0, 1) := by decide +kernel
theorem dX12_plain_69 : decode cX12_plain 69 = .ok (.istore_n 3, 1) := by decide +kernel
theorem dX12_plain_70 : decode cX12_plain 70 = .ok (.iload_n 3, 1) := by decide +kernel
theorem dX12_plain_71 : decode cX12_plain 71 = .ok (.iconst 2, 1) := by decide +kernel
theorem dX12_plain_72 : decode cX12_plain 72 = .ok (.aload_n 0, 1) := by decide +kernel
theorem dX12_plain_73 : decode cX12_plain 73 = .ok (.getfield 49, 3) := by decide +kernel
theorem dX12_plain_76 : decode cX12_plain 76 = .ok (.aload_n 0, 1) := by decide +kernel
theorem dX12_plain_77 : decode cX12_plain 77 = .ok (.getfield 258, 3) := by decide +kernel
theorem dX12_plain_80 : decode cX12_plain 80 = .ok (.iaload, 1) := by decide +kernel
theorem dX12_plain_81 : decode cX12_plain 81 = .ok (.imul, 1) := by decide +kernel
theorem dX12_plain_82 : decode cX12_plain 82 = .ok (.if_icmp .ge 79, 3) := by decide +kernel
theorem dX12_plain_85 : decode cX12_plain 85 = .ok (.aload_n 0, 1) := by decide +kernel
theorem dX12_plain_86 : decode cX12_plain 86 = .ok (.getfield 159, 3) := by decide +kernel
theorem dX12_plain_89 : decode cX12_plain 89 = .ok (.bipush 14, 2) := by decide +kernel
theorem dX12_plain_91 : decode cX12_plain 91 = .ok (.iload_n 2, 1) := by decide +kernel
theorem dX12_plain_92 : decode cX12_plain 92 = .ok (.imul, 1) := by decide +kernel
theorem dX12_plain_93 : decode cX12_plain 93 = .ok (.iload_n 3, 1) := by decide +kernel
theorem dX12_plain_94 : decode cX12_plain 94 = .ok (.iadd, 1) := by decide +kernel
theorem dX12_plain_95 : decode cX12_plain 95 = .ok (.iconst 0, 1) := by decide +kernel
theorem dX12_plain_96 : decode cX12_plain 96 = .ok (.iastore, 1) := by decide +kernel
theorem dX12_plain_97 : decode cX12_plain 97 = .ok (.iconst 0, 1) := by decide +kernel
theorem dX12_plain_98 : decode cX12_plain 98 = .ok (.istore 4, 2) := by decide +kernel
theorem dX12_plain_100 : decode cX12_plain 100 = .ok (.iload 4, 2) := by decide +kernel
theorem dX12_plain_102 : decode cX12_plain 102 = .ok (.sipush 288, 3) := by decide +kernel
theorem dX12_plain_105 : decode cX12_plain 105 = .ok (.if_icmp .ge 50, 3) := by decide +kernel
theorem dX12_plain_108 : decode cX12_plain 108 = .ok (.aload_n 0, 1) := by decide +kernel
theorem dX12_plain_109 : decode cX12_plain 109 = .ok (.getfield 159, 3) := by decide +kernel
theorem dX12_plain_112 : decode cX12_plain 112 = .ok (.bipush 14, 2) := by decide +kernel
theorem dX12_plain_114 : decode cX12_plain 114 = .ok (.iload_n 2, 1) := by decide +kernel
theorem dX12_plain_115 : decode cX12_plain 115 = .ok (.imul, 1) := by decide +kernel
theorem dX12_plain_116 : decode cX12_plain 116 = .ok (.iload_n 3, 1) := by decide +kernel
theorem dX12_plain_117 : decode cX12_plain 117 = .ok (.iadd, 1) := by decide +kernel
theorem dX12_plain_118 : decode cX12_plain 118 = .ok (.dup2, 1) := by decide +kernel
theorem dX12_plain_119 : decode cX12_plain 119 = .ok (.iaload, 1) := by decide +kernel
theorem dX12_plain_120 : decode cX12_plain 120 = .ok (.aload_n 0, 1) := by decide +kernel
theorem dX12_plain_121 : decode cX12_plain 121 = .ok (.getfield 156, 3) := by decide +kernel
theorem dX12_plain_124 : decode cX12_plain 124 = .ok (.sipush 288, 3) := by decide +kernel
theorem dX12_plain_127 : decode cX12_plain 127 = .ok (.iload_n 2, 1) := by decide +kernel
theorem dX12_plain_128 : decode cX12_plain 128 = .ok (.imul, 1) := by decide +kernel
theorem dX12_plain_129 : decode cX12_plain 129 = .ok (.iload 4, 2) := by decide +kernel
theorem dX12_plain_131 : decode cX12_plain 131 = .ok (.iadd, 1) := by decide +kernel
theorem dX12_plain_132 : decode cX12_plain 132 = .ok (.iaload, 1) := by decide +kernel
theorem dX12_plain_133 : decode cX12_plain 133 = .ok (.aload_n 0, 1) := by decide +kernel
theorem dX12_plain_134 : decode cX12_plain 134 = .ok (.getfield 156, 3) := by decide +kernel
theorem dX12_plain_137 : decode cX12_plain 137 = .ok (.sipush 288, 3) := by decide +kernel
theorem dX12_plain_140 : decode cX12_plain 140 = .ok (.iload_n 3, 1) := by decide +kernel
theorem dX12_plain_141 : decode cX12_plain 141 = .ok (.imul, 1) := by decide +kernel
theorem dX12_plain_142 : decode cX12_plain 142 = .ok (.iload 4, 2) := by decide +kernel
theorem dX12_plain_144 : decode cX12_plain 144 = .ok (.iadd, 1) := by decide +kernel
theorem dX12_plain_145 : decode cX12_plain 145 = .ok (.iaload, 1) := by decide +kernel
theorem dX12_plain_146 : decode cX12_plain 146 = .ok (.imul, 1) := by decide +kernel
theorem dX12_plain_147 : decode cX12_plain 147 = .ok (.iadd, 1) := by decide +kernel
theorem dX12_plain_148 : decode cX12_plain 148 = .ok (.iastore, 1) := by decide +kernel
theorem dX12_plain_149 : decode cX12_plain 149 = .ok (.iinc 4 1, 3) := by decide +kernel
theorem dX12_plain_152 : decode cX12_plain 152 = .ok (.goto (-52), 3) := by decide +kernel
theorem dX12_plain_155 : decode cX12_plain 155 = .ok (.iinc 3 1, 3) := by decide +kernel
theorem dX12_plain_158 : decode cX12_plain 158 = .ok (.goto (-88), 3) := by decide +kernel
theorem dX12_plain_161 : decode cX12_plain 161 = .ok (.iinc 2 1, 3) := by decide +kernel
theorem dX12_plain_164 : decode cX12_plain 164 = .ok (.goto (-111), 3) := by decide +kernel
theorem dX12_plain_167 : decode cX12_plain 167 = .ok (.iconst 0, 1) := by decide +kernel
theorem dX12_plain_168 : decode cX12_plain 168 = .ok (.istore_n 2, 1) := by decide +kernel
theorem dX12_plain_169 : decode cX12_plain 169 = .ok (.iconst (-1), 1) := by decide +kernel
theorem dX12_plain_170 : decode cX12_plain 170 = .ok (.istore_n 3, 1) := by decide +kernel
theorem dX12_plain_171 : decode cX12_plain 171 = .ok (.iconst 0, 1) := by decide +kernel
theorem dX12_plain_172 : decode cX12_plain 172 = .ok (.istore 4, 2) := by decide +kernel
theorem dX12_plain_174 : decode cX12_plain 174 = .ok (.iload 4, 2) := by decide +kernel
theorem dX12_plain_176 : decode cX12_plain 176 = .ok (.iconst 1, 1) := by decide +kernel
theorem dX12_plain_177 : decode cX12_plain 177 = .ok (.aload_n 0, 1) := by decide +kernel
theorem dX12_plain_178 : decode cX12_plain 178 = .ok (.getfield 49, 3) := by decide +kernel
theorem dX12_plain_181 : decode cX12_plain 181 = .ok (.aload_n 0, 1) := by decide +kernel
theorem dX12_plain_182 : decode cX12_plain 182 = .ok (.getfield 258, 3) := by decide +kernel
theorem dX12_plain_185 : decode cX12_plain 185 = .ok (.iaload, 1) := by decide +kernel
theorem dX12_plain_186 : decode cX12_plain 186 = .ok (.ishl, 1) := by decide +kernel
theorem dX12_plain_187 : decode cX12_plain 187 = .ok (.if_icmp .ge 118, 3) := by decide +kernel
theorem dX12_plain_190 : decode cX12_plain 190 = .ok (.iconst 0, 1) := by decide +kernel
theorem dX12_plain_191 : decode cX12_plain 191 = .ok (.istore 5, 2) := by decide +kernel
theorem dX12_plain_193 : decode cX12_plain 193 = .ok (.iconst 0, 1) := by decide +kernel
theorem dX12_plain_194 : decode cX12_plain 194 = .ok (.istore 6, 2) := by decide +kernel
theorem dX12_plain_196 : decode cX12_plain 196 = .ok (.iload 6, 2) := by decide +kernel
theorem dX12_plain_198 : decode cX12_plain 198 = .ok (.aload_n 0, 1) := by decide +kernel
theorem dX12_plain_199 : decode cX12_plain 199 = .ok (.getfield 49, 3) := by decide +kernel
theorem dX12_plain_202 : decode cX12_plain 202 = .ok (.aload_n 0, 1) := by decide +kernel
theorem dX12_plain_203 : decode cX12_plain 203 = .ok (.getfield 258, 3) := by decide +kernel
theorem dX12_plain_206 : decode cX12_plain 206 = .ok (.iaload, 1) := by decide +kernel
theorem dX12_plain_207 : decode cX12_plain 207 = .ok (.if_icmp .ge 73, 3) := by decide +kernel
theorem dX12_plain_210 : decode cX12_plain 210 = .ok (.iload 6, 2) := by decide +kernel
theorem dX12_plain_212 : decode cX12_plain 212 = .ok (.iconst 1, 1) := by decide +kernel
theorem dX12_plain_213 : decode cX12_plain 213 = .ok (.iadd, 1) := by decide +kernel
theorem dX12_plain_214 : decode cX12_plain 214 = .ok (.istore 7, 2) := by decide +kernel
theorem dX12_plain_216 : decode cX12_plain 216 = .ok (.iload 7, 2) := by decide +kernel
theorem dX12_plain_218 : decode cX12_plain 218 = .ok (.aload_n 0, 1) := by decide +kernel
theorem dX12_plain_219 : decode cX12_plain 219 = .ok (.getfield 49, 3) := by decide +kernel
theorem dX12_plain_222 : decode cX12_plain 222 = .ok (.aload_n 0, 1) := by decide +kernel
theorem dX12_plain_223 : decode cX12_plain 223 = .ok (.getfield 258, 3) := by decide +kernel
theorem dX12_plain_226 : decode cX12_plain 226 = .ok (.iaload, 1) := by decide +kernel
theorem dX12_plain_227 : decode cX12_plain 227 = .ok (.if_icmp .ge 47, 3) := by decide +kernel
theorem dX12_plain_230 : decode cX12_plain 230 = .ok (.iload 5, 2) := by decide +kernel
theorem dX12_plain_232 : decode cX12_plain 232 = .ok (.aload_n 0, 1) := by decide +kernel
theorem dX12_plain_233 : decode cX12_plain 233 = .ok (.getfield 159, 3) := by decide +kernel
theorem dX12_plain_236 : decode cX12_plain 236 = .ok (.bipush 14, 2) := by decide +kernel
theorem dX12_plain_238 : decode cX12_plain 238 = .ok (.iconst 2, 1) := by decide +kernel
theorem dX12_plain_239 : decode cX12_plain 239 = .ok (.iload 6, 2) := by decide +kernel
theorem dX12_plain_241 : decode cX12_plain 241 = .ok (.imul, 1) := by decide +kernel
theorem dX12_plain_242 : decode cX12_plain 242 = .ok (.iload 4, 2) := by decide +kernel
theorem dX12_plain_244 : decode cX12_plain 244 = .ok (.iload 6, 2) := by decide +kernel
theorem dX12_plain_246 : decode cX12_plain 246 = .ok (.ishr, 1) := by decide +kernel
theorem dX12_plain_247 : decode cX12_plain 247 = .ok (.iconst 1, 1) := by decide +kernel
theorem dX12_plain_248 : decode cX12_plain 248 = .ok (.iand, 1) := by decide +kernel
theorem dX12_plain_249 : decode cX12_plain 249 = .ok (.iadd, 1) := by decide +kernel
theorem dX12_plain_250 : decode cX12_plain 250 = .ok (.imul, 1) := by decide +kernel
theorem dX12_plain_251 : decode cX12_plain 251 = .ok (.iconst 2, 1) := by decide +kernel
theorem dX12_plain_252 : decode cX12_plain 252 = .ok (.iload 7, 2) := by decide +kernel
theorem dX12_plain_254 : decode cX12_plain 254 = .ok (.imul, 1) := by decide +kernel
theorem dX12_plain_255 : decode cX12_plain 255 = .ok (.iadd, 1) := by decide +kernel
theorem dX12_plain_256 : decode cX12_plain 256 = .ok (.iload 4, 2) := by decide +kernel
theorem dX12_plain_258 : decode cX12_plain 258 = .ok (.iload 7, 2) := by decide +kernel
theorem dX12_plain_260 : decode cX12_plain 260 = .ok (.ishr, 1) := by decide +kernel
theorem dX12_plain_261 : decode cX12_plain 261 = .ok (.iconst 1, 1) := by decide +kernel
theorem dX12_plain_262 : decode cX12_plain 262 = .ok (.iand, 1) := by decide +kernel
theorem dX12_plain_263 : decode cX12_plain 263 = .ok (.iadd, 1) := by decide +kernel
theorem dX12_plain_264 : decode cX12_plain 264 = .ok (.iaload, 1) := by decide +kernel
theorem dX12_plain_265 : decode cX12_plain 265 = .ok (.iadd, 1) := by decide +kernel
theorem dX12_plain_266 : decode cX12_plain 266 = .ok (.istore 5, 2) := by decide +kernel
theorem dX12_plain_268 : decode cX12_plain 268 = .ok (.iinc 7 1, 3) := by decide +kernel
theorem dX12_plain_271 : decode cX12_plain 271 = .ok (.goto (-55), 3) := by decide +kernel
theorem dX12_plain_274 : decode cX12_plain 274 = .ok (.iinc 6 1, 3) := by decide +kernel
theorem dX12_plain_277 : decode cX12_plain 277 = .ok (.goto (-81), 3) := by decide +kernel
theorem dX12_plain_280 : decode cX12_plain 280 = .ok (.iload_n 3, 1) := by decide +kernel
theorem dX12_plain_281 : decode cX12_plain 281 = .ok (.ifCond .lt 12, 3) := by decide +kernel
theorem dX12_plain_284 : decode cX12_plain 284 = .ok (.iload 5, 2) := by decide +kernel
theorem dX12_plain_286 : decode cX12_plain 286 = .ok (.iload_n 3, 1) := by decide +kernel
theorem dX12_plain_287 : decode cX12_plain 287 = .ok (.if_icmp .lt 6, 3) := by decide +kernel
theorem dX12_plain_290 : decode cX12_plain 290 = .ok (.goto 9, 3) := by decide +kernel
theorem dX12_plain_293 : decode cX12_plain 293 = .ok (.iload 4, 2) := by decide +kernel
theorem dX12_plain_295 : decode cX12_plain 295 = .ok (.istore_n 2, 1) := by decide +kernel
theorem dX12_plain_296 : decode cX12_plain 296 = .ok (.iload 5, 2) := by decide +kernel
theorem dX12_plain_298 : decode cX12_plain 298 = .ok (.istore_n 3, 1) := by decide +kernel
theorem dX12_plain_299 : decode cX12_plain 299 = .ok (.iinc 4 1, 3) := by decide +kernel
theorem dX12_plain_302 : decode cX12_plain 302 = .ok (.goto (-128), 3) := by decide +kernel
theorem dX12_plain_305 : decode cX12_plain 305 = .ok (.iload_n 1, 1) := by decide +kernel
theorem dX12_plain_306 : decode cX12_plain 306 = .ok (.ifCond .ne 7, 3) := by decide +kernel
theorem dX12_plain_309 : decode cX12_plain 309 = .ok (.iload_n 3, 1) := by decide +kernel
theorem dX12_plain_310 : decode cX12_plain 310 = .ok (.goto 4, 3) := by decide +kernel
theorem dX12_plain_313 : decode cX12_plain 313 = .ok (.iload_n 2, 1) := by decide +kernel
theorem dX12_plain_314 : decode cX12_plain 314 = .ok (.ireturn, 1) := by decide +kernel
theorem dX12_tell_0 : decode cX12_tell 0 = .ok (.aload_n 0, 1) := by decide +kernel
theorem dX12_tell_1 : decode cX12_tell 1 = .ok (.getfield 286, 3) := by decide +kernel
theorem dX12_tell_4 : decode cX12_tell 4 = .ok (.bipush 12, 2) := by decide +kernel
theorem dX12_tell_6 : decode cX12_tell 6 = .ok (.if_icmp .eq 12, 3) := by decide +kernel
theorem dX12_tell_9 : decode cX12_tell 9 = .ok (.aload_n 0, 1) := by decide +kernel
theorem dX12_tell_10 : decode cX12_tell 10 = .ok (.iload_n 1, 1) := by decide +kernel
theorem dX12_tell_11 : decode cX12_tell 11 = .ok (.iload_n 2, 1) := by decide +kernel
theorem dX12_tell_12 : decode cX12_tell 12 = .ok (.invokevirtual 413, 3) := by decide +kernel
theorem dX12_tell_15 : decode cX12_tell 15 = .ok (.ifCond .ne 5, 3) := by decide +kernel
theorem dX12_tell_18 : decode cX12_tell 18 = .ok (.iconst (-1), 1) := by decide +kernel
theorem dX12_tell_19 : decode cX12_tell 19 = .ok (.ireturn, 1) := by decide +kernel
theorem dX12_tell_20 : decode cX12_tell 20 = .ok (.aload_n 0, 1) := by decide +kernel
theorem dX12_tell_21 : decode cX12_tell 21 = .ok (.getfield 162, 3) := by decide +kernel
theorem dX12_tell_24 : decode cX12_tell 24 = .ok (.aload_n 0, 1) := by decide +kernel
theorem dX12_tell_25 : decode cX12_tell 25 = .ok (.getfield 286, 3) := by decide +kernel
theorem dX12_tell_28 : decode cX12_tell 28 = .ok (.iload_n 1, 1) := by decide +kernel
theorem dX12_tell_29 : decode cX12_tell 29 = .ok (.iastore, 1) := by decide +kernel
theorem dX12_tell_30 : decode cX12_tell 30 = .ok (.aload_n 0, 1) := by decide +kernel
theorem dX12_tell_31 : decode cX12_tell 31 = .ok (.getfield 165, 3) := by decide +kernel
theorem dX12_tell_34 : decode cX12_tell 34 = .ok (.aload_n 0, 1) := by decide +kernel
theorem dX12_tell_35 : decode cX12_tell 35 = .ok (.getfield 286, 3) := by decide +kernel
theorem dX12_tell_38 : decode cX12_tell 38 = .ok (.iload_n 2, 1) := by decide +kernel
theorem dX12_tell_39 : decode cX12_tell 39 = .ok (.iastore, 1) := by decide +kernel
theorem dX12_tell_40 : decode cX12_tell 40 = .ok (.aload_n 0, 1) := by decide +kernel
theorem dX12_tell_41 : decode cX12_tell 41 = .ok (.getfield 168, 3) := by decide +kernel
theorem dX12_tell_44 : decode cX12_tell 44 = .ok (.aload_n 0, 1) := by decide +kernel
theorem dX12_tell_45 : decode cX12_tell 45 = .ok (.getfield 286, 3) := by decide +kernel
theorem dX12_tell_48 : decode cX12_tell 48 = .ok (.iload_n 3, 1) := by decide +kernel
theorem dX12_tell_49 : decode cX12_tell 49 = .ok (.bastore, 1) := by decide +kernel
theorem dX12_tell_50 : decode cX12_tell 50 = .ok (.aload_n 0, 1) := by decide +kernel
theorem dX12_tell_51 : decode cX12_tell 51 = .ok (.dup, 1) := by decide +kernel
theorem dX12_tell_52 : decode cX12_tell 52 = .ok (.getfield 286, 3) := by decide +kernel
theorem dX12_tell_55 : decode cX12_tell 55 = .ok (.iconst 1, 1) := by decide +kernel
theorem dX12_tell_56 : decode cX12_tell 56 = .ok (.iadd, 1) := by decide +kernel
theorem dX12_tell_57 : decode cX12_tell 57 = .ok (.putfield 286, 3) := by decide +kernel
theorem dX12_tell_60 : decode cX12_tell 60 = .ok (.aload_n 0, 1) := by decide +kernel
theorem dX12_tell_61 : decode cX12_tell 61 = .ok (.getfield 286, 3) := by decide +kernel
theorem dX12_tell_64 : decode cX12_tell 64 = .ok (.iconst 1, 1) := by decide +kernel
theorem dX12_tell_65 : decode cX12_tell 65 = .ok (.isub, 1) := by decide +kernel
theorem dX12_tell_66 : decode cX12_tell 66 = .ok (.ireturn, 1) := by decide +kernel
theorem dX12_forget_0 : decode cX12_forget 0 = .ok (.aload_n 0, 1) := by decide +kernel
theorem dX12_forget_1 : decode cX12_forget 1 = .ok (.getfield 286, 3) := by decide +kernel
theorem dX12_forget_4 : decode cX12_forget 4 = .ok (.istore_n 1, 1) := by decide +kernel
theorem dX12_forget_5 : decode cX12_forget 5 = .ok (.aload_n 0, 1) := by decide +kernel
theorem dX12_forget_6 : decode cX12_forget 6 = .ok (.iconst 0, 1) := by decide +kernel
theorem dX12_forget_7 : decode cX12_forget 7 = .ok (.putfield 286, 3) := by decide +kernel
theorem dX12_forget_10 : decode cX12_forget 10 = .ok (.iload_n 1, 1) := by decide +kernel
theorem dX12_forget_11 : decode cX12_forget 11 = .ok (.ireturn, 1) := by decide +kernel
theorem dX12_isSo_0 : decode cX12_isSo 0 = .ok (.aload_n 0, 1) := by decide +kernel
theorem dX12_isSo_1 : decode cX12_isSo 1 = .ok (.invokevirtual 185, 3) := by decide +kernel
theorem dX12_isSo_4 : decode cX12_isSo 4 = .ok (.iload_n 1, 1) := by decide +kernel
theorem dX12_isSo_5 : decode cX12_isSo 5 = .ok (.istore 5, 2) := by decide +kernel
theorem dX12_isSo_7 : decode cX12_isSo 7 = .ok (.iconst 0, 1) := by decide +kernel
theorem dX12_isSo_8 : decode cX12_isSo 8 = .ok (.istore 6, 2) := by decide +kernel
theorem dX12_isSo_10 : decode cX12_isSo 10 = .ok (.iload 6, 2) := by decide +kernel
theorem dX12_isSo_12 : decode cX12_isSo 12 = .ok (.aload_n 0, 1) := by decide +kernel
theorem dX12_isSo_13 : decode cX12_isSo 13 = .ok (.getfield 49, 3) := by decide +kernel
theorem dX12_isSo_16 : decode cX12_isSo 16 = .ok (.aload_n 0, 1) := by decide +kernel
theorem dX12_isSo_17 : decode cX12_isSo 17 = .ok (.getfield 258, 3) := by decide +kernel
theorem dX12_isSo_20 : decode cX12_isSo 20 = .ok (.iaload, 1) := by decide +kernel
theorem dX12_isSo_21 : decode cX12_isSo 21 = .ok (.if_icmp .ge 30, 3) := by decide +kernel
theorem dX12_isSo_24 : decode cX12_isSo 24 = .ok (.aload_n 0, 1) := by decide +kernel
theorem dX12_isSo_25 : decode cX12_isSo 25 = .ok (.getfield 134, 3) := by decide +kernel
theorem dX12_isSo_28 : decode cX12_isSo 28 = .ok (.iload 6, 2) := by decide +kernel
theorem dX12_isSo_30 : decode cX12_isSo 30 = .ok (.iload 5, 2) := by decide +kernel
theorem dX12_isSo_32 : decode cX12_isSo 32 = .ok (.iload_n 2, 1) := by decide +kernel
theorem dX12_isSo_33 : decode cX12_isSo 33 = .ok (.iconst 1, 1) := by decide +kernel
theorem dX12_isSo_34 : decode cX12_isSo 34 = .ok (.iadd, 1) := by decide +kernel
theorem dX12_isSo_35 : decode cX12_isSo 35 = .ok (.irem, 1) := by decide +kernel
theorem dX12_isSo_36 : decode cX12_isSo 36 = .ok (.iastore, 1) := by decide +kernel
theorem dX12_isSo_37 : decode cX12_isSo 37 = .ok (.iload 5, 2) := by decide +kernel
theorem dX12_isSo_39 : decode cX12_isSo 39 = .ok (.iload_n 2, 1) := by decide +kernel
theorem dX12_isSo_40 : decode cX12_isSo 40 = .ok (.iconst 1, 1) := by decide +kernel
theorem dX12_isSo_41 : decode cX12_isSo 41 = .ok (.iadd, 1) := by decide +kernel
theorem dX12_isSo_42 : decode cX12_isSo 42 = .ok (.idiv, 1) := by decide +kernel
theorem dX12_isSo_43 : decode cX12_isSo 43 = .ok (.istore 5, 2) := by decide +kernel
theorem dX12_isSo_45 : decode cX12_isSo 45 = .ok (.iinc 6 1, 3) := by decide +kernel
theorem dX12_isSo_48 : decode cX12_isSo 48 = .ok (.goto (-38), 3) := by decide +kernel
theorem dX12_isSo_51 : decode cX12_isSo 51 = .ok (.iconst 0, 1) := by decide +kernel
theorem dX12_isSo_52 : decode cX12_isSo 52 = .ok (.istore 6, 2) := by decide +kernel
theorem dX12_isSo_54 : decode cX12_isSo 54 = .ok (.iload 6, 2) := by decide +kernel
theorem dX12_isSo_56 : decode cX12_isSo 56 = .ok (.iload_n 3, 1) := by decide +kernel
theorem dX12_isSo_57 : decode cX12_isSo 57 = .ok (.if_icmp .ge 13, 3) := by decide +kernel
theorem dX12_isSo_60 : decode cX12_isSo 60 = .ok (.aload_n 0, 1) := by decide +kernel
theorem dX12_isSo_61 : decode cX12_isSo 61 = .ok (.invokevirtual 407, 3) := by decide +kernel
theorem dX12_isSo_64 : decode cX12_isSo 64 = .ok (.iinc 6 1, 3) := by decide +kernel
theorem dX12_isSo_67 : decode cX12_isSo 67 = .ok (.goto (-13), 3) := by decide +kernel
theorem dX12_isSo_70 : decode cX12_isSo 70 = .ok (.iconst 0, 1) := by decide +kernel
theorem dX12_isSo_71 : decode cX12_isSo 71 = .ok (.istore 6, 2) := by decide +kernel
theorem dX12_isSo_73 : decode cX12_isSo 73 = .ok (.iload 6, 2) := by decide +kernel
theorem dX12_isSo_75 : decode cX12_isSo 75 = .ok (.iload 4, 2) := by decide +kernel
theorem dX12_isSo_77 : decode cX12_isSo 77 = .ok (.if_icmp .ge 47, 3) := by decide +kernel
theorem dX12_isSo_80 : decode cX12_isSo 80 = .ok (.aload_n 0, 1) := by decide +kernel
theorem dX12_isSo_81 : decode cX12_isSo 81 = .ok (.aload_n 0, 1) := by decide +kernel
theorem dX12_isSo_82 : decode cX12_isSo 82 = .ok (.getfield 162, 3) := by decide +kernel
theorem dX12_isSo_85 : decode cX12_isSo 85 = .ok (.iload 6, 2) := by decide +kernel
theorem dX12_isSo_87 : decode cX12_isSo 87 = .ok (.iaload, 1) := by decide +kernel
theorem dX12_isSo_88 : decode cX12_isSo 88 = .ok (.aload_n 0, 1) := by decide +kernel
theorem dX12_isSo_89 : decode cX12_isSo 89 = .ok (.getfield 165, 3) := by decide +kernel
theorem dX12_isSo_92 : decode cX12_isSo 92 = .ok (.iload 6, 2) := by decide +kernel
theorem dX12_isSo_94 : decode cX12_isSo 94 = .ok (.iaload, 1) := by decide +kernel
theorem dX12_isSo_95 : decode cX12_isSo 95 = .ok (.invokevirtual 410, 3) := by decide +kernel
theorem dX12_isSo_98 : decode cX12_isSo 98 = .ok (.ifCond .le 7, 3) := by decide +kernel
theorem dX12_isSo_101 : decode cX12_isSo 101 = .ok (.iconst 1, 1) := by decide +kernel
theorem dX12_isSo_102 : decode cX12_isSo 102 = .ok (.goto 4, 3) := by decide +kernel
theorem dX12_isSo_105 : decode cX12_isSo 105 = .ok (.iconst 0, 1) := by decide +kernel
theorem dX12_isSo_106 : decode cX12_isSo 106 = .ok (.aload_n 0, 1) := by decide +kernel
theorem dX12_isSo_107 : decode cX12_isSo 107 = .ok (.getfield 168, 3) := by decide +kernel
theorem dX12_isSo_110 : decode cX12_isSo 110 = .ok (.iload 6, 2) := by decide +kernel
theorem dX12_isSo_112 : decode cX12_isSo 112 = .ok (.baload, 1) := by decide +kernel
theorem dX12_isSo_113 : decode cX12_isSo 113 = .ok (.if_icmp .eq 5, 3) := by decide +kernel
theorem dX12_isSo_116 : decode cX12_isSo 116 = .ok (.iconst 0, 1) := by decide +kernel
theorem dX12_isSo_117 : decode cX12_isSo 117 = .ok (.ireturn, 1) := by decide +kernel
theorem dX12_isSo_118 : decode cX12_isSo 118 = .ok (.iinc 6 1, 3) := by decide +kernel
theorem dX12_isSo_121 : decode cX12_isSo 121 = .ok (.goto (-48), 3) := by decide +kernel
theorem dX12_isSo_124 : decode cX12_isSo 124 = .ok (.iconst 1, 1) := by decide +kernel
theorem dX12_isSo_125 : decode cX12_isSo 125 = .ok (.ireturn, 1) := by decide +kernel
theorem dX12_starts_0 : decode cX12_starts 0 = .ok (.iload_n 1, 1) := by decide +kernel
theorem dX12_starts_1 : decode cX12_starts 1 = .ok (.iconst 0, 1) := by decide +kernel
theorem dX12_starts_2 : decode cX12_starts 2 = .ok (.iconst 3, 1) := by decide +kernel
theorem dX12_starts_3 : decode cX12_starts 3 = .ok (.invokestatic 345, 3) := by decide +kernel
theorem dX12_starts_6 : decode cX12_starts 6 = .ok (.ifCond .eq 25, 3) := by decide +kernel
theorem dX12_starts_9 : decode cX12_starts 9 = .ok (.iload_n 2, 1) := by decide +kernel
theorem dX12_starts_10 : decode cX12_starts 10 = .ok (.iconst 0, 1) := by decide +kernel
theorem dX12_starts_11 : decode cX12_starts 11 = .ok (.bipush 40, 2) := by decide +kernel
theorem dX12_starts_13 : decode cX12_starts 13 = .ok (.invokestatic 345, 3) := by decide +kernel
theorem dX12_starts_16 : decode cX12_starts 16 = .ok (.ifCond .eq 15, 3) := by decide +kernel
theorem dX12_starts_19 : decode cX12_starts 19 = .ok (.iload_n 3, 1) := by decide +kernel
theorem dX12_starts_20 : decode cX12_starts 20 = .ok (.iconst 0, 1) := by decide +kernel
theorem dX12_starts_21 : decode cX12_starts 21 = .ok (.aload_n 0, 1) := by decide +kernel
theorem dX12_starts_22 : decode cX12_starts 22 = .ok (.getfield 286, 3) := by decide +kernel
theorem dX12_starts_25 : decode cX12_starts 25 = .ok (.invokestatic 345, 3) := by decide +kernel
theorem dX12_starts_28 : decode cX12_starts 28 = .ok (.ifCond .ne 5, 3) := by decide +kernel
theorem dX12_starts_31 : decode cX12_starts 31 = .ok (.iconst (-1), 1) := by decide +kernel
theorem dX12_starts_32 : decode cX12_starts 32 = .ok (.ireturn, 1) := by decide +kernel
theorem dX12_starts_33 : decode cX12_starts 33 = .ok (.iconst 1, 1) := by decide +kernel
theorem dX12_starts_34 : decode cX12_starts 34 = .ok (.istore 4, 2) := by decide +kernel
theorem dX12_starts_36 : decode cX12_starts 36 = .ok (.iconst 0, 1) := by decide +kernel
theorem dX12_starts_37 : decode cX12_starts 37 = .ok (.istore 5, 2) := by decide +kernel
theorem dX12_starts_39 : decode cX12_starts 39 = .ok (.iload 5, 2) := by decide +kernel
theorem dX12_starts_41 : decode cX12_starts 41 = .ok (.aload_n 0, 1) := by decide +kernel
theorem dX12_starts_42 : decode cX12_starts 42 = .ok (.getfield 49, 3) := by decide +kernel
theorem dX12_starts_45 : decode cX12_starts 45 = .ok (.aload_n 0, 1) := by decide +kernel
theorem dX12_starts_46 : decode cX12_starts 46 = .ok (.getfield 258, 3) := by decide +kernel
theorem dX12_starts_49 : decode cX12_starts 49 = .ok (.iaload, 1) := by decide +kernel
theorem dX12_starts_50 : decode cX12_starts 50 = .ok (.if_icmp .ge 17, 3) := by decide +kernel
theorem dX12_starts_53 : decode cX12_starts 53 = .ok (.iload 4, 2) := by decide +kernel
theorem dX12_starts_55 : decode cX12_starts 55 = .ok (.iload_n 1, 1) := by decide +kernel
theorem dX12_starts_56 : decode cX12_starts 56 = .ok (.iconst 1, 1) := by decide +kernel
theorem dX12_starts_57 : decode cX12_starts 57 = .ok (.iadd, 1) := by decide +kernel
theorem dX12_starts_58 : decode cX12_starts 58 = .ok (.imul, 1) := by decide +kernel
theorem dX12_starts_59 : decode cX12_starts 59 = .ok (.istore 4, 2) := by decide +kernel
theorem dX12_starts_61 : decode cX12_starts 61 = .ok (.iinc 5 1, 3) := by decide +kernel
theorem dX12_starts_64 : decode cX12_starts 64 = .ok (.goto (-25), 3) := by decide +kernel
theorem dX12_starts_67 : decode cX12_starts 67 = .ok (.iload 4, 2) := by decide +kernel
theorem dX12_starts_69 : decode cX12_starts 69 = .ok (.sipush 1000, 3) := by decide +kernel
theorem dX12_starts_72 : decode cX12_starts 72 = .ok (.if_icmp .le 6, 3) := by decide +kernel
theorem dX12_starts_75 : decode cX12_starts 75 = .ok (.bipush (-2), 2) := by decide +kernel
theorem dX12_starts_77 : decode cX12_starts 77 = .ok (.ireturn, 1) := by decide +kernel
theorem dX12_starts_78 : decode cX12_starts 78 = .ok (.iconst 0, 1) := by decide +kernel
theorem dX12_starts_79 : decode cX12_starts 79 = .ok (.istore 5, 2) := by decide +kernel
theorem dX12_starts_81 : decode cX12_starts 81 = .ok (.iconst 0, 1) := by decide +kernel
theorem dX12_starts_82 : decode cX12_starts 82 = .ok (.istore 6, 2) := by decide +kernel
theorem dX12_starts_84 : decode cX12_starts 84 = .ok (.iload 6, 2) := by decide +kernel
theorem dX12_starts_86 : decode cX12_starts 86 = .ok (.iload 4, 2) := by decide +kernel
theorem dX12_starts_88 : decode cX12_starts 88 = .ok (.if_icmp .ge 24, 3) := by decide +kernel
theorem dX12_starts_91 : decode cX12_starts 91 = .ok (.aload_n 0, 1) := by decide +kernel
theorem dX12_starts_92 : decode cX12_starts 92 = .ok (.iload 6, 2) := by decide +kernel
theorem dX12_starts_94 : decode cX12_starts 94 = .ok (.iload_n 1, 1) := by decide +kernel
theorem dX12_starts_95 : decode cX12_starts 95 = .ok (.iload_n 2, 1) := by decide +kernel
theorem dX12_starts_96 : decode cX12_starts 96 = .ok (.iload_n 3, 1) := by decide +kernel
theorem dX12_starts_97 : decode cX12_starts 97 = .ok (.invokevirtual 476, 3) := by decide +kernel
theorem dX12_starts_100 : decode cX12_starts 100 = .ok (.ifCond .eq 6, 3) := by decide +kernel
theorem dX12_starts_103 : decode cX12_starts 103 = .ok (.iinc 5 1, 3) := by decide +kernel
theorem dX12_starts_106 : decode cX12_starts 106 = .ok (.iinc 6 1, 3) := by decide +kernel
theorem dX12_starts_109 : decode cX12_starts 109 = .ok (.goto (-25), 3) := by decide +kernel
theorem dX12_starts_112 : decode cX12_starts 112 = .ok (.iload 5, 2) := by decide +kernel
theorem dX12_starts_114 : decode cX12_starts 114 = .ok (.ireturn, 1) := by decide +kernel
theorem dX12_hold_0 : decode cX12_hold 0 = .ok (.iload_n 1, 1) := by decide +kernel
theorem dX12_hold_1 : decode cX12_hold 1 = .ok (.iconst 0, 1) := by decide +kernel
theorem dX12_hold_2 : decode cX12_hold 2 = .ok (.iconst 2, 1) := by decide +kernel
theorem dX12_hold_3 : decode cX12_hold 3 = .ok (.invokestatic 345, 3) := by decide +kernel
theorem dX12_hold_6 : decode cX12_hold 6 = .ok (.ifCond .ne 5, 3) := by decide +kernel
theorem dX12_hold_9 : decode cX12_hold 9 = .ok (.iconst 0, 1) := by decide +kernel
theorem dX12_hold_10 : decode cX12_hold 10 = .ok (.ireturn, 1) := by decide +kernel
theorem dX12_hold_11 : decode cX12_hold 11 = .ok (.aload_n 0, 1) := by decide +kernel
theorem dX12_hold_12 : decode cX12_hold 12 = .ok (.getfield 171, 3) := by decide +kernel
theorem dX12_hold_15 : decode cX12_hold 15 = .ok (.iload_n 1, 1) := by decide +kernel
theorem dX12_hold_16 : decode cX12_hold 16 = .ok (.iconst 1, 1) := by decide +kernel
theorem dX12_hold_17 : decode cX12_hold 17 = .ok (.bastore, 1) := by decide +kernel
theorem dX12_hold_18 : decode cX12_hold 18 = .ok (.iconst 0, 1) := by decide +kernel
theorem dX12_hold_19 : decode cX12_hold 19 = .ok (.istore_n 2, 1) := by decide +kernel
theorem dX12_hold_20 : decode cX12_hold 20 = .ok (.iload_n 2, 1) := by decide +kernel
theorem dX12_hold_21 : decode cX12_hold 21 = .ok (.sipush 1290, 3) := by decide +kernel
theorem dX12_hold_24 : decode cX12_hold 24 = .ok (.if_icmp .ge 27, 3) := by decide +kernel
theorem dX12_hold_27 : decode cX12_hold 27 = .ok (.aload_n 0, 1) := by decide +kernel
theorem dX12_hold_28 : decode cX12_hold 28 = .ok (.getfield 174, 3) := by decide +kernel
theorem dX12_hold_31 : decode cX12_hold 31 = .ok (.sipush 1290, 3) := by decide +kernel
theorem dX12_hold_34 : decode cX12_hold 34 = .ok (.iload_n 1, 1) := by decide +kernel
theorem dX12_hold_35 : decode cX12_hold 35 = .ok (.imul, 1) := by decide +kernel
theorem dX12_hold_36 : decode cX12_hold 36 = .ok (.iload_n 2, 1) := by decide +kernel
theorem dX12_hold_37 : decode cX12_hold 37 = .ok (.iadd, 1) := by decide +kernel
theorem dX12_hold_38 : decode cX12_hold 38 = .ok (.aload_n 0, 1) := by decide +kernel
theorem dX12_hold_39 : decode cX12_hold 39 = .ok (.getfield 128, 3) := by decide +kernel
theorem dX12_hold_42 : decode cX12_hold 42 = .ok (.iload_n 2, 1) := by decide +kernel
theorem dX12_hold_43 : decode cX12_hold 43 = .ok (.iaload, 1) := by decide +kernel
theorem dX12_hold_44 : decode cX12_hold 44 = .ok (.iastore, 1) := by decide +kernel
theorem dX12_hold_45 : decode cX12_hold 45 = .ok (.iinc 2 1, 3) := by decide +kernel
theorem dX12_hold_48 : decode cX12_hold 48 = .ok (.goto (-28), 3) := by decide +kernel
theorem dX12_hold_51 : decode cX12_hold 51 = .ok (.iconst 1, 1) := by decide +kernel
theorem dX12_hold_52 : decode cX12_hold 52 = .ok (.ireturn, 1) := by decide +kernel
theorem dX12_restore_0 : decode cX12_restore 0 = .ok (.iload_n 1, 1) := by decide +kernel
theorem dX12_restore_1 : decode cX12_restore 1 = .ok (.iconst 0, 1) := by decide +kernel
theorem dX12_restore_2 : decode cX12_restore 2 = .ok (.iconst 2, 1) := by decide +kernel
theorem dX12_restore_3 : decode cX12_restore 3 = .ok (.invokestatic 345, 3) := by decide +kernel
theorem dX12_restore_6 : decode cX12_restore 6 = .ok (.ifCond .eq 12, 3) := by decide +kernel
theorem dX12_restore_9 : decode cX12_restore 9 = .ok (.aload_n 0, 1) := by decide +kernel
theorem dX12_restore_10 : decode cX12_restore 10 = .ok (.getfield 171, 3) := by decide +kernel
theorem dX12_restore_13 : decode cX12_restore 13 = .ok (.iload_n 1, 1) := by decide +kernel
theorem dX12_restore_14 : decode cX12_restore 14 = .ok (.baload, 1) := by decide +kernel
theorem dX12_restore_15 : decode cX12_restore 15 = .ok (.ifCond .ne 5, 3) := by decide +kernel
theorem dX12_restore_18 : decode cX12_restore 18 = .ok (.iconst 0, 1) := by decide +kernel
theorem dX12_restore_19 : decode cX12_restore 19 = .ok (.ireturn, 1) := by decide +kernel
theorem dX12_restore_20 : decode cX12_restore 20 = .ok (.iconst 0, 1) := by decide +kernel
theorem dX12_restore_21 : decode cX12_restore 21 = .ok (.istore_n 2, 1) := by decide +kernel
theorem dX12_restore_22 : decode cX12_restore 22 = .ok (.iload_n 2, 1) := by decide +kernel
theorem dX12_restore_23 : decode cX12_restore 23 = .ok (.sipush 1290, 3) := by decide +kernel
theorem dX12_restore_26 : decode cX12_restore 26 = .ok (.if_icmp .ge 27, 3) := by decide +kernel
theorem dX12_restore_29 : decode cX12_restore 29 = .ok (.aload_n 0, 1) := by decide +kernel
theorem dX12_restore_30 : decode cX12_restore 30 = .ok (.getfield 128, 3) := by decide +kernel
theorem dX12_restore_33 : decode cX12_restore 33 = .ok (.iload_n 2, 1) := by decide +kernel
theorem dX12_restore_34 : decode cX12_restore 34 = .ok (.aload_n 0, 1) := by decide +kernel
theorem dX12_restore_35 : decode cX12_restore 35 = .ok (.getfield 174, 3) := by decide +kernel
theorem dX12_restore_38 : decode cX12_restore 38 = .ok (.sipush 1290, 3) := by decide +kernel
theorem dX12_restore_41 : decode cX12_restore 41 = .ok (.iload_n 1, 1) := by decide +kernel
theorem dX12_restore_42 : decode cX12_restore 42 = .ok (.imul, 1) := by decide +kernel
theorem dX12_restore_43 : decode cX12_restore 43 = .ok (.iload_n 2, 1) := by decide +kernel
theorem dX12_restore_44 : decode cX12_restore 44 = .ok (.iadd, 1) := by decide +kernel
theorem dX12_restore_45 : decode cX12_restore 45 = .ok (.iaload, 1) := by decide +kernel
theorem dX12_restore_46 : decode cX12_restore 46 = .ok (.iastore, 1) := by decide +kernel
theorem dX12_restore_47 : decode cX12_restore 47 = .ok (.iinc 2 1, 3) := by decide +kernel
theorem dX12_restore_50 : decode cX12_restore 50 = .ok (.goto (-28), 3) := by decide +kernel
theorem dX12_restore_53 : decode cX12_restore 53 = .ok (.aload_n 0, 1) := by decide +kernel
theorem dX12_restore_54 : decode cX12_restore 54 = .ok (.iconst 0, 1) := by decide +kernel
theorem dX12_restore_55 : decode cX12_restore 55 = .ok (.putfield 283, 3) := by decide +kernel
theorem dX12_restore_58 : decode cX12_restore 58 = .ok (.iconst 1, 1) := by decide +kernel
theorem dX12_restore_59 : decode cX12_restore 59 = .ok (.ireturn, 1) := by decide +kernel
theorem dX12_count_0 : decode cX12_count 0 = .ok (.iload_n 1, 1) := by decide +kernel
theorem dX12_count_1 : decode cX12_count 1 = .ok (.tableswitch 260 0 11 #[63, 73, 83, 93, 101, 101, 148, 158, 200, 205, 210, 215], 63) := by decide +kernel
theorem dX12_count_64 : decode cX12_count 64 = .ok (.aload_n 0, 1) := by decide +kernel
theorem dX12_count_65 : decode cX12_count 65 = .ok (.getfield 49, 3) := by decide +kernel
theorem dX12_count_68 : decode cX12_count 68 = .ok (.aload_n 0, 1) := by decide +kernel
theorem dX12_count_69 : decode cX12_count 69 = .ok (.getfield 258, 3) := by decide +kernel
theorem dX12_count_72 : decode cX12_count 72 = .ok (.iaload, 1) := by decide +kernel
theorem dX12_count_73 : decode cX12_count 73 = .ok (.ireturn, 1) := by decide +kernel
theorem dX12_count_74 : decode cX12_count 74 = .ok (.aload_n 0, 1) := by decide +kernel
theorem dX12_count_75 : decode cX12_count 75 = .ok (.getfield 43, 3) := by decide +kernel
theorem dX12_count_78 : decode cX12_count 78 = .ok (.aload_n 0, 1) := by decide +kernel
theorem dX12_count_79 : decode cX12_count 79 = .ok (.getfield 258, 3) := by decide +kernel
theorem dX12_count_82 : decode cX12_count 82 = .ok (.iaload, 1) := by decide +kernel
theorem dX12_count_83 : decode cX12_count 83 = .ok (.ireturn, 1) := by decide +kernel
theorem dX12_count_84 : decode cX12_count 84 = .ok (.aload_n 0, 1) := by decide +kernel
theorem dX12_count_85 : decode cX12_count 85 = .ok (.getfield 46, 3) := by decide +kernel
theorem dX12_count_88 : decode cX12_count 88 = .ok (.aload_n 0, 1) := by decide +kernel
theorem dX12_count_89 : decode cX12_count 89 = .ok (.getfield 258, 3) := by decide +kernel
theorem dX12_count_92 : decode cX12_count 92 = .ok (.iaload, 1) := by decide +kernel
theorem dX12_count_93 : decode cX12_count 93 = .ok (.ireturn, 1) := by decide +kernel
theorem dX12_count_94 : decode cX12_count 94 = .ok (.aload_n 0, 1) := by decide +kernel
theorem dX12_count_95 : decode cX12_count 95 = .ok (.getfield 128, 3) := by decide +kernel
theorem dX12_count_98 : decode cX12_count 98 = .ok (.bipush 28, 2) := by decide +kernel
theorem dX12_count_100 : decode cX12_count 100 = .ok (.iaload, 1) := by decide +kernel
theorem dX12_count_101 : decode cX12_count 101 = .ok (.ireturn, 1) := by decide +kernel
theorem dX12_count_102 : decode cX12_count 102 = .ok (.iconst 0, 1) := by decide +kernel
theorem dX12_count_103 : decode cX12_count 103 = .ok (.istore_n 2, 1) := by decide +kernel
theorem dX12_count_104 : decode cX12_count 104 = .ok (.iconst 0, 1) := by decide +kernel
theorem dX12_count_105 : decode cX12_count 105 = .ok (.istore_n 3, 1) := by decide +kernel
theorem dX12_count_106 : decode cX12_count 106 = .ok (.iload_n 3, 1) := by decide +kernel
theorem dX12_count_107 : decode cX12_count 107 = .ok (.aload_n 0, 1) := by decide +kernel
theorem dX12_count_108 : decode cX12_count 108 = .ok (.getfield 49, 3) := by decide +kernel
theorem dX12_count_111 : decode cX12_count 111 = .ok (.aload_n 0, 1) := by decide +kernel
theorem dX12_count_112 : decode cX12_count 112 = .ok (.getfield 258, 3) := by decide +kernel
theorem dX12_count_115 : decode cX12_count 115 = .ok (.iaload, 1) := by decide +kernel
theorem dX12_count_116 : decode cX12_count 116 = .ok (.if_icmp .ge 31, 3) := by decide +kernel
theorem dX12_count_119 : decode cX12_count 119 = .ok (.iload_n 2, 1) := by decide +kernel
theorem dX12_count_120 : decode cX12_count 120 = .ok (.aload_n 0, 1) := by decide +kernel
theorem dX12_count_121 : decode cX12_count 121 = .ok (.getfield 128, 3) := by decide +kernel
theorem dX12_count_124 : decode cX12_count 124 = .ok (.iload_n 1, 1) := by decide +kernel
theorem dX12_count_125 : decode cX12_count 125 = .ok (.iconst 4, 1) := by decide +kernel
theorem dX12_count_126 : decode cX12_count 126 = .ok (.if_icmp .ne 8, 3) := by decide +kernel
theorem dX12_count_129 : decode cX12_count 129 = .ok (.bipush 14, 2) := by decide +kernel
theorem dX12_count_131 : decode cX12_count 131 = .ok (.goto 5, 3) := by decide +kernel
theorem dX12_count_134 : decode cX12_count 134 = .ok (.bipush 21, 2) := by decide +kernel
theorem dX12_count_136 : decode cX12_count 136 = .ok (.iload_n 3, 1) := by decide +kernel
theorem dX12_count_137 : decode cX12_count 137 = .ok (.iadd, 1) := by decide +kernel
theorem dX12_count_138 : decode cX12_count 138 = .ok (.iaload, 1) := by decide +kernel
theorem dX12_count_139 : decode cX12_count 139 = .ok (.iadd, 1) := by decide +kernel
theorem dX12_count_140 : decode cX12_count 140 = .ok (.istore_n 2, 1) := by decide +kernel
theorem dX12_count_141 : decode cX12_count 141 = .ok (.iinc 3 1, 3) := by decide +kernel
theorem dX12_count_144 : decode cX12_count 144 = .ok (.goto (-38), 3) := by decide +kernel
theorem dX12_count_147 : decode cX12_count 147 = .ok (.iload_n 2, 1) := by decide +kernel
theorem dX12_count_148 : decode cX12_count 148 = .ok (.ireturn, 1) := by decide +kernel
theorem dX12_count_149 : decode cX12_count 149 = .ok (.aload_n 0, 1) := by decide +kernel
theorem dX12_count_150 : decode cX12_count 150 = .ok (.getfield 70, 3) := by decide +kernel
theorem dX12_count_153 : decode cX12_count 153 = .ok (.aload_n 0, 1) := by decide +kernel
theorem dX12_count_154 : decode cX12_count 154 = .ok (.getfield 258, 3) := by decide +kernel
theorem dX12_count_157 : decode cX12_count 157 = .ok (.iaload, 1) := by decide +kernel
theorem dX12_count_158 : decode cX12_count 158 = .ok (.ireturn, 1) := by decide +kernel
theorem dX12_count_159 : decode cX12_count 159 = .ok (.iconst 0, 1) := by decide +kernel
theorem dX12_count_160 : decode cX12_count 160 = .ok (.istore_n 2, 1) := by decide +kernel
theorem dX12_count_161 : decode cX12_count 161 = .ok (.iconst 0, 1) := by decide +kernel
theorem dX12_count_162 : decode cX12_count 162 = .ok (.istore_n 3, 1) := by decide +kernel
theorem dX12_count_163 : decode cX12_count 163 = .ok (.iload_n 3, 1) := by decide +kernel
theorem dX12_count_164 : decode cX12_count 164 = .ok (.aload_n 0, 1) := by decide +kernel
theorem dX12_count_165 : decode cX12_count 165 = .ok (.getfield 49, 3) := by decide +kernel
theorem dX12_count_168 : decode cX12_count 168 = .ok (.aload_n 0, 1) := by decide +kernel
theorem dX12_count_169 : decode cX12_count 169 = .ok (.getfield 258, 3) := by decide +kernel
theorem dX12_count_172 : decode cX12_count 172 = .ok (.iaload, 1) := by decide +kernel
theorem dX12_count_173 : decode cX12_count 173 = .ok (.if_icmp .ge 26, 3) := by decide +kernel
theorem dX12_count_176 : decode cX12_count 176 = .ok (.iload_n 2, 1) := by decide +kernel
theorem dX12_count_177 : decode cX12_count 177 = .ok (.aload_n 0, 1) := by decide +kernel
theorem dX12_count_178 : decode cX12_count 178 = .ok (.getfield 61, 3) := by decide +kernel
theorem dX12_count_181 : decode cX12_count 181 = .ok (.bipush 7, 2) := by decide +kernel
theorem dX12_count_183 : decode cX12_count 183 = .ok (.aload_n 0, 1) := by decide +kernel
theorem dX12_count_184 : decode cX12_count 184 = .ok (.getfield 258, 3) := by decide +kernel
theorem dX12_count_187 : decode cX12_count 187 = .ok (.imul, 1) := by decide +kernel
theorem dX12_count_188 : decode cX12_count 188 = .ok (.iload_n 3, 1) := by decide +kernel
theorem dX12_count_189 : decode cX12_count 189 = .ok (.iadd, 1) := by decide +kernel
theorem dX12_count_190 : decode cX12_count 190 = .ok (.iaload, 1) := by decide +kernel
theorem dX12_count_191 : decode cX12_count 191 = .ok (.iadd, 1) := by decide +kernel
theorem dX12_count_192 : decode cX12_count 192 = .ok (.istore_n 2, 1) := by decide +kernel
theorem dX12_count_193 : decode cX12_count 193 = .ok (.iinc 3 1, 3) := by decide +kernel
theorem dX12_count_196 : decode cX12_count 196 = .ok (.goto (-33), 3) := by decide +kernel
theorem dX12_count_199 : decode cX12_count 199 = .ok (.iload_n 2, 1) := by decide +kernel
theorem dX12_count_200 : decode cX12_count 200 = .ok (.ireturn, 1) := by decide +kernel
theorem dX12_count_201 : decode cX12_count 201 = .ok (.aload_n 0, 1) := by decide +kernel
theorem dX12_count_202 : decode cX12_count 202 = .ok (.getfield 191, 3) := by decide +kernel
theorem dX12_count_205 : decode cX12_count 205 = .ok (.ireturn, 1) := by decide +kernel
theorem dX12_count_206 : decode cX12_count 206 = .ok (.aload_n 0, 1) := by decide +kernel
theorem dX12_count_207 : decode cX12_count 207 = .ok (.getfield 283, 3) := by decide +kernel
theorem dX12_count_210 : decode cX12_count 210 = .ok (.ireturn, 1) := by decide +kernel
theorem dX12_count_211 : decode cX12_count 211 = .ok (.aload_n 0, 1) := by decide +kernel
theorem dX12_count_212 : decode cX12_count 212 = .ok (.getfield 286, 3) := by decide +kernel
theorem dX12_count_215 : decode cX12_count 215 = .ok (.ireturn, 1) := by decide +kernel
theorem dX12_count_216 : decode cX12_count 216 = .ok (.aload_n 0, 1) := by decide +kernel
theorem dX12_count_217 : decode cX12_count 217 = .ok (.getfield 171, 3) := by decide +kernel
theorem dX12_count_220 : decode cX12_count 220 = .ok (.iconst 0, 1) := by decide +kernel
theorem dX12_count_221 : decode cX12_count 221 = .ok (.baload, 1) := by decide +kernel
theorem dX12_count_222 : decode cX12_count 222 = .ok (.ifCond .eq 7, 3) := by decide +kernel
theorem dX12_count_225 : decode cX12_count 225 = .ok (.iconst 1, 1) := by decide +kernel
theorem dX12_count_226 : decode cX12_count 226 = .ok (.goto 4, 3) := by decide +kernel
theorem dX12_count_229 : decode cX12_count 229 = .ok (.iconst 0, 1) := by decide +kernel
theorem dX12_count_230 : decode cX12_count 230 = .ok (.aload_n 0, 1) := by decide +kernel
theorem dX12_count_231 : decode cX12_count 231 = .ok (.getfield 171, 3) := by decide +kernel
theorem dX12_count_234 : decode cX12_count 234 = .ok (.iconst 1, 1) := by decide +kernel
theorem dX12_count_235 : decode cX12_count 235 = .ok (.baload, 1) := by decide +kernel
theorem dX12_count_236 : decode cX12_count 236 = .ok (.ifCond .eq 7, 3) := by decide +kernel
theorem dX12_count_239 : decode cX12_count 239 = .ok (.iconst 1, 1) := by decide +kernel
theorem dX12_count_240 : decode cX12_count 240 = .ok (.goto 4, 3) := by decide +kernel
theorem dX12_count_243 : decode cX12_count 243 = .ok (.iconst 0, 1) := by decide +kernel
theorem dX12_count_244 : decode cX12_count 244 = .ok (.iadd, 1) := by decide +kernel
theorem dX12_count_245 : decode cX12_count 245 = .ok (.aload_n 0, 1) := by decide +kernel
theorem dX12_count_246 : decode cX12_count 246 = .ok (.getfield 171, 3) := by decide +kernel
theorem dX12_count_249 : decode cX12_count 249 = .ok (.iconst 2, 1) := by decide +kernel
theorem dX12_count_250 : decode cX12_count 250 = .ok (.baload, 1) := by decide +kernel
theorem dX12_count_251 : decode cX12_count 251 = .ok (.ifCond .eq 7, 3) := by decide +kernel
theorem dX12_count_254 : decode cX12_count 254 = .ok (.iconst 1, 1) := by decide +kernel
theorem dX12_count_255 : decode cX12_count 255 = .ok (.goto 4, 3) := by decide +kernel
theorem dX12_count_258 : decode cX12_count 258 = .ok (.iconst 0, 1) := by decide +kernel
theorem dX12_count_259 : decode cX12_count 259 = .ok (.iadd, 1) := by decide +kernel
theorem dX12_count_260 : decode cX12_count 260 = .ok (.ireturn, 1) := by decide +kernel
theorem dX12_count_261 : decode cX12_count 261 = .ok (.iconst (-1), 1) := by decide +kernel
theorem dX12_count_262 : decode cX12_count 262 = .ok (.ireturn, 1) := by decide +kernel
