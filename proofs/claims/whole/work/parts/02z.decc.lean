/-! ===== decode rows ===== -/
theorem dX12_init_0 : decode cX12_init 0 = .ok (.aload_n 0, 1) := by decide +kernel
theorem dX12_init_1 : decode cX12_init 1 = .ok (.invokespecial 1, 3) := by decide +kernel
theorem dX12_init_4 : decode cX12_init 4 = .ok (.aload_n 0, 1) := by decide +kernel
theorem dX12_init_5 : decode cX12_init 5 = .ok (.iconst 0, 1) := by decide +kernel
theorem dX12_init_6 : decode cX12_init 6 = .ok (.putfield 7, 3) := by decide +kernel
theorem dX12_init_9 : decode cX12_init 9 = .ok (.aload_n 0, 1) := by decide +kernel
theorem dX12_init_10 : decode cX12_init 10 = .ok (.iconst 0, 1) := by decide +kernel
theorem dX12_init_11 : decode cX12_init 11 = .ok (.putfield 13, 3) := by decide +kernel
theorem dX12_init_14 : decode cX12_init 14 = .ok (.aload_n 0, 1) := by decide +kernel
theorem dX12_init_15 : decode cX12_init 15 = .ok (.bipush 6, 2) := by decide +kernel
theorem dX12_init_17 : decode cX12_init 17 = .ok (.newarray .int, 2) := by decide +kernel
theorem dX12_init_19 : decode cX12_init 19 = .ok (.putfield 16, 3) := by decide +kernel
theorem dX12_init_22 : decode cX12_init 22 = .ok (.aload_n 0, 1) := by decide +kernel
theorem dX12_init_23 : decode cX12_init 23 = .ok (.bipush 6, 2) := by decide +kernel
theorem dX12_init_25 : decode cX12_init 25 = .ok (.newarray .int, 2) := by decide +kernel
theorem dX12_init_27 : decode cX12_init 27 = .ok (.putfield 20, 3) := by decide +kernel
theorem dX12_init_30 : decode cX12_init 30 = .ok (.aload_n 0, 1) := by decide +kernel
theorem dX12_init_31 : decode cX12_init 31 = .ok (.bipush 6, 2) := by decide +kernel
theorem dX12_init_33 : decode cX12_init 33 = .ok (.newarray .int, 2) := by decide +kernel
theorem dX12_init_35 : decode cX12_init 35 = .ok (.putfield 23, 3) := by decide +kernel
theorem dX12_init_38 : decode cX12_init 38 = .ok (.aload_n 0, 1) := by decide +kernel
theorem dX12_init_39 : decode cX12_init 39 = .ok (.bipush 6, 2) := by decide +kernel
theorem dX12_init_41 : decode cX12_init 41 = .ok (.newarray .int, 2) := by decide +kernel
theorem dX12_init_43 : decode cX12_init 43 = .ok (.putfield 26, 3) := by decide +kernel
theorem dX12_init_46 : decode cX12_init 46 = .ok (.aload_n 0, 1) := by decide +kernel
theorem dX12_init_47 : decode cX12_init 47 = .ok (.bipush 6, 2) := by decide +kernel
theorem dX12_init_49 : decode cX12_init 49 = .ok (.newarray .int, 2) := by decide +kernel
theorem dX12_init_51 : decode cX12_init 51 = .ok (.putfield 29, 3) := by decide +kernel
theorem dX12_init_54 : decode cX12_init 54 = .ok (.aload_n 0, 1) := by decide +kernel
theorem dX12_init_55 : decode cX12_init 55 = .ok (.bipush 13, 2) := by decide +kernel
theorem dX12_init_57 : decode cX12_init 57 = .ok (.newarray .int, 2) := by decide +kernel
theorem dX12_init_59 : decode cX12_init 59 = .ok (.putfield 32, 3) := by decide +kernel
theorem dX12_init_62 : decode cX12_init 62 = .ok (.aload_n 0, 1) := by decide +kernel
theorem dX12_init_63 : decode cX12_init 63 = .ok (.bipush 13, 2) := by decide +kernel
theorem dX12_init_65 : decode cX12_init 65 = .ok (.newarray .int, 2) := by decide +kernel
theorem dX12_init_67 : decode cX12_init 67 = .ok (.putfield 35, 3) := by decide +kernel
theorem dX12_init_70 : decode cX12_init 70 = .ok (.aload_n 0, 1) := by decide +kernel
theorem dX12_init_71 : decode cX12_init 71 = .ok (.iconst 0, 1) := by decide +kernel
theorem dX12_init_72 : decode cX12_init 72 = .ok (.putfield 38, 3) := by decide +kernel
theorem dX12_init_75 : decode cX12_init 75 = .ok (.aload_n 0, 1) := by decide +kernel
theorem dX12_init_76 : decode cX12_init 76 = .ok (.iconst (-1), 1) := by decide +kernel
theorem dX12_init_77 : decode cX12_init 77 = .ok (.putfield 41, 3) := by decide +kernel
theorem dX12_init_80 : decode cX12_init 80 = .ok (.aload_n 0, 1) := by decide +kernel
theorem dX12_init_81 : decode cX12_init 81 = .ok (.iconst 0, 1) := by decide +kernel
theorem dX12_init_82 : decode cX12_init 82 = .ok (.putfield 44, 3) := by decide +kernel
theorem dX12_init_85 : decode cX12_init 85 = .ok (.aload_n 0, 1) := by decide +kernel
theorem dX12_init_86 : decode cX12_init 86 = .ok (.iconst 0, 1) := by decide +kernel
theorem dX12_init_87 : decode cX12_init 87 = .ok (.putfield 47, 3) := by decide +kernel
theorem dX12_init_90 : decode cX12_init 90 = .ok (.aload_n 0, 1) := by decide +kernel
theorem dX12_init_91 : decode cX12_init 91 = .ok (.iconst 0, 1) := by decide +kernel
theorem dX12_init_92 : decode cX12_init 92 = .ok (.putfield 50, 3) := by decide +kernel
theorem dX12_init_95 : decode cX12_init 95 = .ok (.aload_n 0, 1) := by decide +kernel
theorem dX12_init_96 : decode cX12_init 96 = .ok (.bipush 100, 2) := by decide +kernel
theorem dX12_init_98 : decode cX12_init 98 = .ok (.newarray .int, 2) := by decide +kernel
theorem dX12_init_100 : decode cX12_init 100 = .ok (.putfield 53, 3) := by decide +kernel
theorem dX12_init_103 : decode cX12_init 103 = .ok (.aload_n 0, 1) := by decide +kernel
theorem dX12_init_104 : decode cX12_init 104 = .ok (.bipush 6, 2) := by decide +kernel
theorem dX12_init_106 : decode cX12_init 106 = .ok (.newarray .int, 2) := by decide +kernel
theorem dX12_init_108 : decode cX12_init 108 = .ok (.putfield 56, 3) := by decide +kernel
theorem dX12_init_111 : decode cX12_init 111 = .ok (.aload_n 0, 1) := by decide +kernel
theorem dX12_init_112 : decode cX12_init 112 = .ok (.bipush 48, 2) := by decide +kernel
theorem dX12_init_114 : decode cX12_init 114 = .ok (.newarray .int, 2) := by decide +kernel
theorem dX12_init_116 : decode cX12_init 116 = .ok (.putfield 59, 3) := by decide +kernel
theorem dX12_init_119 : decode cX12_init 119 = .ok (.aload_n 0, 1) := by decide +kernel
theorem dX12_init_120 : decode cX12_init 120 = .ok (.bipush 48, 2) := by decide +kernel
theorem dX12_init_122 : decode cX12_init 122 = .ok (.newarray .int, 2) := by decide +kernel
theorem dX12_init_124 : decode cX12_init 124 = .ok (.putfield 62, 3) := by decide +kernel
theorem dX12_init_127 : decode cX12_init 127 = .ok (.aload_n 0, 1) := by decide +kernel
theorem dX12_init_128 : decode cX12_init 128 = .ok (.bipush 48, 2) := by decide +kernel
theorem dX12_init_130 : decode cX12_init 130 = .ok (.newarray .int, 2) := by decide +kernel
theorem dX12_init_132 : decode cX12_init 132 = .ok (.putfield 65, 3) := by decide +kernel
theorem dX12_init_135 : decode cX12_init 135 = .ok (.aload_n 0, 1) := by decide +kernel
theorem dX12_init_136 : decode cX12_init 136 = .ok (.bipush 48, 2) := by decide +kernel
theorem dX12_init_138 : decode cX12_init 138 = .ok (.newarray .int, 2) := by decide +kernel
theorem dX12_init_140 : decode cX12_init 140 = .ok (.putfield 68, 3) := by decide +kernel
theorem dX12_init_143 : decode cX12_init 143 = .ok (.aload_n 0, 1) := by decide +kernel
theorem dX12_init_144 : decode cX12_init 144 = .ok (.bipush 48, 2) := by decide +kernel
theorem dX12_init_146 : decode cX12_init 146 = .ok (.newarray .int, 2) := by decide +kernel
theorem dX12_init_148 : decode cX12_init 148 = .ok (.putfield 71, 3) := by decide +kernel
theorem dX12_init_151 : decode cX12_init 151 = .ok (.aload_n 0, 1) := by decide +kernel
theorem dX12_init_152 : decode cX12_init 152 = .ok (.sipush 600, 3) := by decide +kernel
theorem dX12_init_155 : decode cX12_init 155 = .ok (.newarray .int, 2) := by decide +kernel
theorem dX12_init_157 : decode cX12_init 157 = .ok (.putfield 74, 3) := by decide +kernel
theorem dX12_init_160 : decode cX12_init 160 = .ok (.aload_n 0, 1) := by decide +kernel
theorem dX12_init_161 : decode cX12_init 161 = .ok (.bipush 101, 2) := by decide +kernel
theorem dX12_init_163 : decode cX12_init 163 = .ok (.newarray .int, 2) := by decide +kernel
theorem dX12_init_165 : decode cX12_init 165 = .ok (.putfield 77, 3) := by decide +kernel
theorem dX12_init_168 : decode cX12_init 168 = .ok (.aload_n 0, 1) := by decide +kernel
theorem dX12_init_169 : decode cX12_init 169 = .ok (.iconst 0, 1) := by decide +kernel
theorem dX12_init_170 : decode cX12_init 170 = .ok (.putfield 80, 3) := by decide +kernel
theorem dX12_init_173 : decode cX12_init 173 = .ok (.aload_n 0, 1) := by decide +kernel
theorem dX12_init_174 : decode cX12_init 174 = .ok (.iconst 0, 1) := by decide +kernel
theorem dX12_init_175 : decode cX12_init 175 = .ok (.putfield 83, 3) := by decide +kernel
theorem dX12_init_178 : decode cX12_init 178 = .ok (.aload_n 0, 1) := by decide +kernel
theorem dX12_init_179 : decode cX12_init 179 = .ok (.iconst 0, 1) := by decide +kernel
theorem dX12_init_180 : decode cX12_init 180 = .ok (.putfield 86, 3) := by decide +kernel
theorem dX12_init_183 : decode cX12_init 183 = .ok (.aload_n 0, 1) := by decide +kernel
theorem dX12_init_184 : decode cX12_init 184 = .ok (.bipush 100, 2) := by decide +kernel
theorem dX12_init_186 : decode cX12_init 186 = .ok (.newarray .boolean, 2) := by decide +kernel
theorem dX12_init_188 : decode cX12_init 188 = .ok (.putfield 89, 3) := by decide +kernel
theorem dX12_init_191 : decode cX12_init 191 = .ok (.aload_n 0, 1) := by decide +kernel
theorem dX12_init_192 : decode cX12_init 192 = .ok (.iconst 0, 1) := by decide +kernel
theorem dX12_init_193 : decode cX12_init 193 = .ok (.putfield 93, 3) := by decide +kernel
theorem dX12_init_196 : decode cX12_init 196 = .ok (.aload_n 0, 1) := by decide +kernel
theorem dX12_init_197 : decode cX12_init 197 = .ok (.bipush 11, 2) := by decide +kernel
theorem dX12_init_199 : decode cX12_init 199 = .ok (.newarray .int, 2) := by decide +kernel
theorem dX12_init_201 : decode cX12_init 201 = .ok (.putfield 96, 3) := by decide +kernel
theorem dX12_init_204 : decode cX12_init 204 = .ok (.aload_n 0, 1) := by decide +kernel
theorem dX12_init_205 : decode cX12_init 205 = .ok (.bipush 11, 2) := by decide +kernel
theorem dX12_init_207 : decode cX12_init 207 = .ok (.newarray .int, 2) := by decide +kernel
theorem dX12_init_209 : decode cX12_init 209 = .ok (.putfield 99, 3) := by decide +kernel
theorem dX12_init_212 : decode cX12_init 212 = .ok (.aload_n 0, 1) := by decide +kernel
theorem dX12_init_213 : decode cX12_init 213 = .ok (.bipush 110, 2) := by decide +kernel
theorem dX12_init_215 : decode cX12_init 215 = .ok (.newarray .int, 2) := by decide +kernel
theorem dX12_init_217 : decode cX12_init 217 = .ok (.putfield 102, 3) := by decide +kernel
theorem dX12_init_220 : decode cX12_init 220 = .ok (.aload_n 0, 1) := by decide +kernel
theorem dX12_init_221 : decode cX12_init 221 = .ok (.iconst 0, 1) := by decide +kernel
theorem dX12_init_222 : decode cX12_init 222 = .ok (.putfield 105, 3) := by decide +kernel
theorem dX12_init_225 : decode cX12_init 225 = .ok (.aload_n 0, 1) := by decide +kernel
theorem dX12_init_226 : decode cX12_init 226 = .ok (.iconst 0, 1) := by decide +kernel
theorem dX12_init_227 : decode cX12_init 227 = .ok (.putfield 108, 3) := by decide +kernel
theorem dX12_init_230 : decode cX12_init 230 = .ok (.aload_n 0, 1) := by decide +kernel
theorem dX12_init_231 : decode cX12_init 231 = .ok (.iconst 0, 1) := by decide +kernel
theorem dX12_init_232 : decode cX12_init 232 = .ok (.putfield 111, 3) := by decide +kernel
theorem dX12_init_235 : decode cX12_init 235 = .ok (.aload_n 0, 1) := by decide +kernel
theorem dX12_init_236 : decode cX12_init 236 = .ok (.iconst 0, 1) := by decide +kernel
theorem dX12_init_237 : decode cX12_init 237 = .ok (.putfield 114, 3) := by decide +kernel
theorem dX12_init_240 : decode cX12_init 240 = .ok (.aload_n 0, 1) := by decide +kernel
theorem dX12_init_241 : decode cX12_init 241 = .ok (.iconst 0, 1) := by decide +kernel
theorem dX12_init_242 : decode cX12_init 242 = .ok (.putfield 117, 3) := by decide +kernel
theorem dX12_init_245 : decode cX12_init 245 = .ok (.aload_n 0, 1) := by decide +kernel
theorem dX12_init_246 : decode cX12_init 246 = .ok (.iconst 0, 1) := by decide +kernel
theorem dX12_init_247 : decode cX12_init 247 = .ok (.putfield 120, 3) := by decide +kernel
theorem dX12_init_250 : decode cX12_init 250 = .ok (.aload_n 0, 1) := by decide +kernel
theorem dX12_init_251 : decode cX12_init 251 = .ok (.bipush 30, 2) := by decide +kernel
theorem dX12_init_253 : decode cX12_init 253 = .ok (.putfield 123, 3) := by decide +kernel
theorem dX12_init_256 : decode cX12_init 256 = .ok (.aload_n 0, 1) := by decide +kernel
theorem dX12_init_257 : decode cX12_init 257 = .ok (.iconst 0, 1) := by decide +kernel
theorem dX12_init_258 : decode cX12_init 258 = .ok (.putfield 126, 3) := by decide +kernel
theorem dX12_init_261 : decode cX12_init 261 = .ok (.aload_n 0, 1) := by decide +kernel
theorem dX12_init_262 : decode cX12_init 262 = .ok (.iconst 0, 1) := by decide +kernel
theorem dX12_init_263 : decode cX12_init 263 = .ok (.putfield 129, 3) := by decide +kernel
theorem dX12_init_266 : decode cX12_init 266 = .ok (.aload_n 0, 1) := by decide +kernel
theorem dX12_init_267 : decode cX12_init 267 = .ok (.iconst 0, 1) := by decide +kernel
theorem dX12_init_268 : decode cX12_init 268 = .ok (.putfield 132, 3) := by decide +kernel
theorem dX12_init_271 : decode cX12_init 271 = .ok (.aload_n 0, 1) := by decide +kernel
theorem dX12_init_272 : decode cX12_init 272 = .ok (.bipush 41, 2) := by decide +kernel
theorem dX12_init_274 : decode cX12_init 274 = .ok (.newarray .int, 2) := by decide +kernel
theorem dX12_init_276 : decode cX12_init 276 = .ok (.putfield 135, 3) := by decide +kernel
theorem dX12_init_279 : decode cX12_init 279 = .ok (.aload_n 0, 1) := by decide +kernel
theorem dX12_init_280 : decode cX12_init 280 = .ok (.bipush 41, 2) := by decide +kernel
theorem dX12_init_282 : decode cX12_init 282 = .ok (.newarray .int, 2) := by decide +kernel
theorem dX12_init_284 : decode cX12_init 284 = .ok (.putfield 138, 3) := by decide +kernel
theorem dX12_init_287 : decode cX12_init 287 = .ok (.aload_n 0, 1) := by decide +kernel
theorem dX12_init_288 : decode cX12_init 288 = .ok (.bipush 41, 2) := by decide +kernel
theorem dX12_init_290 : decode cX12_init 290 = .ok (.newarray .int, 2) := by decide +kernel
theorem dX12_init_292 : decode cX12_init 292 = .ok (.putfield 141, 3) := by decide +kernel
theorem dX12_init_295 : decode cX12_init 295 = .ok (.aload_n 0, 1) := by decide +kernel
theorem dX12_init_296 : decode cX12_init 296 = .ok (.bipush 41, 2) := by decide +kernel
theorem dX12_init_298 : decode cX12_init 298 = .ok (.newarray .int, 2) := by decide +kernel
theorem dX12_init_300 : decode cX12_init 300 = .ok (.putfield 144, 3) := by decide +kernel
theorem dX12_init_303 : decode cX12_init 303 = .ok (.aload_n 0, 1) := by decide +kernel
theorem dX12_init_304 : decode cX12_init 304 = .ok (.bipush 41, 2) := by decide +kernel
theorem dX12_init_306 : decode cX12_init 306 = .ok (.newarray .int, 2) := by decide +kernel
theorem dX12_init_308 : decode cX12_init 308 = .ok (.putfield 147, 3) := by decide +kernel
theorem dX12_init_311 : decode cX12_init 311 = .ok (.aload_n 0, 1) := by decide +kernel
theorem dX12_init_312 : decode cX12_init 312 = .ok (.bipush 41, 2) := by decide +kernel
theorem dX12_init_314 : decode cX12_init 314 = .ok (.newarray .int, 2) := by decide +kernel
theorem dX12_init_316 : decode cX12_init 316 = .ok (.putfield 150, 3) := by decide +kernel
theorem dX12_init_319 : decode cX12_init 319 = .ok (.aload_n 0, 1) := by decide +kernel
theorem dX12_init_320 : decode cX12_init 320 = .ok (.bipush 82, 2) := by decide +kernel
theorem dX12_init_322 : decode cX12_init 322 = .ok (.newarray .int, 2) := by decide +kernel
theorem dX12_init_324 : decode cX12_init 324 = .ok (.putfield 153, 3) := by decide +kernel
theorem dX12_init_327 : decode cX12_init 327 = .ok (.aload_n 0, 1) := by decide +kernel
theorem dX12_init_328 : decode cX12_init 328 = .ok (.iconst 2, 1) := by decide +kernel
theorem dX12_init_329 : decode cX12_init 329 = .ok (.newarray .int, 2) := by decide +kernel
theorem dX12_init_331 : decode cX12_init 331 = .ok (.putfield 156, 3) := by decide +kernel
theorem dX12_init_334 : decode cX12_init 334 = .ok (.aload_n 0, 1) := by decide +kernel
theorem dX12_init_335 : decode cX12_init 335 = .ok (.iconst 2, 1) := by decide +kernel
theorem dX12_init_336 : decode cX12_init 336 = .ok (.newarray .int, 2) := by decide +kernel
theorem dX12_init_338 : decode cX12_init 338 = .ok (.putfield 159, 3) := by decide +kernel
theorem dX12_init_341 : decode cX12_init 341 = .ok (.aload_n 0, 1) := by decide +kernel
theorem dX12_init_342 : decode cX12_init 342 = .ok (.bipush 41, 2) := by decide +kernel
theorem dX12_init_344 : decode cX12_init 344 = .ok (.newarray .int, 2) := by decide +kernel
theorem dX12_init_346 : decode cX12_init 346 = .ok (.putfield 162, 3) := by decide +kernel
theorem dX12_init_349 : decode cX12_init 349 = .ok (.aload_n 0, 1) := by decide +kernel
theorem dX12_init_350 : decode cX12_init 350 = .ok (.bipush 41, 2) := by decide +kernel
theorem dX12_init_352 : decode cX12_init 352 = .ok (.newarray .int, 2) := by decide +kernel
theorem dX12_init_354 : decode cX12_init 354 = .ok (.putfield 165, 3) := by decide +kernel
theorem dX12_init_357 : decode cX12_init 357 = .ok (.aload_n 0, 1) := by decide +kernel
theorem dX12_init_358 : decode cX12_init 358 = .ok (.sipush 200, 3) := by decide +kernel
theorem dX12_init_361 : decode cX12_init 361 = .ok (.newarray .int, 2) := by decide +kernel
theorem dX12_init_363 : decode cX12_init 363 = .ok (.putfield 168, 3) := by decide +kernel
theorem dX12_init_366 : decode cX12_init 366 = .ok (.aload_n 0, 1) := by decide +kernel
theorem dX12_init_367 : decode cX12_init 367 = .ok (.bipush 6, 2) := by decide +kernel
theorem dX12_init_369 : decode cX12_init 369 = .ok (.newarray .int, 2) := by decide +kernel
theorem dX12_init_371 : decode cX12_init 371 = .ok (.putfield 171, 3) := by decide +kernel
theorem dX12_init_374 : decode cX12_init 374 = .ok (.aload_n 0, 1) := by decide +kernel
theorem dX12_init_375 : decode cX12_init 375 = .ok (.iconst 0, 1) := by decide +kernel
theorem dX12_init_376 : decode cX12_init 376 = .ok (.putfield 174, 3) := by decide +kernel
theorem dX12_init_379 : decode cX12_init 379 = .ok (.aload_n 0, 1) := by decide +kernel
theorem dX12_init_380 : decode cX12_init 380 = .ok (.iconst (-1), 1) := by decide +kernel
theorem dX12_init_381 : decode cX12_init 381 = .ok (.putfield 178, 3) := by decide +kernel
theorem dX12_init_384 : decode cX12_init 384 = .ok (.aload_n 0, 1) := by decide +kernel
theorem dX12_init_385 : decode cX12_init 385 = .ok (.iconst 0, 1) := by decide +kernel
theorem dX12_init_386 : decode cX12_init 386 = .ok (.putfield 181, 3) := by decide +kernel
theorem dX12_init_389 : decode cX12_init 389 = .ok (.aload_n 0, 1) := by decide +kernel
theorem dX12_init_390 : decode cX12_init 390 = .ok (.iconst 0, 1) := by decide +kernel
theorem dX12_init_391 : decode cX12_init 391 = .ok (.putfield 184, 3) := by decide +kernel
theorem dX12_init_394 : decode cX12_init 394 = .ok (.aload_n 0, 1) := by decide +kernel
theorem dX12_init_395 : decode cX12_init 395 = .ok (.bipush 6, 2) := by decide +kernel
theorem dX12_init_397 : decode cX12_init 397 = .ok (.newarray .int, 2) := by decide +kernel
theorem dX12_init_399 : decode cX12_init 399 = .ok (.putfield 187, 3) := by decide +kernel
theorem dX12_init_402 : decode cX12_init 402 = .ok (.aload_n 0, 1) := by decide +kernel
theorem dX12_init_403 : decode cX12_init 403 = .ok (.bipush 12, 2) := by decide +kernel
theorem dX12_init_405 : decode cX12_init 405 = .ok (.newarray .int, 2) := by decide +kernel
theorem dX12_init_407 : decode cX12_init 407 = .ok (.putfield 190, 3) := by decide +kernel
theorem dX12_init_410 : decode cX12_init 410 = .ok (.aload_n 0, 1) := by decide +kernel
theorem dX12_init_411 : decode cX12_init 411 = .ok (.bipush 12, 2) := by decide +kernel
theorem dX12_init_413 : decode cX12_init 413 = .ok (.newarray .int, 2) := by decide +kernel
theorem dX12_init_415 : decode cX12_init 415 = .ok (.putfield 193, 3) := by decide +kernel
theorem dX12_init_418 : decode cX12_init 418 = .ok (.aload_n 0, 1) := by decide +kernel
theorem dX12_init_419 : decode cX12_init 419 = .ok (.iconst 0, 1) := by decide +kernel
theorem dX12_init_420 : decode cX12_init 420 = .ok (.putfield 196, 3) := by decide +kernel
theorem dX12_init_423 : decode cX12_init 423 = .ok (.aload_n 0, 1) := by decide +kernel
theorem dX12_init_424 : decode cX12_init 424 = .ok (.bipush 20, 2) := by decide +kernel
theorem dX12_init_426 : decode cX12_init 426 = .ok (.newarray .int, 2) := by decide +kernel
theorem dX12_init_428 : decode cX12_init 428 = .ok (.putfield 199, 3) := by decide +kernel
theorem dX12_init_431 : decode cX12_init 431 = .ok (.aload_n 0, 1) := by decide +kernel
theorem dX12_init_432 : decode cX12_init 432 = .ok (.bipush 6, 2) := by decide +kernel
theorem dX12_init_434 : decode cX12_init 434 = .ok (.newarray .int, 2) := by decide +kernel
theorem dX12_init_436 : decode cX12_init 436 = .ok (.dup, 1) := by decide +kernel
theorem dX12_init_437 : decode cX12_init 437 = .ok (.iconst 0, 1) := by decide +kernel
theorem dX12_init_438 : decode cX12_init 438 = .ok (.iconst (-1), 1) := by decide +kernel
theorem dX12_init_439 : decode cX12_init 439 = .ok (.iastore, 1) := by decide +kernel
theorem dX12_init_440 : decode cX12_init 440 = .ok (.dup, 1) := by decide +kernel
theorem dX12_init_441 : decode cX12_init 441 = .ok (.iconst 1, 1) := by decide +kernel
theorem dX12_init_442 : decode cX12_init 442 = .ok (.iconst (-1), 1) := by decide +kernel
theorem dX12_init_443 : decode cX12_init 443 = .ok (.iastore, 1) := by decide +kernel
theorem dX12_init_444 : decode cX12_init 444 = .ok (.dup, 1) := by decide +kernel
theorem dX12_init_445 : decode cX12_init 445 = .ok (.iconst 2, 1) := by decide +kernel
theorem dX12_init_446 : decode cX12_init 446 = .ok (.iconst (-1), 1) := by decide +kernel
theorem dX12_init_447 : decode cX12_init 447 = .ok (.iastore, 1) := by decide +kernel
theorem dX12_init_448 : decode cX12_init 448 = .ok (.dup, 1) := by decide +kernel
theorem dX12_init_449 : decode cX12_init 449 = .ok (.iconst 3, 1) := by decide +kernel
theorem dX12_init_450 : decode cX12_init 450 = .ok (.iconst (-1), 1) := by decide +kernel
theorem dX12_init_451 : decode cX12_init 451 = .ok (.iastore, 1) := by decide +kernel
theorem dX12_init_452 : decode cX12_init 452 = .ok (.dup, 1) := by decide +kernel
theorem dX12_init_453 : decode cX12_init 453 = .ok (.iconst 4, 1) := by decide +kernel
theorem dX12_init_454 : decode cX12_init 454 = .ok (.iconst (-1), 1) := by decide +kernel
theorem dX12_init_455 : decode cX12_init 455 = .ok (.iastore, 1) := by decide +kernel
theorem dX12_init_456 : decode cX12_init 456 = .ok (.dup, 1) := by decide +kernel
theorem dX12_init_457 : decode cX12_init 457 = .ok (.iconst 5, 1) := by decide +kernel
theorem dX12_init_458 : decode cX12_init 458 = .ok (.iconst (-1), 1) := by decide +kernel
theorem dX12_init_459 : decode cX12_init 459 = .ok (.iastore, 1) := by decide +kernel
theorem dX12_init_460 : decode cX12_init 460 = .ok (.putfield 202, 3) := by decide +kernel
theorem dX12_init_463 : decode cX12_init 463 = .ok (.aload_n 0, 1) := by decide +kernel
theorem dX12_init_464 : decode cX12_init 464 = .ok (.bipush 6, 2) := by decide +kernel
theorem dX12_init_466 : decode cX12_init 466 = .ok (.newarray .int, 2) := by decide +kernel
theorem dX12_init_468 : decode cX12_init 468 = .ok (.putfield 205, 3) := by decide +kernel
theorem dX12_init_471 : decode cX12_init 471 = .ok (.aload_n 0, 1) := by decide +kernel
theorem dX12_init_472 : decode cX12_init 472 = .ok (.sipush 360, 3) := by decide +kernel
theorem dX12_init_475 : decode cX12_init 475 = .ok (.newarray .long, 2) := by decide +kernel
theorem dX12_init_477 : decode cX12_init 477 = .ok (.putfield 208, 3) := by decide +kernel
theorem dX12_init_480 : decode cX12_init 480 = .ok (.aload_n 0, 1) := by decide +kernel
theorem dX12_init_481 : decode cX12_init 481 = .ok (.bipush 60, 2) := by decide +kernel
theorem dX12_init_483 : decode cX12_init 483 = .ok (.newarray .long, 2) := by decide +kernel
theorem dX12_init_485 : decode cX12_init 485 = .ok (.putfield 212, 3) := by decide +kernel
theorem dX12_init_488 : decode cX12_init 488 = .ok (.return_, 1) := by decide +kernel
theorem dX12_in_0 : decode cX12_in 0 = .ok (.iload_n 1, 1) := by decide +kernel
theorem dX12_in_1 : decode cX12_in 1 = .ok (.iload_n 2, 1) := by decide +kernel
theorem dX12_in_2 : decode cX12_in 2 = .ok (.if_icmp .lt 12, 3) := by decide +kernel
theorem dX12_in_5 : decode cX12_in 5 = .ok (.iload_n 1, 1) := by decide +kernel
theorem dX12_in_6 : decode cX12_in 6 = .ok (.iload_n 3, 1) := by decide +kernel
theorem dX12_in_7 : decode cX12_in 7 = .ok (.if_icmp .gt 7, 3) := by decide +kernel
theorem dX12_in_10 : decode cX12_in 10 = .ok (.iconst 1, 1) := by decide +kernel
theorem dX12_in_11 : decode cX12_in 11 = .ok (.goto 4, 3) := by decide +kernel
theorem dX12_in_14 : decode cX12_in 14 = .ok (.iconst 0, 1) := by decide +kernel
theorem dX12_in_15 : decode cX12_in 15 = .ok (.ireturn, 1) := by decide +kernel
theorem dX12_min_0 : decode cX12_min 0 = .ok (.iload_n 1, 1) := by decide +kernel
theorem dX12_min_1 : decode cX12_min 1 = .ok (.iload_n 2, 1) := by decide +kernel
theorem dX12_min_2 : decode cX12_min 2 = .ok (.if_icmp .ge 7, 3) := by decide +kernel
theorem dX12_min_5 : decode cX12_min 5 = .ok (.iload_n 1, 1) := by decide +kernel
theorem dX12_min_6 : decode cX12_min 6 = .ok (.goto 4, 3) := by decide +kernel
theorem dX12_min_9 : decode cX12_min 9 = .ok (.iload_n 2, 1) := by decide +kernel
theorem dX12_min_10 : decode cX12_min 10 = .ok (.ireturn, 1) := by decide +kernel
theorem dX12_isSort_0 : decode cX12_isSort 0 = .ok (.aload_n 0, 1) := by decide +kernel
theorem dX12_isSort_1 : decode cX12_isSort 1 = .ok (.iload_n 1, 1) := by decide +kernel
theorem dX12_isSort_2 : decode cX12_isSort 2 = .ok (.iconst 0, 1) := by decide +kernel
theorem dX12_isSort_3 : decode cX12_isSort 3 = .ok (.aload_n 0, 1) := by decide +kernel
theorem dX12_isSort_4 : decode cX12_isSort 4 = .ok (.getfield 7, 3) := by decide +kernel
theorem dX12_isSort_7 : decode cX12_isSort 7 = .ok (.iconst 1, 1) := by decide +kernel
theorem dX12_isSort_8 : decode cX12_isSort 8 = .ok (.isub, 1) := by decide +kernel
theorem dX12_isSort_9 : decode cX12_isSort 9 = .ok (.invokevirtual 215, 3) := by decide +kernel
theorem dX12_isSort_12 : decode cX12_isSort 12 = .ok (.ireturn, 1) := by decide +kernel
theorem dX12_sort_0 : decode cX12_sort 0 = .ok (.aload_n 0, 1) := by decide +kernel
theorem dX12_sort_1 : decode cX12_sort 1 = .ok (.iload_n 1, 1) := by decide +kernel
theorem dX12_sort_2 : decode cX12_sort 2 = .ok (.iconst 0, 1) := by decide +kernel
theorem dX12_sort_3 : decode cX12_sort 3 = .ok (.bipush 9, 2) := by decide +kernel
theorem dX12_sort_5 : decode cX12_sort 5 = .ok (.invokevirtual 215, 3) := by decide +kernel
theorem dX12_sort_8 : decode cX12_sort 8 = .ok (.ifCond .eq 37, 3) := by decide +kernel
theorem dX12_sort_11 : decode cX12_sort 11 = .ok (.aload_n 0, 1) := by decide +kernel
theorem dX12_sort_12 : decode cX12_sort 12 = .ok (.iload_n 2, 1) := by decide +kernel
theorem dX12_sort_13 : decode cX12_sort 13 = .ok (.iconst 0, 1) := by decide +kernel
theorem dX12_sort_14 : decode cX12_sort 14 = .ok (.bipush 99, 2) := by decide +kernel
theorem dX12_sort_16 : decode cX12_sort 16 = .ok (.invokevirtual 215, 3) := by decide +kernel
theorem dX12_sort_19 : decode cX12_sort 19 = .ok (.ifCond .eq 26, 3) := by decide +kernel
theorem dX12_sort_22 : decode cX12_sort 22 = .ok (.aload_n 0, 1) := by decide +kernel
theorem dX12_sort_23 : decode cX12_sort 23 = .ok (.iload_n 3, 1) := by decide +kernel
theorem dX12_sort_24 : decode cX12_sort 24 = .ok (.iconst 0, 1) := by decide +kernel
theorem dX12_sort_25 : decode cX12_sort 25 = .ok (.bipush 20, 2) := by decide +kernel
theorem dX12_sort_27 : decode cX12_sort 27 = .ok (.invokevirtual 215, 3) := by decide +kernel
theorem dX12_sort_30 : decode cX12_sort 30 = .ok (.ifCond .eq 15, 3) := by decide +kernel
theorem dX12_sort_33 : decode cX12_sort 33 = .ok (.aload_n 0, 1) := by decide +kernel
theorem dX12_sort_34 : decode cX12_sort 34 = .ok (.iload 4, 2) := by decide +kernel
theorem dX12_sort_36 : decode cX12_sort 36 = .ok (.iconst 1, 1) := by decide +kernel
theorem dX12_sort_37 : decode cX12_sort 37 = .ok (.bipush 9, 2) := by decide +kernel
theorem dX12_sort_39 : decode cX12_sort 39 = .ok (.invokevirtual 215, 3) := by decide +kernel
theorem dX12_sort_42 : decode cX12_sort 42 = .ok (.ifCond .ne 6, 3) := by decide +kernel
theorem dX12_sort_45 : decode cX12_sort 45 = .ok (.bipush (-2), 2) := by decide +kernel
theorem dX12_sort_47 : decode cX12_sort 47 = .ok (.ireturn, 1) := by decide +kernel
theorem dX12_sort_48 : decode cX12_sort 48 = .ok (.aload_n 0, 1) := by decide +kernel
theorem dX12_sort_49 : decode cX12_sort 49 = .ok (.getfield 7, 3) := by decide +kernel
theorem dX12_sort_52 : decode cX12_sort 52 = .ok (.bipush 6, 2) := by decide +kernel
theorem dX12_sort_54 : decode cX12_sort 54 = .ok (.if_icmp .ne 6, 3) := by decide +kernel
theorem dX12_sort_57 : decode cX12_sort 57 = .ok (.bipush (-4), 2) := by decide +kernel
theorem dX12_sort_59 : decode cX12_sort 59 = .ok (.ireturn, 1) := by decide +kernel
theorem dX12_sort_60 : decode cX12_sort 60 = .ok (.aload_n 0, 1) := by decide +kernel
theorem dX12_sort_61 : decode cX12_sort 61 = .ok (.getfield 16, 3) := by decide +kernel
theorem dX12_sort_64 : decode cX12_sort 64 = .ok (.aload_n 0, 1) := by decide +kernel
theorem dX12_sort_65 : decode cX12_sort 65 = .ok (.getfield 7, 3) := by decide +kernel
theorem dX12_sort_68 : decode cX12_sort 68 = .ok (.iload_n 1, 1) := by decide +kernel
theorem dX12_sort_69 : decode cX12_sort 69 = .ok (.iastore, 1) := by decide +kernel
theorem dX12_sort_70 : decode cX12_sort 70 = .ok (.aload_n 0, 1) := by decide +kernel
theorem dX12_sort_71 : decode cX12_sort 71 = .ok (.getfield 20, 3) := by decide +kernel
theorem dX12_sort_74 : decode cX12_sort 74 = .ok (.aload_n 0, 1) := by decide +kernel
theorem dX12_sort_75 : decode cX12_sort 75 = .ok (.getfield 7, 3) := by decide +kernel
theorem dX12_sort_78 : decode cX12_sort 78 = .ok (.iload_n 2, 1) := by decide +kernel
theorem dX12_sort_79 : decode cX12_sort 79 = .ok (.iastore, 1) := by decide +kernel
theorem dX12_sort_80 : decode cX12_sort 80 = .ok (.aload_n 0, 1) := by decide +kernel
theorem dX12_sort_81 : decode cX12_sort 81 = .ok (.getfield 23, 3) := by decide +kernel
theorem dX12_sort_84 : decode cX12_sort 84 = .ok (.aload_n 0, 1) := by decide +kernel
theorem dX12_sort_85 : decode cX12_sort 85 = .ok (.getfield 7, 3) := by decide +kernel
theorem dX12_sort_88 : decode cX12_sort 88 = .ok (.iload_n 3, 1) := by decide +kernel
theorem dX12_sort_89 : decode cX12_sort 89 = .ok (.iastore, 1) := by decide +kernel
theorem dX12_sort_90 : decode cX12_sort 90 = .ok (.aload_n 0, 1) := by decide +kernel
theorem dX12_sort_91 : decode cX12_sort 91 = .ok (.getfield 26, 3) := by decide +kernel
theorem dX12_sort_94 : decode cX12_sort 94 = .ok (.aload_n 0, 1) := by decide +kernel
theorem dX12_sort_95 : decode cX12_sort 95 = .ok (.getfield 7, 3) := by decide +kernel
theorem dX12_sort_98 : decode cX12_sort 98 = .ok (.iload 4, 2) := by decide +kernel
theorem dX12_sort_100 : decode cX12_sort 100 = .ok (.iastore, 1) := by decide +kernel
theorem dX12_sort_101 : decode cX12_sort 101 = .ok (.aload_n 0, 1) := by decide +kernel
theorem dX12_sort_102 : decode cX12_sort 102 = .ok (.getfield 29, 3) := by decide +kernel
theorem dX12_sort_105 : decode cX12_sort 105 = .ok (.aload_n 0, 1) := by decide +kernel
theorem dX12_sort_106 : decode cX12_sort 106 = .ok (.getfield 7, 3) := by decide +kernel
theorem dX12_sort_109 : decode cX12_sort 109 = .ok (.bipush 10, 2) := by decide +kernel
theorem dX12_sort_111 : decode cX12_sort 111 = .ok (.iastore, 1) := by decide +kernel
theorem dX12_sort_112 : decode cX12_sort 112 = .ok (.aload_n 0, 1) := by decide +kernel
theorem dX12_sort_113 : decode cX12_sort 113 = .ok (.dup, 1) := by decide +kernel
theorem dX12_sort_114 : decode cX12_sort 114 = .ok (.getfield 7, 3) := by decide +kernel
theorem dX12_sort_117 : decode cX12_sort 117 = .ok (.iconst 1, 1) := by decide +kernel
theorem dX12_sort_118 : decode cX12_sort 118 = .ok (.iadd, 1) := by decide +kernel
theorem dX12_sort_119 : decode cX12_sort 119 = .ok (.putfield 7, 3) := by decide +kernel
theorem dX12_sort_122 : decode cX12_sort 122 = .ok (.aload_n 0, 1) := by decide +kernel
theorem dX12_sort_123 : decode cX12_sort 123 = .ok (.getfield 7, 3) := by decide +kernel
theorem dX12_sort_126 : decode cX12_sort 126 = .ok (.iconst 1, 1) := by decide +kernel
theorem dX12_sort_127 : decode cX12_sort 127 = .ok (.isub, 1) := by decide +kernel
theorem dX12_sort_128 : decode cX12_sort 128 = .ok (.ireturn, 1) := by decide +kernel
theorem dX12_of_0 : decode cX12_of 0 = .ok (.aload_n 0, 1) := by decide +kernel
theorem dX12_of_1 : decode cX12_of 1 = .ok (.iload_n 1, 1) := by decide +kernel
theorem dX12_of_2 : decode cX12_of 2 = .ok (.invokevirtual 219, 3) := by decide +kernel
theorem dX12_of_5 : decode cX12_of 5 = .ok (.ifCond .ne 5, 3) := by decide +kernel
theorem dX12_of_8 : decode cX12_of 8 = .ok (.iconst (-1), 1) := by decide +kernel
theorem dX12_of_9 : decode cX12_of 9 = .ok (.ireturn, 1) := by decide +kernel
theorem dX12_of_10 : decode cX12_of 10 = .ok (.iload_n 2, 1) := by decide +kernel
theorem dX12_of_11 : decode cX12_of 11 = .ok (.tableswitch 68 0 4 #[33, 40, 47, 54, 61], 33) := by decide +kernel
theorem dX12_of_44 : decode cX12_of 44 = .ok (.aload_n 0, 1) := by decide +kernel
theorem dX12_of_45 : decode cX12_of 45 = .ok (.getfield 16, 3) := by decide +kernel
theorem dX12_of_48 : decode cX12_of 48 = .ok (.iload_n 1, 1) := by decide +kernel
theorem dX12_of_49 : decode cX12_of 49 = .ok (.iaload, 1) := by decide +kernel
theorem dX12_of_50 : decode cX12_of 50 = .ok (.ireturn, 1) := by decide +kernel
theorem dX12_of_51 : decode cX12_of 51 = .ok (.aload_n 0, 1) := by decide +kernel
theorem dX12_of_52 : decode cX12_of 52 = .ok (.getfield 20, 3) := by decide +kernel
theorem dX12_of_55 : decode cX12_of 55 = .ok (.iload_n 1, 1) := by decide +kernel
theorem dX12_of_56 : decode cX12_of 56 = .ok (.iaload, 1) := by decide +kernel
theorem dX12_of_57 : decode cX12_of 57 = .ok (.ireturn, 1) := by decide +kernel
theorem dX12_of_58 : decode cX12_of 58 = .ok (.aload_n 0, 1) := by decide +kernel
theorem dX12_of_59 : decode cX12_of 59 = .ok (.getfield 23, 3) := by decide +kernel
theorem dX12_of_62 : decode cX12_of 62 = .ok (.iload_n 1, 1) := by decide +kernel
theorem dX12_of_63 : decode cX12_of 63 = .ok (.iaload, 1) := by decide +kernel
theorem dX12_of_64 : decode cX12_of 64 = .ok (.ireturn, 1) := by decide +kernel
theorem dX12_of_65 : decode cX12_of 65 = .ok (.aload_n 0, 1) := by decide +kernel
theorem dX12_of_66 : decode cX12_of 66 = .ok (.getfield 26, 3) := by decide +kernel
theorem dX12_of_69 : decode cX12_of 69 = .ok (.iload_n 1, 1) := by decide +kernel
theorem dX12_of_70 : decode cX12_of 70 = .ok (.iaload, 1) := by decide +kernel
theorem dX12_of_71 : decode cX12_of 71 = .ok (.ireturn, 1) := by decide +kernel
theorem dX12_of_72 : decode cX12_of 72 = .ok (.aload_n 0, 1) := by decide +kernel
theorem dX12_of_73 : decode cX12_of 73 = .ok (.getfield 29, 3) := by decide +kernel
theorem dX12_of_76 : decode cX12_of 76 = .ok (.iload_n 1, 1) := by decide +kernel
theorem dX12_of_77 : decode cX12_of 77 = .ok (.iaload, 1) := by decide +kernel
theorem dX12_of_78 : decode cX12_of 78 = .ok (.ireturn, 1) := by decide +kernel
theorem dX12_of_79 : decode cX12_of 79 = .ok (.iconst (-1), 1) := by decide +kernel
theorem dX12_of_80 : decode cX12_of 80 = .ok (.ireturn, 1) := by decide +kernel
theorem dX12_odds_0 : decode cX12_odds 0 = .ok (.aload_n 0, 1) := by decide +kernel
theorem dX12_odds_1 : decode cX12_odds 1 = .ok (.iload_n 1, 1) := by decide +kernel
theorem dX12_odds_2 : decode cX12_odds 2 = .ok (.invokevirtual 219, 3) := by decide +kernel
theorem dX12_odds_5 : decode cX12_odds 5 = .ok (.ifCond .ne 5, 3) := by decide +kernel
theorem dX12_odds_8 : decode cX12_odds 8 = .ok (.iconst (-1), 1) := by decide +kernel
theorem dX12_odds_9 : decode cX12_odds 9 = .ok (.ireturn, 1) := by decide +kernel
theorem dX12_odds_10 : decode cX12_odds 10 = .ok (.aload_n 0, 1) := by decide +kernel
theorem dX12_odds_11 : decode cX12_odds 11 = .ok (.iload_n 2, 1) := by decide +kernel
theorem dX12_odds_12 : decode cX12_odds 12 = .ok (.iconst 0, 1) := by decide +kernel
theorem dX12_odds_13 : decode cX12_odds 13 = .ok (.bipush 10, 2) := by decide +kernel
theorem dX12_odds_15 : decode cX12_odds 15 = .ok (.invokevirtual 215, 3) := by decide +kernel
theorem dX12_odds_18 : decode cX12_odds 18 = .ok (.ifCond .ne 6, 3) := by decide +kernel
theorem dX12_odds_21 : decode cX12_odds 21 = .ok (.bipush (-2), 2) := by decide +kernel
theorem dX12_odds_23 : decode cX12_odds 23 = .ok (.ireturn, 1) := by decide +kernel
theorem dX12_odds_24 : decode cX12_odds 24 = .ok (.aload_n 0, 1) := by decide +kernel
theorem dX12_odds_25 : decode cX12_odds 25 = .ok (.getfield 29, 3) := by decide +kernel
theorem dX12_odds_28 : decode cX12_odds 28 = .ok (.iload_n 1, 1) := by decide +kernel
theorem dX12_odds_29 : decode cX12_odds 29 = .ok (.iaload, 1) := by decide +kernel
theorem dX12_odds_30 : decode cX12_odds 30 = .ok (.istore_n 3, 1) := by decide +kernel
theorem dX12_odds_31 : decode cX12_odds 31 = .ok (.aload_n 0, 1) := by decide +kernel
theorem dX12_odds_32 : decode cX12_odds 32 = .ok (.getfield 29, 3) := by decide +kernel
theorem dX12_odds_35 : decode cX12_odds 35 = .ok (.iload_n 1, 1) := by decide +kernel
theorem dX12_odds_36 : decode cX12_odds 36 = .ok (.iload_n 2, 1) := by decide +kernel
theorem dX12_odds_37 : decode cX12_odds 37 = .ok (.iastore, 1) := by decide +kernel
theorem dX12_odds_38 : decode cX12_odds 38 = .ok (.iload_n 3, 1) := by decide +kernel
theorem dX12_odds_39 : decode cX12_odds 39 = .ok (.ireturn, 1) := by decide +kernel
theorem dX12_come_0 : decode cX12_come 0 = .ok (.aload_n 0, 1) := by decide +kernel
theorem dX12_come_1 : decode cX12_come 1 = .ok (.iload_n 1, 1) := by decide +kernel
theorem dX12_come_2 : decode cX12_come 2 = .ok (.invokevirtual 219, 3) := by decide +kernel
theorem dX12_come_5 : decode cX12_come 5 = .ok (.ifCond .eq 14, 3) := by decide +kernel
theorem dX12_come_8 : decode cX12_come 8 = .ok (.aload_n 0, 1) := by decide +kernel
theorem dX12_come_9 : decode cX12_come 9 = .ok (.iload_n 2, 1) := by decide +kernel
theorem dX12_come_10 : decode cX12_come 10 = .ok (.iconst 0, 1) := by decide +kernel
theorem dX12_come_11 : decode cX12_come 11 = .ok (.bipush 59, 2) := by decide +kernel
theorem dX12_come_13 : decode cX12_come 13 = .ok (.invokevirtual 215, 3) := by decide +kernel
theorem dX12_come_16 : decode cX12_come 16 = .ok (.ifCond .ne 5, 3) := by decide +kernel
theorem dX12_come_19 : decode cX12_come 19 = .ok (.iconst (-1), 1) := by decide +kernel
theorem dX12_come_20 : decode cX12_come 20 = .ok (.ireturn, 1) := by decide +kernel
theorem dX12_come_21 : decode cX12_come 21 = .ok (.aload_n 0, 1) := by decide +kernel
theorem dX12_come_22 : decode cX12_come 22 = .ok (.getfield 13, 3) := by decide +kernel
theorem dX12_come_25 : decode cX12_come 25 = .ok (.bipush 12, 2) := by decide +kernel
theorem dX12_come_27 : decode cX12_come 27 = .ok (.if_icmp .ne 6, 3) := by decide +kernel
theorem dX12_come_30 : decode cX12_come 30 = .ok (.bipush (-4), 2) := by decide +kernel
theorem dX12_come_32 : decode cX12_come 32 = .ok (.ireturn, 1) := by decide +kernel
theorem dX12_come_33 : decode cX12_come 33 = .ok (.aload_n 0, 1) := by decide +kernel
theorem dX12_come_34 : decode cX12_come 34 = .ok (.getfield 32, 3) := by decide +kernel
theorem dX12_come_37 : decode cX12_come 37 = .ok (.aload_n 0, 1) := by decide +kernel
theorem dX12_come_38 : decode cX12_come 38 = .ok (.getfield 13, 3) := by decide +kernel
theorem dX12_come_41 : decode cX12_come 41 = .ok (.iload_n 1, 1) := by decide +kernel
theorem dX12_come_42 : decode cX12_come 42 = .ok (.iastore, 1) := by decide +kernel
theorem dX12_come_43 : decode cX12_come 43 = .ok (.aload_n 0, 1) := by decide +kernel
theorem dX12_come_44 : decode cX12_come 44 = .ok (.getfield 35, 3) := by decide +kernel
theorem dX12_come_47 : decode cX12_come 47 = .ok (.aload_n 0, 1) := by decide +kernel
theorem dX12_come_48 : decode cX12_come 48 = .ok (.getfield 13, 3) := by decide +kernel
theorem dX12_come_51 : decode cX12_come 51 = .ok (.iload_n 2, 1) := by decide +kernel
theorem dX12_come_52 : decode cX12_come 52 = .ok (.iastore, 1) := by decide +kernel
theorem dX12_come_53 : decode cX12_come 53 = .ok (.aload_n 0, 1) := by decide +kernel
theorem dX12_come_54 : decode cX12_come 54 = .ok (.dup, 1) := by decide +kernel
theorem dX12_come_55 : decode cX12_come 55 = .ok (.getfield 13, 3) := by decide +kernel
theorem dX12_come_58 : decode cX12_come 58 = .ok (.iconst 1, 1) := by decide +kernel
theorem dX12_come_59 : decode cX12_come 59 = .ok (.iadd, 1) := by decide +kernel
theorem dX12_come_60 : decode cX12_come 60 = .ok (.putfield 13, 3) := by decide +kernel
theorem dX12_come_63 : decode cX12_come 63 = .ok (.aload_n 0, 1) := by decide +kernel
theorem dX12_come_64 : decode cX12_come 64 = .ok (.getfield 13, 3) := by decide +kernel
theorem dX12_come_67 : decode cX12_come 67 = .ok (.ireturn, 1) := by decide +kernel
theorem dX12_clear_0 : decode cX12_clear 0 = .ok (.aload_n 0, 1) := by decide +kernel
theorem dX12_clear_1 : decode cX12_clear 1 = .ok (.getfield 13, 3) := by decide +kernel
theorem dX12_clear_4 : decode cX12_clear 4 = .ok (.istore_n 1, 1) := by decide +kernel
theorem dX12_clear_5 : decode cX12_clear 5 = .ok (.aload_n 0, 1) := by decide +kernel
theorem dX12_clear_6 : decode cX12_clear 6 = .ok (.iconst 0, 1) := by decide +kernel
theorem dX12_clear_7 : decode cX12_clear 7 = .ok (.putfield 13, 3) := by decide +kernel
theorem dX12_clear_10 : decode cX12_clear 10 = .ok (.iload_n 1, 1) := by decide +kernel
theorem dX12_clear_11 : decode cX12_clear 11 = .ok (.ireturn, 1) := by decide +kernel
theorem dX12_feed_0 : decode cX12_feed 0 = .ok (.aload_n 0, 1) := by decide +kernel
theorem dX12_feed_1 : decode cX12_feed 1 = .ok (.iload_n 2, 1) := by decide +kernel
theorem dX12_feed_2 : decode cX12_feed 2 = .ok (.iconst 0, 1) := by decide +kernel
theorem dX12_feed_3 : decode cX12_feed 3 = .ok (.iconst 4, 1) := by decide +kernel
theorem dX12_feed_4 : decode cX12_feed 4 = .ok (.invokevirtual 215, 3) := by decide +kernel
theorem dX12_feed_7 : decode cX12_feed 7 = .ok (.ifCond .ne 6, 3) := by decide +kernel
theorem dX12_feed_10 : decode cX12_feed 10 = .ok (.bipush (-2), 2) := by decide +kernel
theorem dX12_feed_12 : decode cX12_feed 12 = .ok (.ireturn, 1) := by decide +kernel
theorem dX12_feed_13 : decode cX12_feed 13 = .ok (.aload_n 0, 1) := by decide +kernel
theorem dX12_feed_14 : decode cX12_feed 14 = .ok (.getfield 44, 3) := by decide +kernel
theorem dX12_feed_17 : decode cX12_feed 17 = .ok (.iload_n 2, 1) := by decide +kernel
theorem dX12_feed_18 : decode cX12_feed 18 = .ok (.iadd, 1) := by decide +kernel
theorem dX12_feed_19 : decode cX12_feed 19 = .ok (.bipush 100, 2) := by decide +kernel
theorem dX12_feed_21 : decode cX12_feed 21 = .ok (.if_icmp .le 6, 3) := by decide +kernel
theorem dX12_feed_24 : decode cX12_feed 24 = .ok (.bipush (-4), 2) := by decide +kernel
theorem dX12_feed_26 : decode cX12_feed 26 = .ok (.ireturn, 1) := by decide +kernel
theorem dX12_feed_27 : decode cX12_feed 27 = .ok (.iload_n 2, 1) := by decide +kernel
theorem dX12_feed_28 : decode cX12_feed 28 = .ok (.iconst 1, 1) := by decide +kernel
theorem dX12_feed_29 : decode cX12_feed 29 = .ok (.isub, 1) := by decide +kernel
theorem dX12_feed_30 : decode cX12_feed 30 = .ok (.istore_n 3, 1) := by decide +kernel
theorem dX12_feed_31 : decode cX12_feed 31 = .ok (.iload_n 3, 1) := by decide +kernel
theorem dX12_feed_32 : decode cX12_feed 32 = .ok (.ifCond .lt 35, 3) := by decide +kernel
theorem dX12_feed_35 : decode cX12_feed 35 = .ok (.aload_n 0, 1) := by decide +kernel
theorem dX12_feed_36 : decode cX12_feed 36 = .ok (.getfield 53, 3) := by decide +kernel
theorem dX12_feed_39 : decode cX12_feed 39 = .ok (.aload_n 0, 1) := by decide +kernel
theorem dX12_feed_40 : decode cX12_feed 40 = .ok (.getfield 44, 3) := by decide +kernel
theorem dX12_feed_43 : decode cX12_feed 43 = .ok (.iload_n 1, 1) := by decide +kernel
theorem dX12_feed_44 : decode cX12_feed 44 = .ok (.bipush 8, 2) := by decide +kernel
theorem dX12_feed_46 : decode cX12_feed 46 = .ok (.iload_n 3, 1) := by decide +kernel
theorem dX12_feed_47 : decode cX12_feed 47 = .ok (.imul, 1) := by decide +kernel
theorem dX12_feed_48 : decode cX12_feed 48 = .ok (.ishr, 1) := by decide +kernel
theorem dX12_feed_49 : decode cX12_feed 49 = .ok (.i2b, 1) := by decide +kernel
theorem dX12_feed_50 : decode cX12_feed 50 = .ok (.iastore, 1) := by decide +kernel
theorem dX12_feed_51 : decode cX12_feed 51 = .ok (.aload_n 0, 1) := by decide +kernel
theorem dX12_feed_52 : decode cX12_feed 52 = .ok (.dup, 1) := by decide +kernel
theorem dX12_feed_53 : decode cX12_feed 53 = .ok (.getfield 44, 3) := by decide +kernel
theorem dX12_feed_56 : decode cX12_feed 56 = .ok (.iconst 1, 1) := by decide +kernel
theorem dX12_feed_57 : decode cX12_feed 57 = .ok (.iadd, 1) := by decide +kernel
theorem dX12_feed_58 : decode cX12_feed 58 = .ok (.putfield 44, 3) := by decide +kernel
theorem dX12_feed_61 : decode cX12_feed 61 = .ok (.iinc 3 (-1), 3) := by decide +kernel
theorem dX12_feed_64 : decode cX12_feed 64 = .ok (.goto (-33), 3) := by decide +kernel
theorem dX12_feed_67 : decode cX12_feed 67 = .ok (.aload_n 0, 1) := by decide +kernel
theorem dX12_feed_68 : decode cX12_feed 68 = .ok (.getfield 44, 3) := by decide +kernel
theorem dX12_feed_71 : decode cX12_feed 71 = .ok (.ireturn, 1) := by decide +kernel
theorem dX12_next_0 : decode cX12_next 0 = .ok (.aload_n 0, 1) := by decide +kernel
theorem dX12_next_1 : decode cX12_next 1 = .ok (.getfield 47, 3) := by decide +kernel
theorem dX12_next_4 : decode cX12_next 4 = .ok (.aload_n 0, 1) := by decide +kernel
theorem dX12_next_5 : decode cX12_next 5 = .ok (.getfield 44, 3) := by decide +kernel
theorem dX12_next_8 : decode cX12_next 8 = .ok (.if_icmp .ge 15, 3) := by decide +kernel
theorem dX12_next_11 : decode cX12_next 11 = .ok (.aload_n 0, 1) := by decide +kernel
theorem dX12_next_12 : decode cX12_next 12 = .ok (.getfield 53, 3) := by decide +kernel
theorem dX12_next_15 : decode cX12_next 15 = .ok (.aload_n 0, 1) := by decide +kernel
theorem dX12_next_16 : decode cX12_next 16 = .ok (.getfield 47, 3) := by decide +kernel
theorem dX12_next_19 : decode cX12_next 19 = .ok (.iaload, 1) := by decide +kernel
theorem dX12_next_20 : decode cX12_next 20 = .ok (.goto 4, 3) := by decide +kernel
theorem dX12_next_23 : decode cX12_next 23 = .ok (.iconst (-1), 1) := by decide +kernel
theorem dX12_next_24 : decode cX12_next 24 = .ok (.ireturn, 1) := by decide +kernel
theorem dX12_third_0 : decode cX12_third 0 = .ok (.aload_n 0, 1) := by decide +kernel
theorem dX12_third_1 : decode cX12_third 1 = .ok (.getfield 47, 3) := by decide +kernel
theorem dX12_third_4 : decode cX12_third 4 = .ok (.iconst 2, 1) := by decide +kernel
theorem dX12_third_5 : decode cX12_third 5 = .ok (.iadd, 1) := by decide +kernel
theorem dX12_third_6 : decode cX12_third 6 = .ok (.aload_n 0, 1) := by decide +kernel
theorem dX12_third_7 : decode cX12_third 7 = .ok (.getfield 44, 3) := by decide +kernel
theorem dX12_third_10 : decode cX12_third 10 = .ok (.if_icmp .ge 17, 3) := by decide +kernel
theorem dX12_third_13 : decode cX12_third 13 = .ok (.aload_n 0, 1) := by decide +kernel
theorem dX12_third_14 : decode cX12_third 14 = .ok (.getfield 53, 3) := by decide +kernel
theorem dX12_third_17 : decode cX12_third 17 = .ok (.aload_n 0, 1) := by decide +kernel
theorem dX12_third_18 : decode cX12_third 18 = .ok (.getfield 47, 3) := by decide +kernel
theorem dX12_third_21 : decode cX12_third 21 = .ok (.iconst 2, 1) := by decide +kernel
theorem dX12_third_22 : decode cX12_third 22 = .ok (.iadd, 1) := by decide +kernel
theorem dX12_third_23 : decode cX12_third 23 = .ok (.iaload, 1) := by decide +kernel
theorem dX12_third_24 : decode cX12_third 24 = .ok (.goto 4, 3) := by decide +kernel
theorem dX12_third_27 : decode cX12_third 27 = .ok (.iconst (-1), 1) := by decide +kernel
theorem dX12_third_28 : decode cX12_third 28 = .ok (.ireturn, 1) := by decide +kernel
theorem dX12_takesSign_0 : decode cX12_takesSign 0 = .ok (.aload_n 0, 1) := by decide +kernel
theorem dX12_takesSign_1 : decode cX12_takesSign 1 = .ok (.invokevirtual 223, 3) := by decide +kernel
theorem dX12_takesSign_4 : decode cX12_takesSign 4 = .ok (.iload_n 1, 1) := by decide +kernel
theorem dX12_takesSign_5 : decode cX12_takesSign 5 = .ok (.if_icmp .eq 5, 3) := by decide +kernel
theorem dX12_takesSign_8 : decode cX12_takesSign 8 = .ok (.iconst 0, 1) := by decide +kernel
theorem dX12_takesSign_9 : decode cX12_takesSign 9 = .ok (.ireturn, 1) := by decide +kernel
theorem dX12_takesSign_10 : decode cX12_takesSign 10 = .ok (.aload_n 0, 1) := by decide +kernel
theorem dX12_takesSign_11 : decode cX12_takesSign 11 = .ok (.dup, 1) := by decide +kernel
theorem dX12_takesSign_12 : decode cX12_takesSign 12 = .ok (.getfield 47, 3) := by decide +kernel
theorem dX12_takesSign_15 : decode cX12_takesSign 15 = .ok (.iconst 1, 1) := by decide +kernel
theorem dX12_takesSign_16 : decode cX12_takesSign 16 = .ok (.iadd, 1) := by decide +kernel
theorem dX12_takesSign_17 : decode cX12_takesSign 17 = .ok (.putfield 47, 3) := by decide +kernel
theorem dX12_takesSign_20 : decode cX12_takesSign 20 = .ok (.iconst 1, 1) := by decide +kernel
theorem dX12_takesSign_21 : decode cX12_takesSign 21 = .ok (.ireturn, 1) := by decide +kernel
theorem dX12_takesWord_0 : decode cX12_takesWord 0 = .ok (.iload_n 2, 1) := by decide +kernel
theorem dX12_takesWord_1 : decode cX12_takesWord 1 = .ok (.iconst 1, 1) := by decide +kernel
theorem dX12_takesWord_2 : decode cX12_takesWord 2 = .ok (.isub, 1) := by decide +kernel
theorem dX12_takesWord_3 : decode cX12_takesWord 3 = .ok (.istore_n 3, 1) := by decide +kernel
theorem dX12_takesWord_4 : decode cX12_takesWord 4 = .ok (.iload_n 3, 1) := by decide +kernel
theorem dX12_takesWord_5 : decode cX12_takesWord 5 = .ok (.ifCond .lt 29, 3) := by decide +kernel
theorem dX12_takesWord_8 : decode cX12_takesWord 8 = .ok (.aload_n 0, 1) := by decide +kernel
theorem dX12_takesWord_9 : decode cX12_takesWord 9 = .ok (.bipush 96, 2) := by decide +kernel
theorem dX12_takesWord_11 : decode cX12_takesWord 11 = .ok (.iload_n 1, 1) := by decide +kernel
theorem dX12_takesWord_12 : decode cX12_takesWord 12 = .ok (.iconst 5, 1) := by decide +kernel
theorem dX12_takesWord_13 : decode cX12_takesWord 13 = .ok (.iload_n 3, 1) := by decide +kernel
theorem dX12_takesWord_14 : decode cX12_takesWord 14 = .ok (.imul, 1) := by decide +kernel
theorem dX12_takesWord_15 : decode cX12_takesWord 15 = .ok (.ishr, 1) := by decide +kernel
theorem dX12_takesWord_16 : decode cX12_takesWord 16 = .ok (.bipush 31, 2) := by decide +kernel
theorem dX12_takesWord_18 : decode cX12_takesWord 18 = .ok (.iand, 1) := by decide +kernel
theorem dX12_takesWord_19 : decode cX12_takesWord 19 = .ok (.iadd, 1) := by decide +kernel
theorem dX12_takesWord_20 : decode cX12_takesWord 20 = .ok (.invokevirtual 227, 3) := by decide +kernel
theorem dX12_takesWord_23 : decode cX12_takesWord 23 = .ok (.ifCond .ne 5, 3) := by decide +kernel
theorem dX12_takesWord_26 : decode cX12_takesWord 26 = .ok (.iconst 0, 1) := by decide +kernel
theorem dX12_takesWord_27 : decode cX12_takesWord 27 = .ok (.ireturn, 1) := by decide +kernel
theorem dX12_takesWord_28 : decode cX12_takesWord 28 = .ok (.iinc 3 (-1), 3) := by decide +kernel
theorem dX12_takesWord_31 : decode cX12_takesWord 31 = .ok (.goto (-27), 3) := by decide +kernel
theorem dX12_takesWord_34 : decode cX12_takesWord 34 = .ok (.aload_n 0, 1) := by decide +kernel
theorem dX12_takesWord_35 : decode cX12_takesWord 35 = .ok (.bipush 32, 2) := by decide +kernel
theorem dX12_takesWord_37 : decode cX12_takesWord 37 = .ok (.invokevirtual 227, 3) := by decide +kernel
theorem dX12_takesWord_40 : decode cX12_takesWord 40 = .ok (.ireturn, 1) := by decide +kernel
theorem dX12_isDigit_0 : decode cX12_isDigit 0 = .ok (.aload_n 0, 1) := by decide +kernel
theorem dX12_isDigit_1 : decode cX12_isDigit 1 = .ok (.aload_n 0, 1) := by decide +kernel
theorem dX12_isDigit_2 : decode cX12_isDigit 2 = .ok (.invokevirtual 223, 3) := by decide +kernel
theorem dX12_isDigit_5 : decode cX12_isDigit 5 = .ok (.bipush 48, 2) := by decide +kernel
theorem dX12_isDigit_7 : decode cX12_isDigit 7 = .ok (.bipush 57, 2) := by decide +kernel
theorem dX12_isDigit_9 : decode cX12_isDigit 9 = .ok (.invokevirtual 215, 3) := by decide +kernel
theorem dX12_isDigit_12 : decode cX12_isDigit 12 = .ok (.ireturn, 1) := by decide +kernel
theorem dX12_takesNumber_0 : decode cX12_takesNumber 0 = .ok (.aload_n 0, 1) := by decide +kernel
theorem dX12_takesNumber_1 : decode cX12_takesNumber 1 = .ok (.invokevirtual 230, 3) := by decide +kernel
theorem dX12_takesNumber_4 : decode cX12_takesNumber 4 = .ok (.ifCond .ne 5, 3) := by decide +kernel
theorem dX12_takesNumber_7 : decode cX12_takesNumber 7 = .ok (.iconst 0, 1) := by decide +kernel
theorem dX12_takesNumber_8 : decode cX12_takesNumber 8 = .ok (.ireturn, 1) := by decide +kernel
theorem dX12_takesNumber_9 : decode cX12_takesNumber 9 = .ok (.aload_n 0, 1) := by decide +kernel
theorem dX12_takesNumber_10 : decode cX12_takesNumber 10 = .ok (.iconst 0, 1) := by decide +kernel
theorem dX12_takesNumber_11 : decode cX12_takesNumber 11 = .ok (.putfield 50, 3) := by decide +kernel
theorem dX12_takesNumber_14 : decode cX12_takesNumber 14 = .ok (.iconst 0, 1) := by decide +kernel
theorem dX12_takesNumber_15 : decode cX12_takesNumber 15 = .ok (.istore_n 1, 1) := by decide +kernel
theorem dX12_takesNumber_16 : decode cX12_takesNumber 16 = .ok (.iload_n 1, 1) := by decide +kernel
theorem dX12_takesNumber_17 : decode cX12_takesNumber 17 = .ok (.iconst 2, 1) := by decide +kernel
theorem dX12_takesNumber_18 : decode cX12_takesNumber 18 = .ok (.if_icmp .ge 45, 3) := by decide +kernel
theorem dX12_takesNumber_21 : decode cX12_takesNumber 21 = .ok (.aload_n 0, 1) := by decide +kernel
theorem dX12_takesNumber_22 : decode cX12_takesNumber 22 = .ok (.invokevirtual 230, 3) := by decide +kernel
theorem dX12_takesNumber_25 : decode cX12_takesNumber 25 = .ok (.ifCond .eq 38, 3) := by decide +kernel
theorem dX12_takesNumber_28 : decode cX12_takesNumber 28 = .ok (.aload_n 0, 1) := by decide +kernel
theorem dX12_takesNumber_29 : decode cX12_takesNumber 29 = .ok (.bipush 10, 2) := by decide +kernel
theorem dX12_takesNumber_31 : decode cX12_takesNumber 31 = .ok (.aload_n 0, 1) := by decide +kernel
theorem dX12_takesNumber_32 : decode cX12_takesNumber 32 = .ok (.getfield 50, 3) := by decide +kernel
theorem dX12_takesNumber_35 : decode cX12_takesNumber 35 = .ok (.imul, 1) := by decide +kernel
theorem dX12_takesNumber_36 : decode cX12_takesNumber 36 = .ok (.aload_n 0, 1) := by decide +kernel
theorem dX12_takesNumber_37 : decode cX12_takesNumber 37 = .ok (.invokevirtual 223, 3) := by decide +kernel
theorem dX12_takesNumber_40 : decode cX12_takesNumber 40 = .ok (.iadd, 1) := by decide +kernel
theorem dX12_takesNumber_41 : decode cX12_takesNumber 41 = .ok (.bipush 48, 2) := by decide +kernel
theorem dX12_takesNumber_43 : decode cX12_takesNumber 43 = .ok (.isub, 1) := by decide +kernel
theorem dX12_takesNumber_44 : decode cX12_takesNumber 44 = .ok (.putfield 50, 3) := by decide +kernel
theorem dX12_takesNumber_47 : decode cX12_takesNumber 47 = .ok (.aload_n 0, 1) := by decide +kernel
theorem dX12_takesNumber_48 : decode cX12_takesNumber 48 = .ok (.dup, 1) := by decide +kernel
theorem dX12_takesNumber_49 : decode cX12_takesNumber 49 = .ok (.getfield 47, 3) := by decide +kernel
theorem dX12_takesNumber_52 : decode cX12_takesNumber 52 = .ok (.iconst 1, 1) := by decide +kernel
theorem dX12_takesNumber_53 : decode cX12_takesNumber 53 = .ok (.iadd, 1) := by decide +kernel
theorem dX12_takesNumber_54 : decode cX12_takesNumber 54 = .ok (.putfield 47, 3) := by decide +kernel
theorem dX12_takesNumber_57 : decode cX12_takesNumber 57 = .ok (.iinc 1 1, 3) := by decide +kernel
theorem dX12_takesNumber_60 : decode cX12_takesNumber 60 = .ok (.goto (-44), 3) := by decide +kernel
theorem dX12_takesNumber_63 : decode cX12_takesNumber 63 = .ok (.iconst 1, 1) := by decide +kernel
theorem dX12_takesNumber_64 : decode cX12_takesNumber 64 = .ok (.ireturn, 1) := by decide +kernel
theorem dX12_put_0 : decode cX12_put 0 = .ok (.aload_n 0, 1) := by decide +kernel
theorem dX12_put_1 : decode cX12_put 1 = .ok (.getfield 74, 3) := by decide +kernel
theorem dX12_put_4 : decode cX12_put 4 = .ok (.aload_n 0, 1) := by decide +kernel
theorem dX12_put_5 : decode cX12_put 5 = .ok (.getfield 80, 3) := by decide +kernel
theorem dX12_put_8 : decode cX12_put 8 = .ok (.iload_n 1, 1) := by decide +kernel
theorem dX12_put_9 : decode cX12_put 9 = .ok (.iastore, 1) := by decide +kernel
theorem dX12_put_10 : decode cX12_put 10 = .ok (.aload_n 0, 1) := by decide +kernel
theorem dX12_put_11 : decode cX12_put 11 = .ok (.dup, 1) := by decide +kernel
theorem dX12_put_12 : decode cX12_put 12 = .ok (.getfield 80, 3) := by decide +kernel
theorem dX12_put_15 : decode cX12_put 15 = .ok (.iconst 1, 1) := by decide +kernel
theorem dX12_put_16 : decode cX12_put 16 = .ok (.iadd, 1) := by decide +kernel
theorem dX12_put_17 : decode cX12_put 17 = .ok (.putfield 80, 3) := by decide +kernel
theorem dX12_put_20 : decode cX12_put 20 = .ok (.return_, 1) := by decide +kernel
theorem dX12_whole_0 : decode cX12_whole 0 = .ok (.aload_n 0, 1) := by decide +kernel
theorem dX12_whole_1 : decode cX12_whole 1 = .ok (.getfield 83, 3) := by decide +kernel
theorem dX12_whole_4 : decode cX12_whole 4 = .ok (.ifCond .le 48, 3) := by decide +kernel
theorem dX12_whole_7 : decode cX12_whole 7 = .ok (.aload_n 0, 1) := by decide +kernel
theorem dX12_whole_8 : decode cX12_whole 8 = .ok (.getfield 77, 3) := by decide +kernel
theorem dX12_whole_11 : decode cX12_whole 11 = .ok (.aload_n 0, 1) := by decide +kernel
theorem dX12_whole_12 : decode cX12_whole 12 = .ok (.getfield 83, 3) := by decide +kernel
theorem dX12_whole_15 : decode cX12_whole 15 = .ok (.iconst 1, 1) := by decide +kernel
theorem dX12_whole_16 : decode cX12_whole 16 = .ok (.isub, 1) := by decide +kernel
theorem dX12_whole_17 : decode cX12_whole 17 = .ok (.iaload, 1) := by decide +kernel
theorem dX12_whole_18 : decode cX12_whole 18 = .ok (.bipush 33, 2) := by decide +kernel
theorem dX12_whole_20 : decode cX12_whole 20 = .ok (.if_icmp .ne 32, 3) := by decide +kernel
theorem dX12_whole_23 : decode cX12_whole 23 = .ok (.aload_n 0, 1) := by decide +kernel
theorem dX12_whole_24 : decode cX12_whole 24 = .ok (.bipush (-33), 2) := by decide +kernel
theorem dX12_whole_26 : decode cX12_whole 26 = .ok (.invokevirtual 234, 3) := by decide +kernel
theorem dX12_whole_29 : decode cX12_whole 29 = .ok (.aload_n 0, 1) := by decide +kernel
theorem dX12_whole_30 : decode cX12_whole 30 = .ok (.dup, 1) := by decide +kernel
theorem dX12_whole_31 : decode cX12_whole 31 = .ok (.getfield 83, 3) := by decide +kernel
theorem dX12_whole_34 : decode cX12_whole 34 = .ok (.iconst 1, 1) := by decide +kernel
theorem dX12_whole_35 : decode cX12_whole 35 = .ok (.isub, 1) := by decide +kernel
theorem dX12_whole_36 : decode cX12_whole 36 = .ok (.putfield 83, 3) := by decide +kernel
theorem dX12_whole_39 : decode cX12_whole 39 = .ok (.aload_n 0, 1) := by decide +kernel
theorem dX12_whole_40 : decode cX12_whole 40 = .ok (.dup, 1) := by decide +kernel
theorem dX12_whole_41 : decode cX12_whole 41 = .ok (.getfield 86, 3) := by decide +kernel
theorem dX12_whole_44 : decode cX12_whole 44 = .ok (.iconst 1, 1) := by decide +kernel
theorem dX12_whole_45 : decode cX12_whole 45 = .ok (.isub, 1) := by decide +kernel
theorem dX12_whole_46 : decode cX12_whole 46 = .ok (.putfield 86, 3) := by decide +kernel
theorem dX12_whole_49 : decode cX12_whole 49 = .ok (.goto (-49), 3) := by decide +kernel
theorem dX12_whole_52 : decode cX12_whole 52 = .ok (.return_, 1) := by decide +kernel
theorem dX12_settle_0 : decode cX12_settle 0 = .ok (.aload_n 0, 1) := by decide +kernel
theorem dX12_settle_1 : decode cX12_settle 1 = .ok (.getfield 83, 3) := by decide +kernel
theorem dX12_settle_4 : decode cX12_settle 4 = .ok (.ifCond .le 68, 3) := by decide +kernel
theorem dX12_settle_7 : decode cX12_settle 7 = .ok (.aload_n 0, 1) := by decide +kernel
theorem dX12_settle_8 : decode cX12_settle 8 = .ok (.getfield 77, 3) := by decide +kernel
theorem dX12_settle_11 : decode cX12_settle 11 = .ok (.aload_n 0, 1) := by decide +kernel
theorem dX12_settle_12 : decode cX12_settle 12 = .ok (.getfield 83, 3) := by decide +kernel
theorem dX12_settle_15 : decode cX12_settle 15 = .ok (.iconst 1, 1) := by decide +kernel
theorem dX12_settle_16 : decode cX12_settle 16 = .ok (.isub, 1) := by decide +kernel
theorem dX12_settle_17 : decode cX12_settle 17 = .ok (.iaload, 1) := by decide +kernel
theorem dX12_settle_18 : decode cX12_settle 18 = .ok (.bipush 38, 2) := by decide +kernel
theorem dX12_settle_20 : decode cX12_settle 20 = .ok (.if_icmp .eq 25, 3) := by decide +kernel
theorem dX12_settle_23 : decode cX12_settle 23 = .ok (.aload_n 0, 1) := by decide +kernel
theorem dX12_settle_24 : decode cX12_settle 24 = .ok (.getfield 77, 3) := by decide +kernel
theorem dX12_settle_27 : decode cX12_settle 27 = .ok (.aload_n 0, 1) := by decide +kernel
theorem dX12_settle_28 : decode cX12_settle 28 = .ok (.getfield 83, 3) := by decide +kernel
theorem dX12_settle_31 : decode cX12_settle 31 = .ok (.iconst 1, 1) := by decide +kernel
theorem dX12_settle_32 : decode cX12_settle 32 = .ok (.isub, 1) := by decide +kernel
theorem dX12_settle_33 : decode cX12_settle 33 = .ok (.iaload, 1) := by decide +kernel
theorem dX12_settle_34 : decode cX12_settle 34 = .ok (.bipush 124, 2) := by decide +kernel
theorem dX12_settle_36 : decode cX12_settle 36 = .ok (.if_icmp .ne 36, 3) := by decide +kernel
theorem dX12_settle_39 : decode cX12_settle 39 = .ok (.iload_n 1, 1) := by decide +kernel
theorem dX12_settle_40 : decode cX12_settle 40 = .ok (.bipush 38, 2) := by decide +kernel
theorem dX12_settle_42 : decode cX12_settle 42 = .ok (.if_icmp .eq 30, 3) := by decide +kernel
theorem dX12_settle_45 : decode cX12_settle 45 = .ok (.aload_n 0, 1) := by decide +kernel
theorem dX12_settle_46 : decode cX12_settle 46 = .ok (.dup, 1) := by decide +kernel
theorem dX12_settle_47 : decode cX12_settle 47 = .ok (.getfield 83, 3) := by decide +kernel
theorem dX12_settle_50 : decode cX12_settle 50 = .ok (.iconst 1, 1) := by decide +kernel
theorem dX12_settle_51 : decode cX12_settle 51 = .ok (.isub, 1) := by decide +kernel
theorem dX12_settle_52 : decode cX12_settle 52 = .ok (.putfield 83, 3) := by decide +kernel
theorem dX12_settle_55 : decode cX12_settle 55 = .ok (.aload_n 0, 1) := by decide +kernel
theorem dX12_settle_56 : decode cX12_settle 56 = .ok (.aload_n 0, 1) := by decide +kernel
theorem dX12_settle_57 : decode cX12_settle 57 = .ok (.getfield 77, 3) := by decide +kernel
theorem dX12_settle_60 : decode cX12_settle 60 = .ok (.aload_n 0, 1) := by decide +kernel
theorem dX12_settle_61 : decode cX12_settle 61 = .ok (.getfield 83, 3) := by decide +kernel
theorem dX12_settle_64 : decode cX12_settle 64 = .ok (.iaload, 1) := by decide +kernel
theorem dX12_settle_65 : decode cX12_settle 65 = .ok (.ineg, 1) := by decide +kernel
theorem dX12_settle_66 : decode cX12_settle 66 = .ok (.invokevirtual 234, 3) := by decide +kernel
theorem dX12_settle_69 : decode cX12_settle 69 = .ok (.goto (-69), 3) := by decide +kernel
theorem dX12_settle_72 : decode cX12_settle 72 = .ok (.return_, 1) := by decide +kernel
theorem dX12_place_0 : decode cX12_place 0 = .ok (.iload_n 1, 1) := by decide +kernel
theorem dX12_place_1 : decode cX12_place 1 = .ok (.lookupswitch 51 #[(102, 47), (108, 45), (110, 49), (116, 43)], 43) := by decide +kernel
theorem dX12_place_44 : decode cX12_place 44 = .ok (.iconst 0, 1) := by decide +kernel
theorem dX12_place_45 : decode cX12_place 45 = .ok (.ireturn, 1) := by decide +kernel
theorem dX12_place_46 : decode cX12_place 46 = .ok (.iconst 1, 1) := by decide +kernel
theorem dX12_place_47 : decode cX12_place 47 = .ok (.ireturn, 1) := by decide +kernel
theorem dX12_place_48 : decode cX12_place 48 = .ok (.iconst 2, 1) := by decide +kernel
theorem dX12_place_49 : decode cX12_place 49 = .ok (.ireturn, 1) := by decide +kernel
theorem dX12_place_50 : decode cX12_place 50 = .ok (.iconst 3, 1) := by decide +kernel
theorem dX12_place_51 : decode cX12_place 51 = .ok (.ireturn, 1) := by decide +kernel
theorem dX12_place_52 : decode cX12_place 52 = .ok (.iconst (-1), 1) := by decide +kernel
theorem dX12_place_53 : decode cX12_place 53 = .ok (.ireturn, 1) := by decide +kernel
theorem dX12_takesTest_0 : decode cX12_takesTest 0 = .ok (.aload_n 0, 1) := by decide +kernel
theorem dX12_takesTest_1 : decode cX12_takesTest 1 = .ok (.aload_n 0, 1) := by decide +kernel
theorem dX12_takesTest_2 : decode cX12_takesTest 2 = .ok (.invokevirtual 223, 3) := by decide +kernel
theorem dX12_takesTest_5 : decode cX12_takesTest 5 = .ok (.invokevirtual 238, 3) := by decide +kernel
theorem dX12_takesTest_8 : decode cX12_takesTest 8 = .ok (.istore_n 1, 1) := by decide +kernel
theorem dX12_takesTest_9 : decode cX12_takesTest 9 = .ok (.iload_n 1, 1) := by decide +kernel
theorem dX12_takesTest_10 : decode cX12_takesTest 10 = .ok (.ifCond .ge 5, 3) := by decide +kernel
theorem dX12_takesTest_13 : decode cX12_takesTest 13 = .ok (.iconst 0, 1) := by decide +kernel
theorem dX12_takesTest_14 : decode cX12_takesTest 14 = .ok (.ireturn, 1) := by decide +kernel
theorem dX12_takesTest_15 : decode cX12_takesTest 15 = .ok (.aload_n 0, 1) := by decide +kernel
theorem dX12_takesTest_16 : decode cX12_takesTest 16 = .ok (.dup, 1) := by decide +kernel
theorem dX12_takesTest_17 : decode cX12_takesTest 17 = .ok (.getfield 47, 3) := by decide +kernel
theorem dX12_takesTest_20 : decode cX12_takesTest 20 = .ok (.iconst 1, 1) := by decide +kernel
theorem dX12_takesTest_21 : decode cX12_takesTest 21 = .ok (.iadd, 1) := by decide +kernel
theorem dX12_takesTest_22 : decode cX12_takesTest 22 = .ok (.putfield 47, 3) := by decide +kernel
theorem dX12_takesTest_25 : decode cX12_takesTest 25 = .ok (.aload_n 0, 1) := by decide +kernel
theorem dX12_takesTest_26 : decode cX12_takesTest 26 = .ok (.invokevirtual 223, 3) := by decide +kernel
theorem dX12_takesTest_29 : decode cX12_takesTest 29 = .ok (.istore_n 2, 1) := by decide +kernel
theorem dX12_takesTest_30 : decode cX12_takesTest 30 = .ok (.aload_n 0, 1) := by decide +kernel
theorem dX12_takesTest_31 : decode cX12_takesTest 31 = .ok (.iload_n 2, 1) := by decide +kernel
theorem dX12_takesTest_32 : decode cX12_takesTest 32 = .ok (.bipush 60, 2) := by decide +kernel
theorem dX12_takesTest_34 : decode cX12_takesTest 34 = .ok (.bipush 62, 2) := by decide +kernel
theorem dX12_takesTest_36 : decode cX12_takesTest 36 = .ok (.invokevirtual 215, 3) := by decide +kernel
theorem dX12_takesTest_39 : decode cX12_takesTest 39 = .ok (.ifCond .ne 5, 3) := by decide +kernel
theorem dX12_takesTest_42 : decode cX12_takesTest 42 = .ok (.iconst 0, 1) := by decide +kernel
theorem dX12_takesTest_43 : decode cX12_takesTest 43 = .ok (.ireturn, 1) := by decide +kernel
theorem dX12_takesTest_44 : decode cX12_takesTest 44 = .ok (.aload_n 0, 1) := by decide +kernel
theorem dX12_takesTest_45 : decode cX12_takesTest 45 = .ok (.dup, 1) := by decide +kernel
theorem dX12_takesTest_46 : decode cX12_takesTest 46 = .ok (.getfield 47, 3) := by decide +kernel
theorem dX12_takesTest_49 : decode cX12_takesTest 49 = .ok (.iconst 1, 1) := by decide +kernel
theorem dX12_takesTest_50 : decode cX12_takesTest 50 = .ok (.iadd, 1) := by decide +kernel
theorem dX12_takesTest_51 : decode cX12_takesTest 51 = .ok (.putfield 47, 3) := by decide +kernel
theorem dX12_takesTest_54 : decode cX12_takesTest 54 = .ok (.aload_n 0, 1) := by decide +kernel
theorem dX12_takesTest_55 : decode cX12_takesTest 55 = .ok (.invokevirtual 242, 3) := by decide +kernel
theorem dX12_takesTest_58 : decode cX12_takesTest 58 = .ok (.ifCond .ne 5, 3) := by decide +kernel
theorem dX12_takesTest_61 : decode cX12_takesTest 61 = .ok (.iconst 0, 1) := by decide +kernel
theorem dX12_takesTest_62 : decode cX12_takesTest 62 = .ok (.ireturn, 1) := by decide +kernel
theorem dX12_takesTest_63 : decode cX12_takesTest 63 = .ok (.aload_n 0, 1) := by decide +kernel
theorem dX12_takesTest_64 : decode cX12_takesTest 64 = .ok (.sipush 1000, 3) := by decide +kernel
theorem dX12_takesTest_67 : decode cX12_takesTest 67 = .ok (.iload_n 1, 1) := by decide +kernel
theorem dX12_takesTest_68 : decode cX12_takesTest 68 = .ok (.imul, 1) := by decide +kernel
theorem dX12_takesTest_69 : decode cX12_takesTest 69 = .ok (.bipush 100, 2) := by decide +kernel
theorem dX12_takesTest_71 : decode cX12_takesTest 71 = .ok (.iload_n 2, 1) := by decide +kernel
theorem dX12_takesTest_72 : decode cX12_takesTest 72 = .ok (.bipush 60, 2) := by decide +kernel
theorem dX12_takesTest_74 : decode cX12_takesTest 74 = .ok (.isub, 1) := by decide +kernel
theorem dX12_takesTest_75 : decode cX12_takesTest 75 = .ok (.imul, 1) := by decide +kernel
theorem dX12_takesTest_76 : decode cX12_takesTest 76 = .ok (.iadd, 1) := by decide +kernel
theorem dX12_takesTest_77 : decode cX12_takesTest 77 = .ok (.aload_n 0, 1) := by decide +kernel
theorem dX12_takesTest_78 : decode cX12_takesTest 78 = .ok (.getfield 50, 3) := by decide +kernel
theorem dX12_takesTest_81 : decode cX12_takesTest 81 = .ok (.iadd, 1) := by decide +kernel
theorem dX12_takesTest_82 : decode cX12_takesTest 82 = .ok (.invokevirtual 234, 3) := by decide +kernel
theorem dX12_takesTest_85 : decode cX12_takesTest 85 = .ok (.aload_n 0, 1) := by decide +kernel
theorem dX12_takesTest_86 : decode cX12_takesTest 86 = .ok (.invokevirtual 245, 3) := by decide +kernel
theorem dX12_takesTest_89 : decode cX12_takesTest 89 = .ok (.iconst 1, 1) := by decide +kernel
theorem dX12_takesTest_90 : decode cX12_takesTest 90 = .ok (.ireturn, 1) := by decide +kernel
theorem dX12_takesE_0 : decode cX12_takesE 0 = .ok (.aload_n 0, 1) := by decide +kernel
theorem dX12_takesE_1 : decode cX12_takesE 1 = .ok (.iconst 0, 1) := by decide +kernel
theorem dX12_takesE_2 : decode cX12_takesE 2 = .ok (.putfield 83, 3) := by decide +kernel
theorem dX12_takesE_5 : decode cX12_takesE 5 = .ok (.aload_n 0, 1) := by decide +kernel
theorem dX12_takesE_6 : decode cX12_takesE 6 = .ok (.iconst 0, 1) := by decide +kernel
theorem dX12_takesE_7 : decode cX12_takesE 7 = .ok (.putfield 86, 3) := by decide +kernel
theorem dX12_takesE_10 : decode cX12_takesE 10 = .ok (.aload_n 0, 1) := by decide +kernel
theorem dX12_takesE_11 : decode cX12_takesE 11 = .ok (.getfield 68, 3) := by decide +kernel
theorem dX12_takesE_14 : decode cX12_takesE 14 = .ok (.iload_n 1, 1) := by decide +kernel
theorem dX12_takesE_15 : decode cX12_takesE 15 = .ok (.aload_n 0, 1) := by decide +kernel
theorem dX12_takesE_16 : decode cX12_takesE 16 = .ok (.getfield 80, 3) := by decide +kernel
theorem dX12_takesE_19 : decode cX12_takesE 19 = .ok (.iastore, 1) := by decide +kernel
theorem dX12_takesE_20 : decode cX12_takesE 20 = .ok (.iconst 1, 1) := by decide +kernel
theorem dX12_takesE_21 : decode cX12_takesE 21 = .ok (.istore_n 2, 1) := by decide +kernel
theorem dX12_takesE_22 : decode cX12_takesE 22 = .ok (.aload_n 0, 1) := by decide +kernel
theorem dX12_takesE_23 : decode cX12_takesE 23 = .ok (.invokevirtual 223, 3) := by decide +kernel
theorem dX12_takesE_26 : decode cX12_takesE 26 = .ok (.istore_n 3, 1) := by decide +kernel
theorem dX12_takesE_27 : decode cX12_takesE 27 = .ok (.iload_n 2, 1) := by decide +kernel
theorem dX12_takesE_28 : decode cX12_takesE 28 = .ok (.ifCond .eq 82, 3) := by decide +kernel
theorem dX12_takesE_31 : decode cX12_takesE 31 = .ok (.iload_n 3, 1) := by decide +kernel
theorem dX12_takesE_32 : decode cX12_takesE 32 = .ok (.bipush 33, 2) := by decide +kernel
theorem dX12_takesE_34 : decode cX12_takesE 34 = .ok (.if_icmp .eq 9, 3) := by decide +kernel
theorem dX12_takesE_37 : decode cX12_takesE 37 = .ok (.iload_n 3, 1) := by decide +kernel
theorem dX12_takesE_38 : decode cX12_takesE 38 = .ok (.bipush 40, 2) := by decide +kernel
theorem dX12_takesE_40 : decode cX12_takesE 40 = .ok (.if_icmp .ne 56, 3) := by decide +kernel
theorem dX12_takesE_43 : decode cX12_takesE 43 = .ok (.aload_n 0, 1) := by decide +kernel
theorem dX12_takesE_44 : decode cX12_takesE 44 = .ok (.getfield 86, 3) := by decide +kernel
theorem dX12_takesE_47 : decode cX12_takesE 47 = .ok (.iconst 4, 1) := by decide +kernel
theorem dX12_takesE_48 : decode cX12_takesE 48 = .ok (.if_icmp .ne 5, 3) := by decide +kernel
theorem dX12_takesE_51 : decode cX12_takesE 51 = .ok (.iconst 0, 1) := by decide +kernel
theorem dX12_takesE_52 : decode cX12_takesE 52 = .ok (.ireturn, 1) := by decide +kernel
theorem dX12_takesE_53 : decode cX12_takesE 53 = .ok (.aload_n 0, 1) := by decide +kernel
theorem dX12_takesE_54 : decode cX12_takesE 54 = .ok (.dup, 1) := by decide +kernel
theorem dX12_takesE_55 : decode cX12_takesE 55 = .ok (.getfield 86, 3) := by decide +kernel
theorem dX12_takesE_58 : decode cX12_takesE 58 = .ok (.iconst 1, 1) := by decide +kernel
theorem dX12_takesE_59 : decode cX12_takesE 59 = .ok (.iadd, 1) := by decide +kernel
theorem dX12_takesE_60 : decode cX12_takesE 60 = .ok (.putfield 86, 3) := by decide +kernel
theorem dX12_takesE_63 : decode cX12_takesE 63 = .ok (.aload_n 0, 1) := by decide +kernel
theorem dX12_takesE_64 : decode cX12_takesE 64 = .ok (.getfield 77, 3) := by decide +kernel
theorem dX12_takesE_67 : decode cX12_takesE 67 = .ok (.aload_n 0, 1) := by decide +kernel
theorem dX12_takesE_68 : decode cX12_takesE 68 = .ok (.getfield 83, 3) := by decide +kernel
theorem dX12_takesE_71 : decode cX12_takesE 71 = .ok (.iload_n 3, 1) := by decide +kernel
theorem dX12_takesE_72 : decode cX12_takesE 72 = .ok (.iastore, 1) := by decide +kernel
theorem dX12_takesE_73 : decode cX12_takesE 73 = .ok (.aload_n 0, 1) := by decide +kernel
theorem dX12_takesE_74 : decode cX12_takesE 74 = .ok (.dup, 1) := by decide +kernel
theorem dX12_takesE_75 : decode cX12_takesE 75 = .ok (.getfield 83, 3) := by decide +kernel
theorem dX12_takesE_78 : decode cX12_takesE 78 = .ok (.iconst 1, 1) := by decide +kernel
theorem dX12_takesE_79 : decode cX12_takesE 79 = .ok (.iadd, 1) := by decide +kernel
theorem dX12_takesE_80 : decode cX12_takesE 80 = .ok (.putfield 83, 3) := by decide +kernel
theorem dX12_takesE_83 : decode cX12_takesE 83 = .ok (.aload_n 0, 1) := by decide +kernel
theorem dX12_takesE_84 : decode cX12_takesE 84 = .ok (.dup, 1) := by decide +kernel
theorem dX12_takesE_85 : decode cX12_takesE 85 = .ok (.getfield 47, 3) := by decide +kernel
theorem dX12_takesE_88 : decode cX12_takesE 88 = .ok (.iconst 1, 1) := by decide +kernel
theorem dX12_takesE_89 : decode cX12_takesE 89 = .ok (.iadd, 1) := by decide +kernel
theorem dX12_takesE_90 : decode cX12_takesE 90 = .ok (.putfield 47, 3) := by decide +kernel
theorem dX12_takesE_93 : decode cX12_takesE 93 = .ok (.goto (-71), 3) := by decide +kernel
theorem dX12_takesE_96 : decode cX12_takesE 96 = .ok (.aload_n 0, 1) := by decide +kernel
theorem dX12_takesE_97 : decode cX12_takesE 97 = .ok (.invokevirtual 248, 3) := by decide +kernel
theorem dX12_takesE_100 : decode cX12_takesE 100 = .ok (.ifCond .eq 8, 3) := by decide +kernel
theorem dX12_takesE_103 : decode cX12_takesE 103 = .ok (.iconst 0, 1) := by decide +kernel
theorem dX12_takesE_104 : decode cX12_takesE 104 = .ok (.istore_n 2, 1) := by decide +kernel
theorem dX12_takesE_105 : decode cX12_takesE 105 = .ok (.goto (-83), 3) := by decide +kernel
theorem dX12_takesE_108 : decode cX12_takesE 108 = .ok (.iconst 0, 1) := by decide +kernel
theorem dX12_takesE_109 : decode cX12_takesE 109 = .ok (.ireturn, 1) := by decide +kernel
theorem dX12_takesE_110 : decode cX12_takesE 110 = .ok (.iload_n 3, 1) := by decide +kernel
theorem dX12_takesE_111 : decode cX12_takesE 111 = .ok (.bipush 38, 2) := by decide +kernel
theorem dX12_takesE_113 : decode cX12_takesE 113 = .ok (.if_icmp .eq 9, 3) := by decide +kernel
theorem dX12_takesE_116 : decode cX12_takesE 116 = .ok (.iload_n 3, 1) := by decide +kernel
theorem dX12_takesE_117 : decode cX12_takesE 117 = .ok (.bipush 124, 2) := by decide +kernel
theorem dX12_takesE_119 : decode cX12_takesE 119 = .ok (.if_icmp .ne 43, 3) := by decide +kernel
theorem dX12_takesE_122 : decode cX12_takesE 122 = .ok (.aload_n 0, 1) := by decide +kernel
theorem dX12_takesE_123 : decode cX12_takesE 123 = .ok (.iload_n 3, 1) := by decide +kernel
theorem dX12_takesE_124 : decode cX12_takesE 124 = .ok (.invokevirtual 251, 3) := by decide +kernel
theorem dX12_takesE_127 : decode cX12_takesE 127 = .ok (.aload_n 0, 1) := by decide +kernel
theorem dX12_takesE_128 : decode cX12_takesE 128 = .ok (.getfield 77, 3) := by decide +kernel
theorem dX12_takesE_131 : decode cX12_takesE 131 = .ok (.aload_n 0, 1) := by decide +kernel
theorem dX12_takesE_132 : decode cX12_takesE 132 = .ok (.getfield 83, 3) := by decide +kernel
theorem dX12_takesE_135 : decode cX12_takesE 135 = .ok (.iload_n 3, 1) := by decide +kernel
theorem dX12_takesE_136 : decode cX12_takesE 136 = .ok (.iastore, 1) := by decide +kernel
theorem dX12_takesE_137 : decode cX12_takesE 137 = .ok (.aload_n 0, 1) := by decide +kernel
theorem dX12_takesE_138 : decode cX12_takesE 138 = .ok (.dup, 1) := by decide +kernel
theorem dX12_takesE_139 : decode cX12_takesE 139 = .ok (.getfield 83, 3) := by decide +kernel
theorem dX12_takesE_142 : decode cX12_takesE 142 = .ok (.iconst 1, 1) := by decide +kernel
theorem dX12_takesE_143 : decode cX12_takesE 143 = .ok (.iadd, 1) := by decide +kernel
theorem dX12_takesE_144 : decode cX12_takesE 144 = .ok (.putfield 83, 3) := by decide +kernel
theorem dX12_takesE_147 : decode cX12_takesE 147 = .ok (.iconst 1, 1) := by decide +kernel
theorem dX12_takesE_148 : decode cX12_takesE 148 = .ok (.istore_n 2, 1) := by decide +kernel
theorem dX12_takesE_149 : decode cX12_takesE 149 = .ok (.aload_n 0, 1) := by decide +kernel
theorem dX12_takesE_150 : decode cX12_takesE 150 = .ok (.dup, 1) := by decide +kernel
theorem dX12_takesE_151 : decode cX12_takesE 151 = .ok (.getfield 47, 3) := by decide +kernel
theorem dX12_takesE_154 : decode cX12_takesE 154 = .ok (.iconst 1, 1) := by decide +kernel
theorem dX12_takesE_155 : decode cX12_takesE 155 = .ok (.iadd, 1) := by decide +kernel
theorem dX12_takesE_156 : decode cX12_takesE 156 = .ok (.putfield 47, 3) := by decide +kernel
theorem dX12_takesE_159 : decode cX12_takesE 159 = .ok (.goto (-137), 3) := by decide +kernel
theorem dX12_takesE_162 : decode cX12_takesE 162 = .ok (.aload_n 0, 1) := by decide +kernel
theorem dX12_takesE_163 : decode cX12_takesE 163 = .ok (.bipush 124, 2) := by decide +kernel
theorem dX12_takesE_165 : decode cX12_takesE 165 = .ok (.invokevirtual 251, 3) := by decide +kernel
theorem dX12_takesE_168 : decode cX12_takesE 168 = .ok (.aload_n 0, 1) := by decide +kernel
theorem dX12_takesE_169 : decode cX12_takesE 169 = .ok (.getfield 71, 3) := by decide +kernel
theorem dX12_takesE_172 : decode cX12_takesE 172 = .ok (.iload_n 1, 1) := by decide +kernel
theorem dX12_takesE_173 : decode cX12_takesE 173 = .ok (.aload_n 0, 1) := by decide +kernel
theorem dX12_takesE_174 : decode cX12_takesE 174 = .ok (.getfield 80, 3) := by decide +kernel
theorem dX12_takesE_177 : decode cX12_takesE 177 = .ok (.iastore, 1) := by decide +kernel
theorem dX12_takesE_178 : decode cX12_takesE 178 = .ok (.aload_n 0, 1) := by decide +kernel
theorem dX12_takesE_179 : decode cX12_takesE 179 = .ok (.getfield 83, 3) := by decide +kernel
theorem dX12_takesE_182 : decode cX12_takesE 182 = .ok (.ifCond .ne 5, 3) := by decide +kernel
theorem dX12_takesE_185 : decode cX12_takesE 185 = .ok (.iconst 1, 1) := by decide +kernel
theorem dX12_takesE_186 : decode cX12_takesE 186 = .ok (.ireturn, 1) := by decide +kernel
theorem dX12_takesE_187 : decode cX12_takesE 187 = .ok (.iload_n 3, 1) := by decide +kernel
theorem dX12_takesE_188 : decode cX12_takesE 188 = .ok (.bipush 41, 2) := by decide +kernel
theorem dX12_takesE_190 : decode cX12_takesE 190 = .ok (.if_icmp .eq 5, 3) := by decide +kernel
theorem dX12_takesE_193 : decode cX12_takesE 193 = .ok (.iconst 0, 1) := by decide +kernel
theorem dX12_takesE_194 : decode cX12_takesE 194 = .ok (.ireturn, 1) := by decide +kernel
theorem dX12_takesE_195 : decode cX12_takesE 195 = .ok (.aload_n 0, 1) := by decide +kernel
theorem dX12_takesE_196 : decode cX12_takesE 196 = .ok (.dup, 1) := by decide +kernel
theorem dX12_takesE_197 : decode cX12_takesE 197 = .ok (.getfield 83, 3) := by decide +kernel
theorem dX12_takesE_200 : decode cX12_takesE 200 = .ok (.iconst 1, 1) := by decide +kernel
theorem dX12_takesE_201 : decode cX12_takesE 201 = .ok (.isub, 1) := by decide +kernel
theorem dX12_takesE_202 : decode cX12_takesE 202 = .ok (.putfield 83, 3) := by decide +kernel
theorem dX12_takesE_205 : decode cX12_takesE 205 = .ok (.aload_n 0, 1) := by decide +kernel
theorem dX12_takesE_206 : decode cX12_takesE 206 = .ok (.dup, 1) := by decide +kernel
theorem dX12_takesE_207 : decode cX12_takesE 207 = .ok (.getfield 86, 3) := by decide +kernel
theorem dX12_takesE_210 : decode cX12_takesE 210 = .ok (.iconst 1, 1) := by decide +kernel
theorem dX12_takesE_211 : decode cX12_takesE 211 = .ok (.isub, 1) := by decide +kernel
theorem dX12_takesE_212 : decode cX12_takesE 212 = .ok (.putfield 86, 3) := by decide +kernel
theorem dX12_takesE_215 : decode cX12_takesE 215 = .ok (.aload_n 0, 1) := by decide +kernel
theorem dX12_takesE_216 : decode cX12_takesE 216 = .ok (.dup, 1) := by decide +kernel
theorem dX12_takesE_217 : decode cX12_takesE 217 = .ok (.getfield 47, 3) := by decide +kernel
theorem dX12_takesE_220 : decode cX12_takesE 220 = .ok (.iconst 1, 1) := by decide +kernel
theorem dX12_takesE_221 : decode cX12_takesE 221 = .ok (.iadd, 1) := by decide +kernel
theorem dX12_takesE_222 : decode cX12_takesE 222 = .ok (.putfield 47, 3) := by decide +kernel
theorem dX12_takesE_225 : decode cX12_takesE 225 = .ok (.aload_n 0, 1) := by decide +kernel
theorem dX12_takesE_226 : decode cX12_takesE 226 = .ok (.invokevirtual 245, 3) := by decide +kernel
theorem dX12_takesE_229 : decode cX12_takesE 229 = .ok (.goto (-207), 3) := by decide +kernel
theorem dX12_takesClause_0 : decode cX12_takesClause 0 = .ok (.aload_n 0, 1) := by decide +kernel
theorem dX12_takesClause_1 : decode cX12_takesClause 1 = .ok (.invokevirtual 254, 3) := by decide +kernel
theorem dX12_takesClause_4 : decode cX12_takesClause 4 = .ok (.istore_n 2, 1) := by decide +kernel
theorem dX12_takesClause_5 : decode cX12_takesClause 5 = .ok (.aload_n 0, 1) := by decide +kernel
theorem dX12_takesClause_6 : decode cX12_takesClause 6 = .ok (.invokevirtual 223, 3) := by decide +kernel
theorem dX12_takesClause_9 : decode cX12_takesClause 9 = .ok (.lookupswitch 158 #[(99, 27), (109, 108)], 27) := by decide +kernel
theorem dX12_takesClause_36 : decode cX12_takesClause 36 = .ok (.aload_n 0, 1) := by decide +kernel
theorem dX12_takesClause_37 : decode cX12_takesClause 37 = .ok (.getfield 59, 3) := by decide +kernel
theorem dX12_takesClause_40 : decode cX12_takesClause 40 = .ok (.iload_n 1, 1) := by decide +kernel
theorem dX12_takesClause_41 : decode cX12_takesClause 41 = .ok (.iconst 0, 1) := by decide +kernel
theorem dX12_takesClause_42 : decode cX12_takesClause 42 = .ok (.iastore, 1) := by decide +kernel
theorem dX12_takesClause_43 : decode cX12_takesClause 43 = .ok (.aload_n 0, 1) := by decide +kernel
theorem dX12_takesClause_44 : decode cX12_takesClause 44 = .ok (.ldc_w 257, 3) := by decide +kernel
theorem dX12_takesClause_47 : decode cX12_takesClause 47 = .ok (.iconst 4, 1) := by decide +kernel
theorem dX12_takesClause_48 : decode cX12_takesClause 48 = .ok (.invokevirtual 258, 3) := by decide +kernel
theorem dX12_takesClause_51 : decode cX12_takesClause 51 = .ok (.ifCond .eq 18, 3) := by decide +kernel
theorem dX12_takesClause_54 : decode cX12_takesClause 54 = .ok (.aload_n 0, 1) := by decide +kernel
theorem dX12_takesClause_55 : decode cX12_takesClause 55 = .ok (.aload_n 0, 1) := by decide +kernel
theorem dX12_takesClause_56 : decode cX12_takesClause 56 = .ok (.invokevirtual 223, 3) := by decide +kernel
theorem dX12_takesClause_59 : decode cX12_takesClause 59 = .ok (.bipush 48, 2) := by decide +kernel
theorem dX12_takesClause_61 : decode cX12_takesClause 61 = .ok (.bipush 53, 2) := by decide +kernel
theorem dX12_takesClause_63 : decode cX12_takesClause 63 = .ok (.invokevirtual 215, 3) := by decide +kernel
theorem dX12_takesClause_66 : decode cX12_takesClause 66 = .ok (.ifCond .ne 5, 3) := by decide +kernel
theorem dX12_takesClause_69 : decode cX12_takesClause 69 = .ok (.iconst 0, 1) := by decide +kernel
theorem dX12_takesClause_70 : decode cX12_takesClause 70 = .ok (.ireturn, 1) := by decide +kernel
theorem dX12_takesClause_71 : decode cX12_takesClause 71 = .ok (.aload_n 0, 1) := by decide +kernel
theorem dX12_takesClause_72 : decode cX12_takesClause 72 = .ok (.getfield 62, 3) := by decide +kernel
theorem dX12_takesClause_75 : decode cX12_takesClause 75 = .ok (.iload_n 1, 1) := by decide +kernel
theorem dX12_takesClause_76 : decode cX12_takesClause 76 = .ok (.aload_n 0, 1) := by decide +kernel
theorem dX12_takesClause_77 : decode cX12_takesClause 77 = .ok (.invokevirtual 223, 3) := by decide +kernel
theorem dX12_takesClause_80 : decode cX12_takesClause 80 = .ok (.bipush 48, 2) := by decide +kernel
theorem dX12_takesClause_82 : decode cX12_takesClause 82 = .ok (.isub, 1) := by decide +kernel
theorem dX12_takesClause_83 : decode cX12_takesClause 83 = .ok (.iastore, 1) := by decide +kernel
theorem dX12_takesClause_84 : decode cX12_takesClause 84 = .ok (.aload_n 0, 1) := by decide +kernel
theorem dX12_takesClause_85 : decode cX12_takesClause 85 = .ok (.dup, 1) := by decide +kernel
theorem dX12_takesClause_86 : decode cX12_takesClause 86 = .ok (.getfield 47, 3) := by decide +kernel
theorem dX12_takesClause_89 : decode cX12_takesClause 89 = .ok (.iconst 1, 1) := by decide +kernel
theorem dX12_takesClause_90 : decode cX12_takesClause 90 = .ok (.iadd, 1) := by decide +kernel
theorem dX12_takesClause_91 : decode cX12_takesClause 91 = .ok (.putfield 47, 3) := by decide +kernel
theorem dX12_takesClause_94 : decode cX12_takesClause 94 = .ok (.aload_n 0, 1) := by decide +kernel
theorem dX12_takesClause_95 : decode cX12_takesClause 95 = .ok (.bipush 32, 2) := by decide +kernel
theorem dX12_takesClause_97 : decode cX12_takesClause 97 = .ok (.invokevirtual 227, 3) := by decide +kernel
theorem dX12_takesClause_100 : decode cX12_takesClause 100 = .ok (.ifCond .eq 15, 3) := by decide +kernel
theorem dX12_takesClause_103 : decode cX12_takesClause 103 = .ok (.aload_n 0, 1) := by decide +kernel
theorem dX12_takesClause_104 : decode cX12_takesClause 104 = .ok (.iload_n 1, 1) := by decide +kernel
theorem dX12_takesClause_105 : decode cX12_takesClause 105 = .ok (.invokevirtual 262, 3) := by decide +kernel
theorem dX12_takesClause_108 : decode cX12_takesClause 108 = .ok (.ifCond .eq 7, 3) := by decide +kernel
theorem dX12_takesClause_111 : decode cX12_takesClause 111 = .ok (.iconst 1, 1) := by decide +kernel
theorem dX12_takesClause_112 : decode cX12_takesClause 112 = .ok (.goto 4, 3) := by decide +kernel
theorem dX12_takesClause_115 : decode cX12_takesClause 115 = .ok (.iconst 0, 1) := by decide +kernel
theorem dX12_takesClause_116 : decode cX12_takesClause 116 = .ok (.ireturn, 1) := by decide +kernel
theorem dX12_takesClause_117 : decode cX12_takesClause 117 = .ok (.aload_n 0, 1) := by decide +kernel
theorem dX12_takesClause_118 : decode cX12_takesClause 118 = .ok (.getfield 59, 3) := by decide +kernel
theorem dX12_takesClause_121 : decode cX12_takesClause 121 = .ok (.iload_n 1, 1) := by decide +kernel
theorem dX12_takesClause_122 : decode cX12_takesClause 122 = .ok (.iload_n 2, 1) := by decide +kernel
theorem dX12_takesClause_123 : decode cX12_takesClause 123 = .ok (.bipush 115, 2) := by decide +kernel
theorem dX12_takesClause_125 : decode cX12_takesClause 125 = .ok (.if_icmp .ne 7, 3) := by decide +kernel
theorem dX12_takesClause_128 : decode cX12_takesClause 128 = .ok (.iconst 3, 1) := by decide +kernel
theorem dX12_takesClause_129 : decode cX12_takesClause 129 = .ok (.goto 4, 3) := by decide +kernel
theorem dX12_takesClause_132 : decode cX12_takesClause 132 = .ok (.iconst 2, 1) := by decide +kernel
theorem dX12_takesClause_133 : decode cX12_takesClause 133 = .ok (.iastore, 1) := by decide +kernel
theorem dX12_takesClause_134 : decode cX12_takesClause 134 = .ok (.iload_n 2, 1) := by decide +kernel
theorem dX12_takesClause_135 : decode cX12_takesClause 135 = .ok (.bipush 115, 2) := by decide +kernel
theorem dX12_takesClause_137 : decode cX12_takesClause 137 = .ok (.if_icmp .ne 17, 3) := by decide +kernel
theorem dX12_takesClause_140 : decode cX12_takesClause 140 = .ok (.aload_n 0, 1) := by decide +kernel
theorem dX12_takesClause_141 : decode cX12_takesClause 141 = .ok (.ldc_w 265, 3) := by decide +kernel
theorem dX12_takesClause_144 : decode cX12_takesClause 144 = .ok (.iconst 4, 1) := by decide +kernel
theorem dX12_takesClause_145 : decode cX12_takesClause 145 = .ok (.invokevirtual 258, 3) := by decide +kernel
theorem dX12_takesClause_148 : decode cX12_takesClause 148 = .ok (.ifCond .eq 17, 3) := by decide +kernel
theorem dX12_takesClause_151 : decode cX12_takesClause 151 = .ok (.goto 36, 3) := by decide +kernel
theorem dX12_takesClause_154 : decode cX12_takesClause 154 = .ok (.aload_n 0, 1) := by decide +kernel
theorem dX12_takesClause_155 : decode cX12_takesClause 155 = .ok (.ldc_w 266, 3) := by decide +kernel
theorem dX12_takesClause_158 : decode cX12_takesClause 158 = .ok (.iconst 4, 1) := by decide +kernel
theorem dX12_takesClause_159 : decode cX12_takesClause 159 = .ok (.invokevirtual 258, 3) := by decide +kernel
theorem dX12_takesClause_162 : decode cX12_takesClause 162 = .ok (.ifCond .ne 25, 3) := by decide +kernel
theorem dX12_takesClause_165 : decode cX12_takesClause 165 = .ok (.iconst 0, 1) := by decide +kernel
theorem dX12_takesClause_166 : decode cX12_takesClause 166 = .ok (.ireturn, 1) := by decide +kernel
theorem dX12_takesClause_167 : decode cX12_takesClause 167 = .ok (.aload_n 0, 1) := by decide +kernel
theorem dX12_takesClause_168 : decode cX12_takesClause 168 = .ok (.getfield 59, 3) := by decide +kernel
theorem dX12_takesClause_171 : decode cX12_takesClause 171 = .ok (.iload_n 1, 1) := by decide +kernel
theorem dX12_takesClause_172 : decode cX12_takesClause 172 = .ok (.iconst 1, 1) := by decide +kernel
theorem dX12_takesClause_173 : decode cX12_takesClause 173 = .ok (.iastore, 1) := by decide +kernel
theorem dX12_takesClause_174 : decode cX12_takesClause 174 = .ok (.aload_n 0, 1) := by decide +kernel
theorem dX12_takesClause_175 : decode cX12_takesClause 175 = .ok (.ldc_w 267, 3) := by decide +kernel
theorem dX12_takesClause_178 : decode cX12_takesClause 178 = .ok (.iconst 5, 1) := by decide +kernel
theorem dX12_takesClause_179 : decode cX12_takesClause 179 = .ok (.invokevirtual 258, 3) := by decide +kernel
theorem dX12_takesClause_182 : decode cX12_takesClause 182 = .ok (.ifCond .ne 5, 3) := by decide +kernel
theorem dX12_takesClause_185 : decode cX12_takesClause 185 = .ok (.iconst 0, 1) := by decide +kernel
theorem dX12_takesClause_186 : decode cX12_takesClause 186 = .ok (.ireturn, 1) := by decide +kernel
theorem dX12_takesClause_187 : decode cX12_takesClause 187 = .ok (.aload_n 0, 1) := by decide +kernel
theorem dX12_takesClause_188 : decode cX12_takesClause 188 = .ok (.invokevirtual 242, 3) := by decide +kernel
theorem dX12_takesClause_191 : decode cX12_takesClause 191 = .ok (.ifCond .ne 5, 3) := by decide +kernel
theorem dX12_takesClause_194 : decode cX12_takesClause 194 = .ok (.iconst 0, 1) := by decide +kernel
theorem dX12_takesClause_195 : decode cX12_takesClause 195 = .ok (.ireturn, 1) := by decide +kernel
theorem dX12_takesClause_196 : decode cX12_takesClause 196 = .ok (.aload_n 0, 1) := by decide +kernel
theorem dX12_takesClause_197 : decode cX12_takesClause 197 = .ok (.getfield 65, 3) := by decide +kernel
theorem dX12_takesClause_200 : decode cX12_takesClause 200 = .ok (.iload_n 1, 1) := by decide +kernel
theorem dX12_takesClause_201 : decode cX12_takesClause 201 = .ok (.aload_n 0, 1) := by decide +kernel
theorem dX12_takesClause_202 : decode cX12_takesClause 202 = .ok (.getfield 50, 3) := by decide +kernel
theorem dX12_takesClause_205 : decode cX12_takesClause 205 = .ok (.iastore, 1) := by decide +kernel
theorem dX12_takesClause_206 : decode cX12_takesClause 206 = .ok (.iconst 1, 1) := by decide +kernel
theorem dX12_takesClause_207 : decode cX12_takesClause 207 = .ok (.ireturn, 1) := by decide +kernel
theorem dX12_goesText_0 : decode cX12_goesText 0 = .ok (.aload_n 0, 1) := by decide +kernel
theorem dX12_goesText_1 : decode cX12_goesText 1 = .ok (.iconst 0, 1) := by decide +kernel
theorem dX12_goesText_2 : decode cX12_goesText 2 = .ok (.putfield 47, 3) := by decide +kernel
theorem dX12_goesText_5 : decode cX12_goesText 5 = .ok (.aload_n 0, 1) := by decide +kernel
theorem dX12_goesText_6 : decode cX12_goesText 6 = .ok (.bipush 100, 2) := by decide +kernel
theorem dX12_goesText_8 : decode cX12_goesText 8 = .ok (.iload_n 1, 1) := by decide +kernel
theorem dX12_goesText_9 : decode cX12_goesText 9 = .ok (.imul, 1) := by decide +kernel
theorem dX12_goesText_10 : decode cX12_goesText 10 = .ok (.putfield 80, 3) := by decide +kernel
theorem dX12_goesText_13 : decode cX12_goesText 13 = .ok (.iconst 0, 1) := by decide +kernel
theorem dX12_goesText_14 : decode cX12_goesText 14 = .ok (.istore_n 2, 1) := by decide +kernel
theorem dX12_goesText_15 : decode cX12_goesText 15 = .ok (.aload_n 0, 1) := by decide +kernel
theorem dX12_goesText_16 : decode cX12_goesText 16 = .ok (.bipush 8, 2) := by decide +kernel
theorem dX12_goesText_18 : decode cX12_goesText 18 = .ok (.iload_n 1, 1) := by decide +kernel
theorem dX12_goesText_19 : decode cX12_goesText 19 = .ok (.imul, 1) := by decide +kernel
theorem dX12_goesText_20 : decode cX12_goesText 20 = .ok (.iload_n 2, 1) := by decide +kernel
theorem dX12_goesText_21 : decode cX12_goesText 21 = .ok (.iadd, 1) := by decide +kernel
theorem dX12_goesText_22 : decode cX12_goesText 22 = .ok (.invokevirtual 268, 3) := by decide +kernel
theorem dX12_goesText_25 : decode cX12_goesText 25 = .ok (.ifCond .ne 5, 3) := by decide +kernel
theorem dX12_goesText_28 : decode cX12_goesText 28 = .ok (.iconst 0, 1) := by decide +kernel
theorem dX12_goesText_29 : decode cX12_goesText 29 = .ok (.ireturn, 1) := by decide +kernel
theorem dX12_goesText_30 : decode cX12_goesText 30 = .ok (.iinc 2 1, 3) := by decide +kernel
theorem dX12_goesText_33 : decode cX12_goesText 33 = .ok (.aload_n 0, 1) := by decide +kernel
theorem dX12_goesText_34 : decode cX12_goesText 34 = .ok (.getfield 56, 3) := by decide +kernel
theorem dX12_goesText_37 : decode cX12_goesText 37 = .ok (.iload_n 1, 1) := by decide +kernel
theorem dX12_goesText_38 : decode cX12_goesText 38 = .ok (.iload_n 2, 1) := by decide +kernel
theorem dX12_goesText_39 : decode cX12_goesText 39 = .ok (.iastore, 1) := by decide +kernel
theorem dX12_goesText_40 : decode cX12_goesText 40 = .ok (.aload_n 0, 1) := by decide +kernel
theorem dX12_goesText_41 : decode cX12_goesText 41 = .ok (.getfield 47, 3) := by decide +kernel
theorem dX12_goesText_44 : decode cX12_goesText 44 = .ok (.aload_n 0, 1) := by decide +kernel
theorem dX12_goesText_45 : decode cX12_goesText 45 = .ok (.getfield 44, 3) := by decide +kernel
theorem dX12_goesText_48 : decode cX12_goesText 48 = .ok (.if_icmp .ne 5, 3) := by decide +kernel
theorem dX12_goesText_51 : decode cX12_goesText 51 = .ok (.iconst 1, 1) := by decide +kernel
theorem dX12_goesText_52 : decode cX12_goesText 52 = .ok (.ireturn, 1) := by decide +kernel
theorem dX12_goesText_53 : decode cX12_goesText 53 = .ok (.iload_n 2, 1) := by decide +kernel
theorem dX12_goesText_54 : decode cX12_goesText 54 = .ok (.bipush 8, 2) := by decide +kernel
theorem dX12_goesText_56 : decode cX12_goesText 56 = .ok (.if_icmp .eq 12, 3) := by decide +kernel
theorem dX12_goesText_59 : decode cX12_goesText 59 = .ok (.aload_n 0, 1) := by decide +kernel
theorem dX12_goesText_60 : decode cX12_goesText 60 = .ok (.bipush 59, 2) := by decide +kernel
theorem dX12_goesText_62 : decode cX12_goesText 62 = .ok (.invokevirtual 227, 3) := by decide +kernel
theorem dX12_goesText_65 : decode cX12_goesText 65 = .ok (.ifCond .ne (-50), 3) := by decide +kernel
theorem dX12_goesText_68 : decode cX12_goesText 68 = .ok (.iconst 0, 1) := by decide +kernel
theorem dX12_goesText_69 : decode cX12_goesText 69 = .ok (.ireturn, 1) := by decide +kernel
theorem dX12_window_0 : decode cX12_window 0 = .ok (.aload_n 0, 1) := by decide +kernel
theorem dX12_window_1 : decode cX12_window 1 = .ok (.getfield 38, 3) := by decide +kernel
theorem dX12_window_4 : decode cX12_window 4 = .ok (.bipush 6, 2) := by decide +kernel
theorem dX12_window_6 : decode cX12_window 6 = .ok (.if_icmp .ne 6, 3) := by decide +kernel
theorem dX12_window_9 : decode cX12_window 9 = .ok (.bipush (-4), 2) := by decide +kernel
theorem dX12_window_11 : decode cX12_window 11 = .ok (.ireturn, 1) := by decide +kernel
theorem dX12_window_12 : decode cX12_window 12 = .ok (.aload_n 0, 1) := by decide +kernel
theorem dX12_window_13 : decode cX12_window 13 = .ok (.aload_n 0, 1) := by decide +kernel
theorem dX12_window_14 : decode cX12_window 14 = .ok (.getfield 38, 3) := by decide +kernel
theorem dX12_window_17 : decode cX12_window 17 = .ok (.invokevirtual 271, 3) := by decide +kernel
theorem dX12_window_20 : decode cX12_window 20 = .ok (.istore_n 1, 1) := by decide +kernel
theorem dX12_window_21 : decode cX12_window 21 = .ok (.aload_n 0, 1) := by decide +kernel
theorem dX12_window_22 : decode cX12_window 22 = .ok (.iconst 0, 1) := by decide +kernel
theorem dX12_window_23 : decode cX12_window 23 = .ok (.putfield 44, 3) := by decide +kernel
theorem dX12_window_26 : decode cX12_window 26 = .ok (.iload_n 1, 1) := by decide +kernel
theorem dX12_window_27 : decode cX12_window 27 = .ok (.ifCond .ne 11, 3) := by decide +kernel
theorem dX12_window_30 : decode cX12_window 30 = .ok (.bipush (-10), 2) := by decide +kernel
theorem dX12_window_32 : decode cX12_window 32 = .ok (.aload_n 0, 1) := by decide +kernel
theorem dX12_window_33 : decode cX12_window 33 = .ok (.getfield 47, 3) := by decide +kernel
theorem dX12_window_36 : decode cX12_window 36 = .ok (.isub, 1) := by decide +kernel
theorem dX12_window_37 : decode cX12_window 37 = .ok (.ireturn, 1) := by decide +kernel
theorem dX12_window_38 : decode cX12_window 38 = .ok (.aload_n 0, 1) := by decide +kernel
theorem dX12_window_39 : decode cX12_window 39 = .ok (.aload_n 0, 1) := by decide +kernel
theorem dX12_window_40 : decode cX12_window 40 = .ok (.getfield 38, 3) := by decide +kernel
theorem dX12_window_43 : decode cX12_window 43 = .ok (.putfield 41, 3) := by decide +kernel
theorem dX12_window_46 : decode cX12_window 46 = .ok (.aload_n 0, 1) := by decide +kernel
theorem dX12_window_47 : decode cX12_window 47 = .ok (.dup, 1) := by decide +kernel
theorem dX12_window_48 : decode cX12_window 48 = .ok (.getfield 38, 3) := by decide +kernel
theorem dX12_window_51 : decode cX12_window 51 = .ok (.iconst 1, 1) := by decide +kernel
theorem dX12_window_52 : decode cX12_window 52 = .ok (.iadd, 1) := by decide +kernel
theorem dX12_window_53 : decode cX12_window 53 = .ok (.putfield 38, 3) := by decide +kernel
theorem dX12_window_56 : decode cX12_window 56 = .ok (.aload_n 0, 1) := by decide +kernel
theorem dX12_window_57 : decode cX12_window 57 = .ok (.getfield 41, 3) := by decide +kernel
theorem dX12_window_60 : decode cX12_window 60 = .ok (.ireturn, 1) := by decide +kernel
theorem dX12_first_0 : decode cX12_first 0 = .ok (.aload_n 0, 1) := by decide +kernel
theorem dX12_first_1 : decode cX12_first 1 = .ok (.getfield 41, 3) := by decide +kernel
theorem dX12_first_4 : decode cX12_first 4 = .ok (.ifCond .ge 7, 3) := by decide +kernel
theorem dX12_first_7 : decode cX12_first 7 = .ok (.iconst 0, 1) := by decide +kernel
theorem dX12_first_8 : decode cX12_first 8 = .ok (.goto 10, 3) := by decide +kernel
theorem dX12_first_11 : decode cX12_first 11 = .ok (.bipush 8, 2) := by decide +kernel
theorem dX12_first_13 : decode cX12_first 13 = .ok (.aload_n 0, 1) := by decide +kernel
theorem dX12_first_14 : decode cX12_first 14 = .ok (.getfield 41, 3) := by decide +kernel
theorem dX12_first_17 : decode cX12_first 17 = .ok (.imul, 1) := by decide +kernel
theorem dX12_first_18 : decode cX12_first 18 = .ok (.ireturn, 1) := by decide +kernel
theorem dX12_behind_0 : decode cX12_behind 0 = .ok (.aload_n 0, 1) := by decide +kernel
theorem dX12_behind_1 : decode cX12_behind 1 = .ok (.getfield 41, 3) := by decide +kernel
theorem dX12_behind_4 : decode cX12_behind 4 = .ok (.ifCond .ge 7, 3) := by decide +kernel
theorem dX12_behind_7 : decode cX12_behind 7 = .ok (.iconst 0, 1) := by decide +kernel
theorem dX12_behind_8 : decode cX12_behind 8 = .ok (.goto 20, 3) := by decide +kernel
theorem dX12_behind_11 : decode cX12_behind 11 = .ok (.bipush 8, 2) := by decide +kernel
theorem dX12_behind_13 : decode cX12_behind 13 = .ok (.aload_n 0, 1) := by decide +kernel
theorem dX12_behind_14 : decode cX12_behind 14 = .ok (.getfield 41, 3) := by decide +kernel
theorem dX12_behind_17 : decode cX12_behind 17 = .ok (.imul, 1) := by decide +kernel
theorem dX12_behind_18 : decode cX12_behind 18 = .ok (.aload_n 0, 1) := by decide +kernel
theorem dX12_behind_19 : decode cX12_behind 19 = .ok (.getfield 56, 3) := by decide +kernel
theorem dX12_behind_22 : decode cX12_behind 22 = .ok (.aload_n 0, 1) := by decide +kernel
theorem dX12_behind_23 : decode cX12_behind 23 = .ok (.getfield 41, 3) := by decide +kernel
theorem dX12_behind_26 : decode cX12_behind 26 = .ok (.iaload, 1) := by decide +kernel
theorem dX12_behind_27 : decode cX12_behind 27 = .ok (.iadd, 1) := by decide +kernel
theorem dX12_behind_28 : decode cX12_behind 28 = .ok (.ireturn, 1) := by decide +kernel
theorem dX12_last_0 : decode cX12_last 0 = .ok (.iload_n 2, 1) := by decide +kernel
theorem dX12_last_1 : decode cX12_last 1 = .ok (.istore 4, 2) := by decide +kernel
theorem dX12_last_3 : decode cX12_last 3 = .ok (.aload_n 0, 1) := by decide +kernel
theorem dX12_last_4 : decode cX12_last 4 = .ok (.invokevirtual 274, 3) := by decide +kernel
theorem dX12_last_7 : decode cX12_last 7 = .ok (.istore 5, 2) := by decide +kernel
theorem dX12_last_9 : decode cX12_last 9 = .ok (.iload 5, 2) := by decide +kernel
theorem dX12_last_11 : decode cX12_last 11 = .ok (.aload_n 0, 1) := by decide +kernel
theorem dX12_last_12 : decode cX12_last 12 = .ok (.invokevirtual 277, 3) := by decide +kernel
theorem dX12_last_15 : decode cX12_last 15 = .ok (.if_icmp .ge 34, 3) := by decide +kernel
theorem dX12_last_18 : decode cX12_last 18 = .ok (.aload_n 0, 1) := by decide +kernel
theorem dX12_last_19 : decode cX12_last 19 = .ok (.getfield 59, 3) := by decide +kernel
theorem dX12_last_22 : decode cX12_last 22 = .ok (.iload 5, 2) := by decide +kernel
theorem dX12_last_24 : decode cX12_last 24 = .ok (.iaload, 1) := by decide +kernel
theorem dX12_last_25 : decode cX12_last 25 = .ok (.iload_n 1, 1) := by decide +kernel
theorem dX12_last_26 : decode cX12_last 26 = .ok (.if_icmp .ne 13, 3) := by decide +kernel
theorem dX12_last_29 : decode cX12_last 29 = .ok (.aload_n 0, 1) := by decide +kernel
theorem dX12_last_30 : decode cX12_last 30 = .ok (.getfield 65, 3) := by decide +kernel
theorem dX12_last_33 : decode cX12_last 33 = .ok (.iload 5, 2) := by decide +kernel
theorem dX12_last_35 : decode cX12_last 35 = .ok (.iaload, 1) := by decide +kernel
theorem dX12_last_36 : decode cX12_last 36 = .ok (.goto 5, 3) := by decide +kernel
theorem dX12_last_39 : decode cX12_last 39 = .ok (.iload 4, 2) := by decide +kernel
theorem dX12_last_41 : decode cX12_last 41 = .ok (.istore 4, 2) := by decide +kernel
theorem dX12_last_43 : decode cX12_last 43 = .ok (.iinc 5 1, 3) := by decide +kernel
theorem dX12_last_46 : decode cX12_last 46 = .ok (.goto (-37), 3) := by decide +kernel
theorem dX12_last_49 : decode cX12_last 49 = .ok (.aload_n 0, 1) := by decide +kernel
theorem dX12_last_50 : decode cX12_last 50 = .ok (.iload 4, 2) := by decide +kernel
theorem dX12_last_52 : decode cX12_last 52 = .ok (.iload_n 3, 1) := by decide +kernel
theorem dX12_last_53 : decode cX12_last 53 = .ok (.invokevirtual 280, 3) := by decide +kernel
theorem dX12_last_56 : decode cX12_last 56 = .ok (.ireturn, 1) := by decide +kernel
theorem dX12_told_0 : decode cX12_told 0 = .ok (.iload_n 1, 1) := by decide +kernel
theorem dX12_told_1 : decode cX12_told 1 = .ok (.tableswitch 55 0 2 #[27, 36, 45], 27) := by decide +kernel
theorem dX12_told_28 : decode cX12_told 28 = .ok (.aload_n 0, 1) := by decide +kernel
theorem dX12_told_29 : decode cX12_told 29 = .ok (.iconst 1, 1) := by decide +kernel
theorem dX12_told_30 : decode cX12_told 30 = .ok (.iconst 0, 1) := by decide +kernel
theorem dX12_told_31 : decode cX12_told 31 = .ok (.bipush 20, 2) := by decide +kernel
theorem dX12_told_33 : decode cX12_told 33 = .ok (.invokevirtual 284, 3) := by decide +kernel
theorem dX12_told_36 : decode cX12_told 36 = .ok (.ireturn, 1) := by decide +kernel
theorem dX12_told_37 : decode cX12_told 37 = .ok (.aload_n 0, 1) := by decide +kernel
theorem dX12_told_38 : decode cX12_told 38 = .ok (.iconst 2, 1) := by decide +kernel
theorem dX12_told_39 : decode cX12_told 39 = .ok (.iconst 0, 1) := by decide +kernel
theorem dX12_told_40 : decode cX12_told 40 = .ok (.bipush 20, 2) := by decide +kernel
theorem dX12_told_42 : decode cX12_told 42 = .ok (.invokevirtual 284, 3) := by decide +kernel
theorem dX12_told_45 : decode cX12_told 45 = .ok (.ireturn, 1) := by decide +kernel
theorem dX12_told_46 : decode cX12_told 46 = .ok (.aload_n 0, 1) := by decide +kernel
theorem dX12_told_47 : decode cX12_told 47 = .ok (.iconst 3, 1) := by decide +kernel
theorem dX12_told_48 : decode cX12_told 48 = .ok (.bipush 30, 2) := by decide +kernel
theorem dX12_told_50 : decode cX12_told 50 = .ok (.bipush 40, 2) := by decide +kernel
theorem dX12_told_52 : decode cX12_told 52 = .ok (.invokevirtual 284, 3) := by decide +kernel
theorem dX12_told_55 : decode cX12_told 55 = .ok (.ireturn, 1) := by decide +kernel
theorem dX12_told_56 : decode cX12_told 56 = .ok (.iconst (-1), 1) := by decide +kernel
theorem dX12_told_57 : decode cX12_told 57 = .ok (.ireturn, 1) := by decide +kernel
theorem dX12_holds_0 : decode cX12_holds 0 = .ok (.iconst 0, 1) := by decide +kernel
theorem dX12_holds_1 : decode cX12_holds 1 = .ok (.istore_n 3, 1) := by decide +kernel
theorem dX12_holds_2 : decode cX12_holds 2 = .ok (.aload_n 0, 1) := by decide +kernel
theorem dX12_holds_3 : decode cX12_holds 3 = .ok (.getfield 68, 3) := by decide +kernel
theorem dX12_holds_6 : decode cX12_holds 6 = .ok (.iload_n 1, 1) := by decide +kernel
theorem dX12_holds_7 : decode cX12_holds 7 = .ok (.iaload, 1) := by decide +kernel
theorem dX12_holds_8 : decode cX12_holds 8 = .ok (.istore 4, 2) := by decide +kernel
theorem dX12_holds_10 : decode cX12_holds 10 = .ok (.iload 4, 2) := by decide +kernel
theorem dX12_holds_12 : decode cX12_holds 12 = .ok (.aload_n 0, 1) := by decide +kernel
theorem dX12_holds_13 : decode cX12_holds 13 = .ok (.getfield 71, 3) := by decide +kernel
theorem dX12_holds_16 : decode cX12_holds 16 = .ok (.iload_n 1, 1) := by decide +kernel
theorem dX12_holds_17 : decode cX12_holds 17 = .ok (.iaload, 1) := by decide +kernel
theorem dX12_holds_18 : decode cX12_holds 18 = .ok (.if_icmp .ge 262, 3) := by decide +kernel
theorem dX12_holds_21 : decode cX12_holds 21 = .ok (.aload_n 0, 1) := by decide +kernel
theorem dX12_holds_22 : decode cX12_holds 22 = .ok (.getfield 74, 3) := by decide +kernel
theorem dX12_holds_25 : decode cX12_holds 25 = .ok (.iload 4, 2) := by decide +kernel
theorem dX12_holds_27 : decode cX12_holds 27 = .ok (.iaload, 1) := by decide +kernel
theorem dX12_holds_28 : decode cX12_holds 28 = .ok (.istore 5, 2) := by decide +kernel
theorem dX12_holds_30 : decode cX12_holds 30 = .ok (.iload 5, 2) := by decide +kernel
theorem dX12_holds_32 : decode cX12_holds 32 = .ok (.bipush (-33), 2) := by decide +kernel
theorem dX12_holds_34 : decode cX12_holds 34 = .ok (.if_icmp .ne 30, 3) := by decide +kernel
theorem dX12_holds_37 : decode cX12_holds 37 = .ok (.aload_n 0, 1) := by decide +kernel
theorem dX12_holds_38 : decode cX12_holds 38 = .ok (.getfield 89, 3) := by decide +kernel
theorem dX12_holds_41 : decode cX12_holds 41 = .ok (.iload_n 3, 1) := by decide +kernel
theorem dX12_holds_42 : decode cX12_holds 42 = .ok (.iconst 1, 1) := by decide +kernel
theorem dX12_holds_43 : decode cX12_holds 43 = .ok (.isub, 1) := by decide +kernel
theorem dX12_holds_44 : decode cX12_holds 44 = .ok (.aload_n 0, 1) := by decide +kernel
theorem dX12_holds_45 : decode cX12_holds 45 = .ok (.getfield 89, 3) := by decide +kernel
theorem dX12_holds_48 : decode cX12_holds 48 = .ok (.iload_n 3, 1) := by decide +kernel
theorem dX12_holds_49 : decode cX12_holds 49 = .ok (.iconst 1, 1) := by decide +kernel
theorem dX12_holds_50 : decode cX12_holds 50 = .ok (.isub, 1) := by decide +kernel
theorem dX12_holds_51 : decode cX12_holds 51 = .ok (.baload, 1) := by decide +kernel
theorem dX12_holds_52 : decode cX12_holds 52 = .ok (.ifCond .ne 7, 3) := by decide +kernel
theorem dX12_holds_55 : decode cX12_holds 55 = .ok (.iconst 1, 1) := by decide +kernel
theorem dX12_holds_56 : decode cX12_holds 56 = .ok (.goto 4, 3) := by decide +kernel
theorem dX12_holds_59 : decode cX12_holds 59 = .ok (.iconst 0, 1) := by decide +kernel
theorem dX12_holds_60 : decode cX12_holds 60 = .ok (.bastore, 1) := by decide +kernel
theorem dX12_holds_61 : decode cX12_holds 61 = .ok (.goto 213, 3) := by decide +kernel
theorem dX12_holds_64 : decode cX12_holds 64 = .ok (.iload 5, 2) := by decide +kernel
theorem dX12_holds_66 : decode cX12_holds 66 = .ok (.ifCond .ge 77, 3) := by decide +kernel
theorem dX12_holds_69 : decode cX12_holds 69 = .ok (.iinc 3 (-1), 3) := by decide +kernel
theorem dX12_holds_72 : decode cX12_holds 72 = .ok (.aload_n 0, 1) := by decide +kernel
theorem dX12_holds_73 : decode cX12_holds 73 = .ok (.getfield 89, 3) := by decide +kernel
theorem dX12_holds_76 : decode cX12_holds 76 = .ok (.iload_n 3, 1) := by decide +kernel
theorem dX12_holds_77 : decode cX12_holds 77 = .ok (.iconst 1, 1) := by decide +kernel
theorem dX12_holds_78 : decode cX12_holds 78 = .ok (.isub, 1) := by decide +kernel
theorem dX12_holds_79 : decode cX12_holds 79 = .ok (.iload 5, 2) := by decide +kernel
theorem dX12_holds_81 : decode cX12_holds 81 = .ok (.bipush (-38), 2) := by decide +kernel
theorem dX12_holds_83 : decode cX12_holds 83 = .ok (.if_icmp .ne 31, 3) := by decide +kernel
theorem dX12_holds_86 : decode cX12_holds 86 = .ok (.aload_n 0, 1) := by decide +kernel
theorem dX12_holds_87 : decode cX12_holds 87 = .ok (.getfield 89, 3) := by decide +kernel
theorem dX12_holds_90 : decode cX12_holds 90 = .ok (.iload_n 3, 1) := by decide +kernel
theorem dX12_holds_91 : decode cX12_holds 91 = .ok (.iconst 1, 1) := by decide +kernel
theorem dX12_holds_92 : decode cX12_holds 92 = .ok (.isub, 1) := by decide +kernel
theorem dX12_holds_93 : decode cX12_holds 93 = .ok (.baload, 1) := by decide +kernel
theorem dX12_holds_94 : decode cX12_holds 94 = .ok (.ifCond .eq 16, 3) := by decide +kernel
theorem dX12_holds_97 : decode cX12_holds 97 = .ok (.aload_n 0, 1) := by decide +kernel
theorem dX12_holds_98 : decode cX12_holds 98 = .ok (.getfield 89, 3) := by decide +kernel
theorem dX12_holds_101 : decode cX12_holds 101 = .ok (.iload_n 3, 1) := by decide +kernel
theorem dX12_holds_102 : decode cX12_holds 102 = .ok (.baload, 1) := by decide +kernel
theorem dX12_holds_103 : decode cX12_holds 103 = .ok (.ifCond .eq 7, 3) := by decide +kernel
theorem dX12_holds_106 : decode cX12_holds 106 = .ok (.iconst 1, 1) := by decide +kernel
theorem dX12_holds_107 : decode cX12_holds 107 = .ok (.goto 32, 3) := by decide +kernel
theorem dX12_holds_110 : decode cX12_holds 110 = .ok (.iconst 0, 1) := by decide +kernel
theorem dX12_holds_111 : decode cX12_holds 111 = .ok (.goto 28, 3) := by decide +kernel
theorem dX12_holds_114 : decode cX12_holds 114 = .ok (.aload_n 0, 1) := by decide +kernel
theorem dX12_holds_115 : decode cX12_holds 115 = .ok (.getfield 89, 3) := by decide +kernel
theorem dX12_holds_118 : decode cX12_holds 118 = .ok (.iload_n 3, 1) := by decide +kernel
theorem dX12_holds_119 : decode cX12_holds 119 = .ok (.iconst 1, 1) := by decide +kernel
theorem dX12_holds_120 : decode cX12_holds 120 = .ok (.isub, 1) := by decide +kernel
theorem dX12_holds_121 : decode cX12_holds 121 = .ok (.baload, 1) := by decide +kernel
theorem dX12_holds_122 : decode cX12_holds 122 = .ok (.ifCond .ne 12, 3) := by decide +kernel
theorem dX12_holds_125 : decode cX12_holds 125 = .ok (.aload_n 0, 1) := by decide +kernel
theorem dX12_holds_126 : decode cX12_holds 126 = .ok (.getfield 89, 3) := by decide +kernel
theorem dX12_holds_129 : decode cX12_holds 129 = .ok (.iload_n 3, 1) := by decide +kernel
theorem dX12_holds_130 : decode cX12_holds 130 = .ok (.baload, 1) := by decide +kernel
theorem dX12_holds_131 : decode cX12_holds 131 = .ok (.ifCond .eq 7, 3) := by decide +kernel
theorem dX12_holds_134 : decode cX12_holds 134 = .ok (.iconst 1, 1) := by decide +kernel
theorem dX12_holds_135 : decode cX12_holds 135 = .ok (.goto 4, 3) := by decide +kernel
theorem dX12_holds_138 : decode cX12_holds 138 = .ok (.iconst 0, 1) := by decide +kernel
theorem dX12_holds_139 : decode cX12_holds 139 = .ok (.bastore, 1) := by decide +kernel
theorem dX12_holds_140 : decode cX12_holds 140 = .ok (.goto 134, 3) := by decide +kernel
theorem dX12_holds_143 : decode cX12_holds 143 = .ok (.iload 5, 2) := by decide +kernel
theorem dX12_holds_145 : decode cX12_holds 145 = .ok (.sipush 1000, 3) := by decide +kernel
theorem dX12_holds_148 : decode cX12_holds 148 = .ok (.if_icmp .ge 7, 3) := by decide +kernel
theorem dX12_holds_151 : decode cX12_holds 151 = .ok (.iload_n 2, 1) := by decide +kernel
theorem dX12_holds_152 : decode cX12_holds 152 = .ok (.goto 39, 3) := by decide +kernel
theorem dX12_holds_155 : decode cX12_holds 155 = .ok (.iload 5, 2) := by decide +kernel
theorem dX12_holds_157 : decode cX12_holds 157 = .ok (.sipush 2000, 3) := by decide +kernel
theorem dX12_holds_160 : decode cX12_holds 160 = .ok (.if_icmp .ge 11, 3) := by decide +kernel
theorem dX12_holds_163 : decode cX12_holds 163 = .ok (.aload_n 0, 1) := by decide +kernel
theorem dX12_holds_164 : decode cX12_holds 164 = .ok (.iconst 1, 1) := by decide +kernel
theorem dX12_holds_165 : decode cX12_holds 165 = .ok (.invokevirtual 288, 3) := by decide +kernel
theorem dX12_holds_168 : decode cX12_holds 168 = .ok (.goto 23, 3) := by decide +kernel
theorem dX12_holds_171 : decode cX12_holds 171 = .ok (.iload 5, 2) := by decide +kernel
theorem dX12_holds_173 : decode cX12_holds 173 = .ok (.sipush 3000, 3) := by decide +kernel
theorem dX12_holds_176 : decode cX12_holds 176 = .ok (.if_icmp .ge 11, 3) := by decide +kernel
theorem dX12_holds_179 : decode cX12_holds 179 = .ok (.aload_n 0, 1) := by decide +kernel
theorem dX12_holds_180 : decode cX12_holds 180 = .ok (.iconst 0, 1) := by decide +kernel
theorem dX12_holds_181 : decode cX12_holds 181 = .ok (.invokevirtual 288, 3) := by decide +kernel
theorem dX12_holds_184 : decode cX12_holds 184 = .ok (.goto 7, 3) := by decide +kernel
theorem dX12_holds_187 : decode cX12_holds 187 = .ok (.aload_n 0, 1) := by decide +kernel
theorem dX12_holds_188 : decode cX12_holds 188 = .ok (.getfield 105, 3) := by decide +kernel
theorem dX12_holds_191 : decode cX12_holds 191 = .ok (.istore 6, 2) := by decide +kernel
theorem dX12_holds_193 : decode cX12_holds 193 = .ok (.iload 5, 2) := by decide +kernel
theorem dX12_holds_195 : decode cX12_holds 195 = .ok (.bipush 100, 2) := by decide +kernel
theorem dX12_holds_197 : decode cX12_holds 197 = .ok (.idiv, 1) := by decide +kernel
theorem dX12_holds_198 : decode cX12_holds 198 = .ok (.bipush 10, 2) := by decide +kernel
theorem dX12_holds_200 : decode cX12_holds 200 = .ok (.irem, 1) := by decide +kernel
theorem dX12_holds_201 : decode cX12_holds 201 = .ok (.istore 7, 2) := by decide +kernel
theorem dX12_holds_203 : decode cX12_holds 203 = .ok (.aload_n 0, 1) := by decide +kernel
theorem dX12_holds_204 : decode cX12_holds 204 = .ok (.getfield 89, 3) := by decide +kernel
theorem dX12_holds_207 : decode cX12_holds 207 = .ok (.iload_n 3, 1) := by decide +kernel
theorem dX12_holds_208 : decode cX12_holds 208 = .ok (.iload 7, 2) := by decide +kernel
theorem dX12_holds_210 : decode cX12_holds 210 = .ok (.ifCond .ne 21, 3) := by decide +kernel
theorem dX12_holds_213 : decode cX12_holds 213 = .ok (.iload 6, 2) := by decide +kernel
theorem dX12_holds_215 : decode cX12_holds 215 = .ok (.iload 5, 2) := by decide +kernel
theorem dX12_holds_217 : decode cX12_holds 217 = .ok (.bipush 100, 2) := by decide +kernel
theorem dX12_holds_219 : decode cX12_holds 219 = .ok (.irem, 1) := by decide +kernel
theorem dX12_holds_220 : decode cX12_holds 220 = .ok (.if_icmp .ge 7, 3) := by decide +kernel
theorem dX12_holds_223 : decode cX12_holds 223 = .ok (.iconst 1, 1) := by decide +kernel
theorem dX12_holds_224 : decode cX12_holds 224 = .ok (.goto 46, 3) := by decide +kernel
theorem dX12_holds_227 : decode cX12_holds 227 = .ok (.iconst 0, 1) := by decide +kernel
theorem dX12_holds_228 : decode cX12_holds 228 = .ok (.goto 42, 3) := by decide +kernel
theorem dX12_holds_231 : decode cX12_holds 231 = .ok (.iload 7, 2) := by decide +kernel
theorem dX12_holds_233 : decode cX12_holds 233 = .ok (.iconst 1, 1) := by decide +kernel
theorem dX12_holds_234 : decode cX12_holds 234 = .ok (.if_icmp .ne 21, 3) := by decide +kernel
theorem dX12_holds_237 : decode cX12_holds 237 = .ok (.iload 6, 2) := by decide +kernel
theorem dX12_holds_239 : decode cX12_holds 239 = .ok (.iload 5, 2) := by decide +kernel
theorem dX12_holds_241 : decode cX12_holds 241 = .ok (.bipush 100, 2) := by decide +kernel
theorem dX12_holds_243 : decode cX12_holds 243 = .ok (.irem, 1) := by decide +kernel
theorem dX12_holds_244 : decode cX12_holds 244 = .ok (.if_icmp .ne 7, 3) := by decide +kernel
theorem dX12_holds_247 : decode cX12_holds 247 = .ok (.iconst 1, 1) := by decide +kernel
theorem dX12_holds_248 : decode cX12_holds 248 = .ok (.goto 22, 3) := by decide +kernel
theorem dX12_holds_251 : decode cX12_holds 251 = .ok (.iconst 0, 1) := by decide +kernel
theorem dX12_holds_252 : decode cX12_holds 252 = .ok (.goto 18, 3) := by decide +kernel
theorem dX12_holds_255 : decode cX12_holds 255 = .ok (.iload 6, 2) := by decide +kernel
theorem dX12_holds_257 : decode cX12_holds 257 = .ok (.iload 5, 2) := by decide +kernel
theorem dX12_holds_259 : decode cX12_holds 259 = .ok (.bipush 100, 2) := by decide +kernel
theorem dX12_holds_261 : decode cX12_holds 261 = .ok (.irem, 1) := by decide +kernel
theorem dX12_holds_262 : decode cX12_holds 262 = .ok (.if_icmp .le 7, 3) := by decide +kernel
theorem dX12_holds_265 : decode cX12_holds 265 = .ok (.iconst 1, 1) := by decide +kernel
theorem dX12_holds_266 : decode cX12_holds 266 = .ok (.goto 4, 3) := by decide +kernel
theorem dX12_holds_269 : decode cX12_holds 269 = .ok (.iconst 0, 1) := by decide +kernel
theorem dX12_holds_270 : decode cX12_holds 270 = .ok (.bastore, 1) := by decide +kernel
theorem dX12_holds_271 : decode cX12_holds 271 = .ok (.iinc 3 1, 3) := by decide +kernel
theorem dX12_holds_274 : decode cX12_holds 274 = .ok (.iinc 4 1, 3) := by decide +kernel
theorem dX12_holds_277 : decode cX12_holds 277 = .ok (.goto (-267), 3) := by decide +kernel
theorem dX12_holds_280 : decode cX12_holds 280 = .ok (.aload_n 0, 1) := by decide +kernel
theorem dX12_holds_281 : decode cX12_holds 281 = .ok (.getfield 89, 3) := by decide +kernel
theorem dX12_holds_284 : decode cX12_holds 284 = .ok (.iconst 0, 1) := by decide +kernel
theorem dX12_holds_285 : decode cX12_holds 285 = .ok (.baload, 1) := by decide +kernel
theorem dX12_holds_286 : decode cX12_holds 286 = .ok (.ireturn, 1) := by decide +kernel
theorem dX12_comes_0 : decode cX12_comes 0 = .ok (.aload_n 0, 1) := by decide +kernel
theorem dX12_comes_1 : decode cX12_comes 1 = .ok (.invokevirtual 274, 3) := by decide +kernel
theorem dX12_comes_4 : decode cX12_comes 4 = .ok (.istore_n 3, 1) := by decide +kernel
theorem dX12_comes_5 : decode cX12_comes 5 = .ok (.iload_n 3, 1) := by decide +kernel
theorem dX12_comes_6 : decode cX12_comes 6 = .ok (.aload_n 0, 1) := by decide +kernel
theorem dX12_comes_7 : decode cX12_comes 7 = .ok (.invokevirtual 277, 3) := by decide +kernel
theorem dX12_comes_10 : decode cX12_comes 10 = .ok (.if_icmp .ge 39, 3) := by decide +kernel
theorem dX12_comes_13 : decode cX12_comes 13 = .ok (.aload_n 0, 1) := by decide +kernel
theorem dX12_comes_14 : decode cX12_comes 14 = .ok (.getfield 59, 3) := by decide +kernel
theorem dX12_comes_17 : decode cX12_comes 17 = .ok (.iload_n 3, 1) := by decide +kernel
theorem dX12_comes_18 : decode cX12_comes 18 = .ok (.iaload, 1) := by decide +kernel
theorem dX12_comes_19 : decode cX12_comes 19 = .ok (.ifCond .ne 24, 3) := by decide +kernel
theorem dX12_comes_22 : decode cX12_comes 22 = .ok (.aload_n 0, 1) := by decide +kernel
theorem dX12_comes_23 : decode cX12_comes 23 = .ok (.getfield 62, 3) := by decide +kernel
theorem dX12_comes_26 : decode cX12_comes 26 = .ok (.iload_n 3, 1) := by decide +kernel
theorem dX12_comes_27 : decode cX12_comes 27 = .ok (.iaload, 1) := by decide +kernel
theorem dX12_comes_28 : decode cX12_comes 28 = .ok (.iload_n 1, 1) := by decide +kernel
theorem dX12_comes_29 : decode cX12_comes 29 = .ok (.if_icmp .ne 14, 3) := by decide +kernel
theorem dX12_comes_32 : decode cX12_comes 32 = .ok (.aload_n 0, 1) := by decide +kernel
theorem dX12_comes_33 : decode cX12_comes 33 = .ok (.iload_n 3, 1) := by decide +kernel
theorem dX12_comes_34 : decode cX12_comes 34 = .ok (.iload_n 2, 1) := by decide +kernel
theorem dX12_comes_35 : decode cX12_comes 35 = .ok (.invokevirtual 291, 3) := by decide +kernel
theorem dX12_comes_38 : decode cX12_comes 38 = .ok (.ifCond .eq 5, 3) := by decide +kernel
theorem dX12_comes_41 : decode cX12_comes 41 = .ok (.iconst 1, 1) := by decide +kernel
theorem dX12_comes_42 : decode cX12_comes 42 = .ok (.ireturn, 1) := by decide +kernel
theorem dX12_comes_43 : decode cX12_comes 43 = .ok (.iinc 3 1, 3) := by decide +kernel
theorem dX12_comes_46 : decode cX12_comes 46 = .ok (.goto (-41), 3) := by decide +kernel
theorem dX12_comes_49 : decode cX12_comes 49 = .ok (.iconst 0, 1) := by decide +kernel
theorem dX12_comes_50 : decode cX12_comes 50 = .ok (.ireturn, 1) := by decide +kernel
theorem dX12_isOrder_0 : decode cX12_isOrder 0 = .ok (.aload_n 0, 1) := by decide +kernel
theorem dX12_isOrder_1 : decode cX12_isOrder 1 = .ok (.iload_n 1, 1) := by decide +kernel
theorem dX12_isOrder_2 : decode cX12_isOrder 2 = .ok (.iconst 0, 1) := by decide +kernel
theorem dX12_isOrder_3 : decode cX12_isOrder 3 = .ok (.aload_n 0, 1) := by decide +kernel
theorem dX12_isOrder_4 : decode cX12_isOrder 4 = .ok (.getfield 93, 3) := by decide +kernel
theorem dX12_isOrder_7 : decode cX12_isOrder 7 = .ok (.iconst 1, 1) := by decide +kernel
theorem dX12_isOrder_8 : decode cX12_isOrder 8 = .ok (.isub, 1) := by decide +kernel
theorem dX12_isOrder_9 : decode cX12_isOrder 9 = .ok (.invokevirtual 215, 3) := by decide +kernel
theorem dX12_isOrder_12 : decode cX12_isOrder 12 = .ok (.ireturn, 1) := by decide +kernel
theorem dX12_order_0 : decode cX12_order 0 = .ok (.aload_n 0, 1) := by decide +kernel
theorem dX12_order_1 : decode cX12_order 1 = .ok (.iload_n 1, 1) := by decide +kernel
theorem dX12_order_2 : decode cX12_order 2 = .ok (.iconst 0, 1) := by decide +kernel
theorem dX12_order_3 : decode cX12_order 3 = .ok (.bipush 6, 2) := by decide +kernel
theorem dX12_order_5 : decode cX12_order 5 = .ok (.invokevirtual 215, 3) := by decide +kernel
theorem dX12_order_8 : decode cX12_order 8 = .ok (.ifCond .ne 5, 3) := by decide +kernel
theorem dX12_order_11 : decode cX12_order 11 = .ok (.iconst (-1), 1) := by decide +kernel
theorem dX12_order_12 : decode cX12_order 12 = .ok (.ireturn, 1) := by decide +kernel
theorem dX12_order_13 : decode cX12_order 13 = .ok (.aload_n 0, 1) := by decide +kernel
theorem dX12_order_14 : decode cX12_order 14 = .ok (.iload_n 2, 1) := by decide +kernel
theorem dX12_order_15 : decode cX12_order 15 = .ok (.iconst 1, 1) := by decide +kernel
theorem dX12_order_16 : decode cX12_order 16 = .ok (.bipush 9, 2) := by decide +kernel
theorem dX12_order_18 : decode cX12_order 18 = .ok (.invokevirtual 215, 3) := by decide +kernel
theorem dX12_order_21 : decode cX12_order 21 = .ok (.ifCond .ne 6, 3) := by decide +kernel
theorem dX12_order_24 : decode cX12_order 24 = .ok (.bipush (-2), 2) := by decide +kernel
theorem dX12_order_26 : decode cX12_order 26 = .ok (.ireturn, 1) := by decide +kernel
theorem dX12_order_27 : decode cX12_order 27 = .ok (.aload_n 0, 1) := by decide +kernel
theorem dX12_order_28 : decode cX12_order 28 = .ok (.getfield 93, 3) := by decide +kernel
theorem dX12_order_31 : decode cX12_order 31 = .ok (.bipush 10, 2) := by decide +kernel
theorem dX12_order_33 : decode cX12_order 33 = .ok (.if_icmp .ne 6, 3) := by decide +kernel
theorem dX12_order_36 : decode cX12_order 36 = .ok (.bipush (-4), 2) := by decide +kernel
theorem dX12_order_38 : decode cX12_order 38 = .ok (.ireturn, 1) := by decide +kernel
theorem dX12_order_39 : decode cX12_order 39 = .ok (.aload_n 0, 1) := by decide +kernel
theorem dX12_order_40 : decode cX12_order 40 = .ok (.getfield 96, 3) := by decide +kernel
theorem dX12_order_43 : decode cX12_order 43 = .ok (.aload_n 0, 1) := by decide +kernel
theorem dX12_order_44 : decode cX12_order 44 = .ok (.getfield 93, 3) := by decide +kernel
theorem dX12_order_47 : decode cX12_order 47 = .ok (.iload_n 1, 1) := by decide +kernel
theorem dX12_order_48 : decode cX12_order 48 = .ok (.iastore, 1) := by decide +kernel
theorem dX12_order_49 : decode cX12_order 49 = .ok (.aload_n 0, 1) := by decide +kernel
theorem dX12_order_50 : decode cX12_order 50 = .ok (.getfield 99, 3) := by decide +kernel
theorem dX12_order_53 : decode cX12_order 53 = .ok (.aload_n 0, 1) := by decide +kernel
theorem dX12_order_54 : decode cX12_order 54 = .ok (.getfield 93, 3) := by decide +kernel
theorem dX12_order_57 : decode cX12_order 57 = .ok (.iload_n 2, 1) := by decide +kernel
theorem dX12_order_58 : decode cX12_order 58 = .ok (.iastore, 1) := by decide +kernel
theorem dX12_order_59 : decode cX12_order 59 = .ok (.iconst 0, 1) := by decide +kernel
theorem dX12_order_60 : decode cX12_order 60 = .ok (.istore_n 3, 1) := by decide +kernel
theorem dX12_order_61 : decode cX12_order 61 = .ok (.iload_n 3, 1) := by decide +kernel
theorem dX12_order_62 : decode cX12_order 62 = .ok (.bipush 10, 2) := by decide +kernel
theorem dX12_order_64 : decode cX12_order 64 = .ok (.if_icmp .ge 24, 3) := by decide +kernel
theorem dX12_order_67 : decode cX12_order 67 = .ok (.aload_n 0, 1) := by decide +kernel
theorem dX12_order_68 : decode cX12_order 68 = .ok (.getfield 102, 3) := by decide +kernel
theorem dX12_order_71 : decode cX12_order 71 = .ok (.bipush 10, 2) := by decide +kernel
theorem dX12_order_73 : decode cX12_order 73 = .ok (.aload_n 0, 1) := by decide +kernel
theorem dX12_order_74 : decode cX12_order 74 = .ok (.getfield 93, 3) := by decide +kernel
theorem dX12_order_77 : decode cX12_order 77 = .ok (.imul, 1) := by decide +kernel
theorem dX12_order_78 : decode cX12_order 78 = .ok (.iload_n 3, 1) := by decide +kernel
theorem dX12_order_79 : decode cX12_order 79 = .ok (.iadd, 1) := by decide +kernel
theorem dX12_order_80 : decode cX12_order 80 = .ok (.iconst (-1), 1) := by decide +kernel
theorem dX12_order_81 : decode cX12_order 81 = .ok (.iastore, 1) := by decide +kernel
theorem dX12_order_82 : decode cX12_order 82 = .ok (.iinc 3 1, 3) := by decide +kernel
theorem dX12_order_85 : decode cX12_order 85 = .ok (.goto (-24), 3) := by decide +kernel
theorem dX12_order_88 : decode cX12_order 88 = .ok (.aload_n 0, 1) := by decide +kernel
theorem dX12_order_89 : decode cX12_order 89 = .ok (.dup, 1) := by decide +kernel
theorem dX12_order_90 : decode cX12_order 90 = .ok (.getfield 93, 3) := by decide +kernel
theorem dX12_order_93 : decode cX12_order 93 = .ok (.iconst 1, 1) := by decide +kernel
theorem dX12_order_94 : decode cX12_order 94 = .ok (.iadd, 1) := by decide +kernel
theorem dX12_order_95 : decode cX12_order 95 = .ok (.putfield 93, 3) := by decide +kernel
theorem dX12_order_98 : decode cX12_order 98 = .ok (.aload_n 0, 1) := by decide +kernel
theorem dX12_order_99 : decode cX12_order 99 = .ok (.getfield 93, 3) := by decide +kernel
theorem dX12_order_102 : decode cX12_order 102 = .ok (.iconst 1, 1) := by decide +kernel
theorem dX12_order_103 : decode cX12_order 103 = .ok (.isub, 1) := by decide +kernel
theorem dX12_order_104 : decode cX12_order 104 = .ok (.ireturn, 1) := by decide +kernel
theorem dX12_row_0 : decode cX12_row 0 = .ok (.aload_n 0, 1) := by decide +kernel
theorem dX12_row_1 : decode cX12_row 1 = .ok (.iload_n 1, 1) := by decide +kernel
theorem dX12_row_2 : decode cX12_row 2 = .ok (.invokevirtual 294, 3) := by decide +kernel
theorem dX12_row_5 : decode cX12_row 5 = .ok (.ifCond .eq 14, 3) := by decide +kernel
theorem dX12_row_8 : decode cX12_row 8 = .ok (.aload_n 0, 1) := by decide +kernel
theorem dX12_row_9 : decode cX12_row 9 = .ok (.iload_n 2, 1) := by decide +kernel
theorem dX12_row_10 : decode cX12_row 10 = .ok (.iconst 0, 1) := by decide +kernel
theorem dX12_row_11 : decode cX12_row 11 = .ok (.bipush 9, 2) := by decide +kernel
theorem dX12_row_13 : decode cX12_row 13 = .ok (.invokevirtual 215, 3) := by decide +kernel
theorem dX12_row_16 : decode cX12_row 16 = .ok (.ifCond .ne 5, 3) := by decide +kernel
theorem dX12_row_19 : decode cX12_row 19 = .ok (.iconst (-1), 1) := by decide +kernel
theorem dX12_row_20 : decode cX12_row 20 = .ok (.ireturn, 1) := by decide +kernel
theorem dX12_row_21 : decode cX12_row 21 = .ok (.aload_n 0, 1) := by decide +kernel
theorem dX12_row_22 : decode cX12_row 22 = .ok (.iload_n 3, 1) := by decide +kernel
theorem dX12_row_23 : decode cX12_row 23 = .ok (.iconst (-1), 1) := by decide +kernel
theorem dX12_row_24 : decode cX12_row 24 = .ok (.iconst 2, 1) := by decide +kernel
theorem dX12_row_25 : decode cX12_row 25 = .ok (.invokevirtual 215, 3) := by decide +kernel
theorem dX12_row_28 : decode cX12_row 28 = .ok (.ifCond .ne 6, 3) := by decide +kernel
theorem dX12_row_31 : decode cX12_row 31 = .ok (.bipush (-2), 2) := by decide +kernel
theorem dX12_row_33 : decode cX12_row 33 = .ok (.ireturn, 1) := by decide +kernel
theorem dX12_row_34 : decode cX12_row 34 = .ok (.aload_n 0, 1) := by decide +kernel
theorem dX12_row_35 : decode cX12_row 35 = .ok (.getfield 96, 3) := by decide +kernel
theorem dX12_row_38 : decode cX12_row 38 = .ok (.iload_n 1, 1) := by decide +kernel
theorem dX12_row_39 : decode cX12_row 39 = .ok (.iaload, 1) := by decide +kernel
theorem dX12_row_40 : decode cX12_row 40 = .ok (.bipush 6, 2) := by decide +kernel
theorem dX12_row_42 : decode cX12_row 42 = .ok (.if_icmp .eq 6, 3) := by decide +kernel
theorem dX12_row_45 : decode cX12_row 45 = .ok (.bipush (-3), 2) := by decide +kernel
theorem dX12_row_47 : decode cX12_row 47 = .ok (.ireturn, 1) := by decide +kernel
theorem dX12_row_48 : decode cX12_row 48 = .ok (.aload_n 0, 1) := by decide +kernel
theorem dX12_row_49 : decode cX12_row 49 = .ok (.getfield 102, 3) := by decide +kernel
theorem dX12_row_52 : decode cX12_row 52 = .ok (.bipush 10, 2) := by decide +kernel
theorem dX12_row_54 : decode cX12_row 54 = .ok (.iload_n 1, 1) := by decide +kernel
theorem dX12_row_55 : decode cX12_row 55 = .ok (.imul, 1) := by decide +kernel
theorem dX12_row_56 : decode cX12_row 56 = .ok (.iload_n 2, 1) := by decide +kernel
theorem dX12_row_57 : decode cX12_row 57 = .ok (.iadd, 1) := by decide +kernel
theorem dX12_row_58 : decode cX12_row 58 = .ok (.iaload, 1) := by decide +kernel
theorem dX12_row_59 : decode cX12_row 59 = .ok (.istore 4, 2) := by decide +kernel
theorem dX12_row_61 : decode cX12_row 61 = .ok (.aload_n 0, 1) := by decide +kernel
theorem dX12_row_62 : decode cX12_row 62 = .ok (.getfield 102, 3) := by decide +kernel
theorem dX12_row_65 : decode cX12_row 65 = .ok (.bipush 10, 2) := by decide +kernel
theorem dX12_row_67 : decode cX12_row 67 = .ok (.iload_n 1, 1) := by decide +kernel
theorem dX12_row_68 : decode cX12_row 68 = .ok (.imul, 1) := by decide +kernel
theorem dX12_row_69 : decode cX12_row 69 = .ok (.iload_n 2, 1) := by decide +kernel
theorem dX12_row_70 : decode cX12_row 70 = .ok (.iadd, 1) := by decide +kernel
theorem dX12_row_71 : decode cX12_row 71 = .ok (.iload_n 3, 1) := by decide +kernel
theorem dX12_row_72 : decode cX12_row 72 = .ok (.iastore, 1) := by decide +kernel
theorem dX12_row_73 : decode cX12_row 73 = .ok (.iload 4, 2) := by decide +kernel
theorem dX12_row_75 : decode cX12_row 75 = .ok (.ifCond .ge 8, 3) := by decide +kernel
theorem dX12_row_78 : decode cX12_row 78 = .ok (.bipush (-5), 2) := by decide +kernel
theorem dX12_row_80 : decode cX12_row 80 = .ok (.goto 5, 3) := by decide +kernel
theorem dX12_row_83 : decode cX12_row 83 = .ok (.iload 4, 2) := by decide +kernel
theorem dX12_row_85 : decode cX12_row 85 = .ok (.ireturn, 1) := by decide +kernel
theorem dX12_standing_0 : decode cX12_standing 0 = .ok (.aload_n 0, 1) := by decide +kernel
theorem dX12_standing_1 : decode cX12_standing 1 = .ok (.getfield 159, 3) := by decide +kernel
theorem dX12_standing_4 : decode cX12_standing 4 = .ok (.iload_n 1, 1) := by decide +kernel
theorem dX12_standing_5 : decode cX12_standing 5 = .ok (.iaload, 1) := by decide +kernel
theorem dX12_standing_6 : decode cX12_standing 6 = .ok (.aload_n 0, 1) := by decide +kernel
theorem dX12_standing_7 : decode cX12_standing 7 = .ok (.getfield 156, 3) := by decide +kernel
theorem dX12_standing_10 : decode cX12_standing 10 = .ok (.iload_n 1, 1) := by decide +kernel
theorem dX12_standing_11 : decode cX12_standing 11 = .ok (.iaload, 1) := by decide +kernel
theorem dX12_standing_12 : decode cX12_standing 12 = .ok (.isub, 1) := by decide +kernel
theorem dX12_standing_13 : decode cX12_standing 13 = .ok (.ireturn, 1) := by decide +kernel
theorem dX12_timeOf_0 : decode cX12_timeOf 0 = .ok (.aload_n 0, 1) := by decide +kernel
theorem dX12_timeOf_1 : decode cX12_timeOf 1 = .ok (.getfield 26, 3) := by decide +kernel
theorem dX12_timeOf_4 : decode cX12_timeOf 4 = .ok (.aload_n 0, 1) := by decide +kernel
theorem dX12_timeOf_5 : decode cX12_timeOf 5 = .ok (.getfield 135, 3) := by decide +kernel
theorem dX12_timeOf_8 : decode cX12_timeOf 8 = .ok (.iload_n 1, 1) := by decide +kernel
theorem dX12_timeOf_9 : decode cX12_timeOf 9 = .ok (.iaload, 1) := by decide +kernel
theorem dX12_timeOf_10 : decode cX12_timeOf 10 = .ok (.iaload, 1) := by decide +kernel
theorem dX12_timeOf_11 : decode cX12_timeOf 11 = .ok (.aload_n 0, 1) := by decide +kernel
theorem dX12_timeOf_12 : decode cX12_timeOf 12 = .ok (.getfield 120, 3) := by decide +kernel
theorem dX12_timeOf_15 : decode cX12_timeOf 15 = .ok (.iadd, 1) := by decide +kernel
theorem dX12_timeOf_16 : decode cX12_timeOf 16 = .ok (.ireturn, 1) := by decide +kernel
theorem dX12_timesIn_0 : decode cX12_timesIn 0 = .ok (.iconst 0, 1) := by decide +kernel
theorem dX12_timesIn_1 : decode cX12_timesIn 1 = .ok (.istore_n 2, 1) := by decide +kernel
theorem dX12_timesIn_2 : decode cX12_timesIn 2 = .ok (.aload_n 0, 1) := by decide +kernel
theorem dX12_timesIn_3 : decode cX12_timesIn 3 = .ok (.getfield 156, 3) := by decide +kernel
theorem dX12_timesIn_6 : decode cX12_timesIn 6 = .ok (.iload_n 1, 1) := by decide +kernel
theorem dX12_timesIn_7 : decode cX12_timesIn 7 = .ok (.iaload, 1) := by decide +kernel
theorem dX12_timesIn_8 : decode cX12_timesIn 8 = .ok (.istore_n 3, 1) := by decide +kernel
theorem dX12_timesIn_9 : decode cX12_timesIn 9 = .ok (.iload_n 3, 1) := by decide +kernel
theorem dX12_timesIn_10 : decode cX12_timesIn 10 = .ok (.aload_n 0, 1) := by decide +kernel
theorem dX12_timesIn_11 : decode cX12_timesIn 11 = .ok (.getfield 159, 3) := by decide +kernel
theorem dX12_timesIn_14 : decode cX12_timesIn 14 = .ok (.iload_n 1, 1) := by decide +kernel
theorem dX12_timesIn_15 : decode cX12_timesIn 15 = .ok (.iaload, 1) := by decide +kernel
theorem dX12_timesIn_16 : decode cX12_timesIn 16 = .ok (.if_icmp .ge 27, 3) := by decide +kernel
theorem dX12_timesIn_19 : decode cX12_timesIn 19 = .ok (.iload_n 2, 1) := by decide +kernel
theorem dX12_timesIn_20 : decode cX12_timesIn 20 = .ok (.aload_n 0, 1) := by decide +kernel
theorem dX12_timesIn_21 : decode cX12_timesIn 21 = .ok (.aload_n 0, 1) := by decide +kernel
theorem dX12_timesIn_22 : decode cX12_timesIn 22 = .ok (.getfield 153, 3) := by decide +kernel
theorem dX12_timesIn_25 : decode cX12_timesIn 25 = .ok (.bipush 41, 2) := by decide +kernel
theorem dX12_timesIn_27 : decode cX12_timesIn 27 = .ok (.iload_n 1, 1) := by decide +kernel
theorem dX12_timesIn_28 : decode cX12_timesIn 28 = .ok (.imul, 1) := by decide +kernel
theorem dX12_timesIn_29 : decode cX12_timesIn 29 = .ok (.iload_n 3, 1) := by decide +kernel
theorem dX12_timesIn_30 : decode cX12_timesIn 30 = .ok (.iadd, 1) := by decide +kernel
theorem dX12_timesIn_31 : decode cX12_timesIn 31 = .ok (.iaload, 1) := by decide +kernel
theorem dX12_timesIn_32 : decode cX12_timesIn 32 = .ok (.invokevirtual 297, 3) := by decide +kernel
theorem dX12_timesIn_35 : decode cX12_timesIn 35 = .ok (.iadd, 1) := by decide +kernel
theorem dX12_timesIn_36 : decode cX12_timesIn 36 = .ok (.istore_n 2, 1) := by decide +kernel
theorem dX12_timesIn_37 : decode cX12_timesIn 37 = .ok (.iinc 3 1, 3) := by decide +kernel
theorem dX12_timesIn_40 : decode cX12_timesIn 40 = .ok (.goto (-31), 3) := by decide +kernel
theorem dX12_timesIn_43 : decode cX12_timesIn 43 = .ok (.iload_n 2, 1) := by decide +kernel
theorem dX12_timesIn_44 : decode cX12_timesIn 44 = .ok (.ireturn, 1) := by decide +kernel
theorem dX12_isFirst_0 : decode cX12_isFirst 0 = .ok (.iload_n 1, 1) := by decide +kernel
theorem dX12_isFirst_1 : decode cX12_isFirst 1 = .ok (.iconst 1, 1) := by decide +kernel
theorem dX12_isFirst_2 : decode cX12_isFirst 2 = .ok (.if_icmp .eq 14, 3) := by decide +kernel
theorem dX12_isFirst_5 : decode cX12_isFirst 5 = .ok (.iload_n 1, 1) := by decide +kernel
theorem dX12_isFirst_6 : decode cX12_isFirst 6 = .ok (.iconst 3, 1) := by decide +kernel
theorem dX12_isFirst_7 : decode cX12_isFirst 7 = .ok (.if_icmp .eq 9, 3) := by decide +kernel
theorem dX12_isFirst_10 : decode cX12_isFirst 10 = .ok (.iload_n 1, 1) := by decide +kernel
theorem dX12_isFirst_11 : decode cX12_isFirst 11 = .ok (.bipush 6, 2) := by decide +kernel
theorem dX12_isFirst_13 : decode cX12_isFirst 13 = .ok (.if_icmp .ne 7, 3) := by decide +kernel
theorem dX12_isFirst_16 : decode cX12_isFirst 16 = .ok (.iconst 1, 1) := by decide +kernel
theorem dX12_isFirst_17 : decode cX12_isFirst 17 = .ok (.goto 4, 3) := by decide +kernel
theorem dX12_isFirst_20 : decode cX12_isFirst 20 = .ok (.iconst 0, 1) := by decide +kernel
theorem dX12_isFirst_21 : decode cX12_isFirst 21 = .ok (.ireturn, 1) := by decide +kernel
theorem dX12_choose_0 : decode cX12_choose 0 = .ok (.aload_n 0, 1) := by decide +kernel
theorem dX12_choose_1 : decode cX12_choose 1 = .ok (.getfield 135, 3) := by decide +kernel
theorem dX12_choose_4 : decode cX12_choose 4 = .ok (.iload_n 2, 1) := by decide +kernel
theorem dX12_choose_5 : decode cX12_choose 5 = .ok (.iaload, 1) := by decide +kernel
theorem dX12_choose_6 : decode cX12_choose 6 = .ok (.istore_n 3, 1) := by decide +kernel
theorem dX12_choose_7 : decode cX12_choose 7 = .ok (.iload_n 1, 1) := by decide +kernel
theorem dX12_choose_8 : decode cX12_choose 8 = .ok (.bipush 10, 2) := by decide +kernel
theorem dX12_choose_10 : decode cX12_choose 10 = .ok (.if_icmp .ne 7, 3) := by decide +kernel
theorem dX12_choose_13 : decode cX12_choose 13 = .ok (.iconst 0, 1) := by decide +kernel
theorem dX12_choose_14 : decode cX12_choose 14 = .ok (.goto 9, 3) := by decide +kernel
theorem dX12_choose_17 : decode cX12_choose 17 = .ok (.aload_n 0, 1) := by decide +kernel
theorem dX12_choose_18 : decode cX12_choose 18 = .ok (.getfield 96, 3) := by decide +kernel
theorem dX12_choose_21 : decode cX12_choose 21 = .ok (.iload_n 1, 1) := by decide +kernel
theorem dX12_choose_22 : decode cX12_choose 22 = .ok (.iaload, 1) := by decide +kernel
theorem dX12_choose_23 : decode cX12_choose 23 = .ok (.istore 4, 2) := by decide +kernel
theorem dX12_choose_25 : decode cX12_choose 25 = .ok (.aload_n 0, 1) := by decide +kernel
theorem dX12_choose_26 : decode cX12_choose 26 = .ok (.getfield 117, 3) := by decide +kernel
theorem dX12_choose_29 : decode cX12_choose 29 = .ok (.iload 4, 2) := by decide +kernel
theorem dX12_choose_31 : decode cX12_choose 31 = .ok (.iconst 3, 1) := by decide +kernel
theorem dX12_choose_32 : decode cX12_choose 32 = .ok (.if_icmp .ne 18, 3) := by decide +kernel
theorem dX12_choose_35 : decode cX12_choose 35 = .ok (.aload_n 0, 1) := by decide +kernel
theorem dX12_choose_36 : decode cX12_choose 36 = .ok (.getfield 99, 3) := by decide +kernel
theorem dX12_choose_39 : decode cX12_choose 39 = .ok (.iload_n 1, 1) := by decide +kernel
theorem dX12_choose_40 : decode cX12_choose 40 = .ok (.iaload, 1) := by decide +kernel
theorem dX12_choose_41 : decode cX12_choose 41 = .ok (.aload_n 0, 1) := by decide +kernel
theorem dX12_choose_42 : decode cX12_choose 42 = .ok (.iconst 1, 1) := by decide +kernel
theorem dX12_choose_43 : decode cX12_choose 43 = .ok (.invokevirtual 288, 3) := by decide +kernel
theorem dX12_choose_46 : decode cX12_choose 46 = .ok (.imul, 1) := by decide +kernel
theorem dX12_choose_47 : decode cX12_choose 47 = .ok (.goto 4, 3) := by decide +kernel
theorem dX12_choose_50 : decode cX12_choose 50 = .ok (.iconst 0, 1) := by decide +kernel
theorem dX12_choose_51 : decode cX12_choose 51 = .ok (.iadd, 1) := by decide +kernel
theorem dX12_choose_52 : decode cX12_choose 52 = .ok (.istore 5, 2) := by decide +kernel
theorem dX12_choose_54 : decode cX12_choose 54 = .ok (.iload 4, 2) := by decide +kernel
theorem dX12_choose_56 : decode cX12_choose 56 = .ok (.iconst 4, 1) := by decide +kernel
theorem dX12_choose_57 : decode cX12_choose 57 = .ok (.if_icmp .ne 18, 3) := by decide +kernel
theorem dX12_choose_60 : decode cX12_choose 60 = .ok (.aload_n 0, 1) := by decide +kernel
theorem dX12_choose_61 : decode cX12_choose 61 = .ok (.getfield 23, 3) := by decide +kernel
theorem dX12_choose_64 : decode cX12_choose 64 = .ok (.iload_n 3, 1) := by decide +kernel
theorem dX12_choose_65 : decode cX12_choose 65 = .ok (.iaload, 1) := by decide +kernel
theorem dX12_choose_66 : decode cX12_choose 66 = .ok (.iload 5, 2) := by decide +kernel
theorem dX12_choose_68 : decode cX12_choose 68 = .ok (.if_icmp .ge 7, 3) := by decide +kernel
theorem dX12_choose_71 : decode cX12_choose 71 = .ok (.iconst 1, 1) := by decide +kernel
theorem dX12_choose_72 : decode cX12_choose 72 = .ok (.goto 4, 3) := by decide +kernel
theorem dX12_choose_75 : decode cX12_choose 75 = .ok (.iconst 0, 1) := by decide +kernel
theorem dX12_choose_76 : decode cX12_choose 76 = .ok (.istore 6, 2) := by decide +kernel
theorem dX12_choose_78 : decode cX12_choose 78 = .ok (.iload 6, 2) := by decide +kernel
theorem dX12_choose_80 : decode cX12_choose 80 = .ok (.ifCond .eq 7, 3) := by decide +kernel
theorem dX12_choose_83 : decode cX12_choose 83 = .ok (.iconst 0, 1) := by decide +kernel
theorem dX12_choose_84 : decode cX12_choose 84 = .ok (.goto 5, 3) := by decide +kernel
theorem dX12_choose_87 : decode cX12_choose 87 = .ok (.iload 5, 2) := by decide +kernel
theorem dX12_choose_89 : decode cX12_choose 89 = .ok (.istore 7, 2) := by decide +kernel
theorem dX12_choose_91 : decode cX12_choose 91 = .ok (.aload_n 0, 1) := by decide +kernel
theorem dX12_choose_92 : decode cX12_choose 92 = .ok (.getfield 144, 3) := by decide +kernel
theorem dX12_choose_95 : decode cX12_choose 95 = .ok (.iload_n 2, 1) := by decide +kernel
theorem dX12_choose_96 : decode cX12_choose 96 = .ok (.iconst 0, 1) := by decide +kernel
theorem dX12_choose_97 : decode cX12_choose 97 = .ok (.iastore, 1) := by decide +kernel
theorem dX12_choose_98 : decode cX12_choose 98 = .ok (.iload 4, 2) := by decide +kernel
theorem dX12_choose_100 : decode cX12_choose 100 = .ok (.bipush 6, 2) := by decide +kernel
theorem dX12_choose_102 : decode cX12_choose 102 = .ok (.if_icmp .ne 63, 3) := by decide +kernel
theorem dX12_choose_105 : decode cX12_choose 105 = .ok (.iload_n 2, 1) := by decide +kernel
theorem dX12_choose_106 : decode cX12_choose 106 = .ok (.bipush 10, 2) := by decide +kernel
theorem dX12_choose_108 : decode cX12_choose 108 = .ok (.if_icmp .ge 57, 3) := by decide +kernel
theorem dX12_choose_111 : decode cX12_choose 111 = .ok (.aload_n 0, 1) := by decide +kernel
theorem dX12_choose_112 : decode cX12_choose 112 = .ok (.getfield 102, 3) := by decide +kernel
theorem dX12_choose_115 : decode cX12_choose 115 = .ok (.bipush 10, 2) := by decide +kernel
theorem dX12_choose_117 : decode cX12_choose 117 = .ok (.iload_n 1, 1) := by decide +kernel
theorem dX12_choose_118 : decode cX12_choose 118 = .ok (.imul, 1) := by decide +kernel
theorem dX12_choose_119 : decode cX12_choose 119 = .ok (.iload_n 2, 1) := by decide +kernel
theorem dX12_choose_120 : decode cX12_choose 120 = .ok (.iadd, 1) := by decide +kernel
theorem dX12_choose_121 : decode cX12_choose 121 = .ok (.iaload, 1) := by decide +kernel
theorem dX12_choose_122 : decode cX12_choose 122 = .ok (.istore 8, 2) := by decide +kernel
theorem dX12_choose_124 : decode cX12_choose 124 = .ok (.iload 8, 2) := by decide +kernel
theorem dX12_choose_126 : decode cX12_choose 126 = .ok (.ifCond .eq 9, 3) := by decide +kernel
theorem dX12_choose_129 : decode cX12_choose 129 = .ok (.iload 8, 2) := by decide +kernel
theorem dX12_choose_131 : decode cX12_choose 131 = .ok (.iconst 2, 1) := by decide +kernel
theorem dX12_choose_132 : decode cX12_choose 132 = .ok (.if_icmp .ne 6, 3) := by decide +kernel
theorem dX12_choose_135 : decode cX12_choose 135 = .ok (.iload 8, 2) := by decide +kernel
theorem dX12_choose_137 : decode cX12_choose 137 = .ok (.ireturn, 1) := by decide +kernel
theorem dX12_choose_138 : decode cX12_choose 138 = .ok (.iload 8, 2) := by decide +kernel
theorem dX12_choose_140 : decode cX12_choose 140 = .ok (.iconst 1, 1) := by decide +kernel
theorem dX12_choose_141 : decode cX12_choose 141 = .ok (.if_icmp .ne 24, 3) := by decide +kernel
theorem dX12_choose_144 : decode cX12_choose 144 = .ok (.iload 5, 2) := by decide +kernel
theorem dX12_choose_146 : decode cX12_choose 146 = .ok (.aload_n 0, 1) := by decide +kernel
theorem dX12_choose_147 : decode cX12_choose 147 = .ok (.getfield 23, 3) := by decide +kernel
theorem dX12_choose_150 : decode cX12_choose 150 = .ok (.iload_n 3, 1) := by decide +kernel
theorem dX12_choose_151 : decode cX12_choose 151 = .ok (.iaload, 1) := by decide +kernel
theorem dX12_choose_152 : decode cX12_choose 152 = .ok (.if_icmp .gt 13, 3) := by decide +kernel
theorem dX12_choose_155 : decode cX12_choose 155 = .ok (.aload_n 0, 1) := by decide +kernel
theorem dX12_choose_156 : decode cX12_choose 156 = .ok (.getfield 144, 3) := by decide +kernel
theorem dX12_choose_159 : decode cX12_choose 159 = .ok (.iload_n 2, 1) := by decide +kernel
theorem dX12_choose_160 : decode cX12_choose 160 = .ok (.iload 5, 2) := by decide +kernel
theorem dX12_choose_162 : decode cX12_choose 162 = .ok (.iastore, 1) := by decide +kernel
theorem dX12_choose_163 : decode cX12_choose 163 = .ok (.iconst 1, 1) := by decide +kernel
theorem dX12_choose_164 : decode cX12_choose 164 = .ok (.ireturn, 1) := by decide +kernel
theorem dX12_choose_165 : decode cX12_choose 165 = .ok (.iload 4, 2) := by decide +kernel
theorem dX12_choose_167 : decode cX12_choose 167 = .ok (.iconst 5, 1) := by decide +kernel
theorem dX12_choose_168 : decode cX12_choose 168 = .ok (.if_icmp .ne 25, 3) := by decide +kernel
theorem dX12_choose_171 : decode cX12_choose 171 = .ok (.aload_n 0, 1) := by decide +kernel
theorem dX12_choose_172 : decode cX12_choose 172 = .ok (.iconst 0, 1) := by decide +kernel
theorem dX12_choose_173 : decode cX12_choose 173 = .ok (.invokevirtual 288, 3) := by decide +kernel
theorem dX12_choose_176 : decode cX12_choose 176 = .ok (.aload_n 0, 1) := by decide +kernel
theorem dX12_choose_177 : decode cX12_choose 177 = .ok (.iconst 1, 1) := by decide +kernel
theorem dX12_choose_178 : decode cX12_choose 178 = .ok (.invokevirtual 288, 3) := by decide +kernel
theorem dX12_choose_181 : decode cX12_choose 181 = .ok (.iadd, 1) := by decide +kernel
theorem dX12_choose_182 : decode cX12_choose 182 = .ok (.aload_n 0, 1) := by decide +kernel
theorem dX12_choose_183 : decode cX12_choose 183 = .ok (.getfield 99, 3) := by decide +kernel
theorem dX12_choose_186 : decode cX12_choose 186 = .ok (.iload_n 1, 1) := by decide +kernel
theorem dX12_choose_187 : decode cX12_choose 187 = .ok (.iaload, 1) := by decide +kernel
theorem dX12_choose_188 : decode cX12_choose 188 = .ok (.if_icmp .lt 5, 3) := by decide +kernel
theorem dX12_choose_191 : decode cX12_choose 191 = .ok (.iconst 2, 1) := by decide +kernel
theorem dX12_choose_192 : decode cX12_choose 192 = .ok (.ireturn, 1) := by decide +kernel
theorem dX12_choose_193 : decode cX12_choose 193 = .ok (.aload_n 0, 1) := by decide +kernel
theorem dX12_choose_194 : decode cX12_choose 194 = .ok (.getfield 111, 3) := by decide +kernel
theorem dX12_choose_197 : decode cX12_choose 197 = .ok (.aload_n 0, 1) := by decide +kernel
theorem dX12_choose_198 : decode cX12_choose 198 = .ok (.getfield 129, 3) := by decide +kernel
theorem dX12_choose_201 : decode cX12_choose 201 = .ok (.if_icmp .le 15, 3) := by decide +kernel
theorem dX12_choose_204 : decode cX12_choose 204 = .ok (.aload_n 0, 1) := by decide +kernel
theorem dX12_choose_205 : decode cX12_choose 205 = .ok (.getfield 111, 3) := by decide +kernel
theorem dX12_choose_208 : decode cX12_choose 208 = .ok (.aload_n 0, 1) := by decide +kernel
theorem dX12_choose_209 : decode cX12_choose 209 = .ok (.getfield 129, 3) := by decide +kernel
theorem dX12_choose_212 : decode cX12_choose 212 = .ok (.isub, 1) := by decide +kernel
theorem dX12_choose_213 : decode cX12_choose 213 = .ok (.goto 4, 3) := by decide +kernel
theorem dX12_choose_216 : decode cX12_choose 216 = .ok (.iconst 0, 1) := by decide +kernel
theorem dX12_choose_217 : decode cX12_choose 217 = .ok (.istore 8, 2) := by decide +kernel
theorem dX12_choose_219 : decode cX12_choose 219 = .ok (.iload 8, 2) := by decide +kernel
theorem dX12_choose_221 : decode cX12_choose 221 = .ok (.aload_n 0, 1) := by decide +kernel
theorem dX12_choose_222 : decode cX12_choose 222 = .ok (.iconst 0, 1) := by decide +kernel
theorem dX12_choose_223 : decode cX12_choose 223 = .ok (.invokevirtual 300, 3) := by decide +kernel
theorem dX12_choose_226 : decode cX12_choose 226 = .ok (.iadd, 1) := by decide +kernel
theorem dX12_choose_227 : decode cX12_choose 227 = .ok (.aload_n 0, 1) := by decide +kernel
theorem dX12_choose_228 : decode cX12_choose 228 = .ok (.iconst 1, 1) := by decide +kernel
theorem dX12_choose_229 : decode cX12_choose 229 = .ok (.invokevirtual 300, 3) := by decide +kernel
theorem dX12_choose_232 : decode cX12_choose 232 = .ok (.iadd, 1) := by decide +kernel
theorem dX12_choose_233 : decode cX12_choose 233 = .ok (.istore 9, 2) := by decide +kernel
theorem dX12_choose_235 : decode cX12_choose 235 = .ok (.iload 4, 2) := by decide +kernel
theorem dX12_choose_237 : decode cX12_choose 237 = .ok (.ifCond .eq 9, 3) := by decide +kernel
theorem dX12_choose_240 : decode cX12_choose 240 = .ok (.iload 4, 2) := by decide +kernel
theorem dX12_choose_242 : decode cX12_choose 242 = .ok (.iconst 5, 1) := by decide +kernel
theorem dX12_choose_243 : decode cX12_choose 243 = .ok (.if_icmp .ne 8, 3) := by decide +kernel
theorem dX12_choose_246 : decode cX12_choose 246 = .ok (.iload 9, 2) := by decide +kernel
theorem dX12_choose_248 : decode cX12_choose 248 = .ok (.goto 11, 3) := by decide +kernel
theorem dX12_choose_251 : decode cX12_choose 251 = .ok (.iload 8, 2) := by decide +kernel
theorem dX12_choose_253 : decode cX12_choose 253 = .ok (.aload_n 0, 1) := by decide +kernel
theorem dX12_choose_254 : decode cX12_choose 254 = .ok (.iconst 1, 1) := by decide +kernel
theorem dX12_choose_255 : decode cX12_choose 255 = .ok (.invokevirtual 300, 3) := by decide +kernel
theorem dX12_choose_258 : decode cX12_choose 258 = .ok (.iadd, 1) := by decide +kernel
theorem dX12_choose_259 : decode cX12_choose 259 = .ok (.istore 10, 2) := by decide +kernel
theorem dX12_choose_261 : decode cX12_choose 261 = .ok (.aload_n 0, 1) := by decide +kernel
theorem dX12_choose_262 : decode cX12_choose 262 = .ok (.getfield 16, 3) := by decide +kernel
theorem dX12_choose_265 : decode cX12_choose 265 = .ok (.iload_n 3, 1) := by decide +kernel
theorem dX12_choose_266 : decode cX12_choose 266 = .ok (.iaload, 1) := by decide +kernel
theorem dX12_choose_267 : decode cX12_choose 267 = .ok (.iload 9, 2) := by decide +kernel
theorem dX12_choose_269 : decode cX12_choose 269 = .ok (.imul, 1) := by decide +kernel
theorem dX12_choose_270 : decode cX12_choose 270 = .ok (.istore 11, 2) := by decide +kernel
theorem dX12_choose_272 : decode cX12_choose 272 = .ok (.aload_n 0, 1) := by decide +kernel
theorem dX12_choose_273 : decode cX12_choose 273 = .ok (.getfield 16, 3) := by decide +kernel
theorem dX12_choose_276 : decode cX12_choose 276 = .ok (.iload_n 3, 1) := by decide +kernel
theorem dX12_choose_277 : decode cX12_choose 277 = .ok (.iaload, 1) := by decide +kernel
theorem dX12_choose_278 : decode cX12_choose 278 = .ok (.iload 10, 2) := by decide +kernel
theorem dX12_choose_280 : decode cX12_choose 280 = .ok (.imul, 1) := by decide +kernel
theorem dX12_choose_281 : decode cX12_choose 281 = .ok (.iload 7, 2) := by decide +kernel
theorem dX12_choose_283 : decode cX12_choose 283 = .ok (.iadd, 1) := by decide +kernel
theorem dX12_choose_284 : decode cX12_choose 284 = .ok (.istore 12, 2) := by decide +kernel
theorem dX12_choose_286 : decode cX12_choose 286 = .ok (.iload 6, 2) := by decide +kernel
theorem dX12_choose_288 : decode cX12_choose 288 = .ok (.ifCond .ne 14, 3) := by decide +kernel
theorem dX12_choose_291 : decode cX12_choose 291 = .ok (.iload 5, 2) := by decide +kernel
theorem dX12_choose_293 : decode cX12_choose 293 = .ok (.aload_n 0, 1) := by decide +kernel
theorem dX12_choose_294 : decode cX12_choose 294 = .ok (.getfield 23, 3) := by decide +kernel
theorem dX12_choose_297 : decode cX12_choose 297 = .ok (.iload_n 3, 1) := by decide +kernel
theorem dX12_choose_298 : decode cX12_choose 298 = .ok (.iaload, 1) := by decide +kernel
theorem dX12_choose_299 : decode cX12_choose 299 = .ok (.if_icmp .gt 33, 3) := by decide +kernel
theorem dX12_choose_302 : decode cX12_choose 302 = .ok (.iload 12, 2) := by decide +kernel
theorem dX12_choose_304 : decode cX12_choose 304 = .ok (.iload 11, 2) := by decide +kernel
theorem dX12_choose_306 : decode cX12_choose 306 = .ok (.if_icmp .ge 26, 3) := by decide +kernel
theorem dX12_choose_309 : decode cX12_choose 309 = .ok (.iload 12, 2) := by decide +kernel
theorem dX12_choose_311 : decode cX12_choose 311 = .ok (.aload_n 0, 1) := by decide +kernel
theorem dX12_choose_312 : decode cX12_choose 312 = .ok (.getfield 20, 3) := by decide +kernel
theorem dX12_choose_315 : decode cX12_choose 315 = .ok (.iload_n 3, 1) := by decide +kernel
theorem dX12_choose_316 : decode cX12_choose 316 = .ok (.iaload, 1) := by decide +kernel
theorem dX12_choose_317 : decode cX12_choose 317 = .ok (.if_icmp .le 5, 3) := by decide +kernel
theorem dX12_choose_320 : decode cX12_choose 320 = .ok (.iconst 2, 1) := by decide +kernel
theorem dX12_choose_321 : decode cX12_choose 321 = .ok (.ireturn, 1) := by decide +kernel
theorem dX12_choose_322 : decode cX12_choose 322 = .ok (.aload_n 0, 1) := by decide +kernel
theorem dX12_choose_323 : decode cX12_choose 323 = .ok (.getfield 144, 3) := by decide +kernel
theorem dX12_choose_326 : decode cX12_choose 326 = .ok (.iload_n 2, 1) := by decide +kernel
theorem dX12_choose_327 : decode cX12_choose 327 = .ok (.iload 7, 2) := by decide +kernel
theorem dX12_choose_329 : decode cX12_choose 329 = .ok (.iastore, 1) := by decide +kernel
theorem dX12_choose_330 : decode cX12_choose 330 = .ok (.iconst 1, 1) := by decide +kernel
theorem dX12_choose_331 : decode cX12_choose 331 = .ok (.ireturn, 1) := by decide +kernel
theorem dX12_choose_332 : decode cX12_choose 332 = .ok (.iload 11, 2) := by decide +kernel
theorem dX12_choose_334 : decode cX12_choose 334 = .ok (.aload_n 0, 1) := by decide +kernel
theorem dX12_choose_335 : decode cX12_choose 335 = .ok (.getfield 20, 3) := by decide +kernel
theorem dX12_choose_338 : decode cX12_choose 338 = .ok (.iload_n 3, 1) := by decide +kernel
theorem dX12_choose_339 : decode cX12_choose 339 = .ok (.iaload, 1) := by decide +kernel
theorem dX12_choose_340 : decode cX12_choose 340 = .ok (.if_icmp .le 7, 3) := by decide +kernel
theorem dX12_choose_343 : decode cX12_choose 343 = .ok (.iconst 2, 1) := by decide +kernel
theorem dX12_choose_344 : decode cX12_choose 344 = .ok (.goto 4, 3) := by decide +kernel
theorem dX12_choose_347 : decode cX12_choose 347 = .ok (.iconst 0, 1) := by decide +kernel
theorem dX12_choose_348 : decode cX12_choose 348 = .ok (.ireturn, 1) := by decide +kernel
theorem dX12_joins_0 : decode cX12_joins 0 = .ok (.aload_n 0, 1) := by decide +kernel
theorem dX12_joins_1 : decode cX12_joins 1 = .ok (.getfield 105, 3) := by decide +kernel
theorem dX12_joins_4 : decode cX12_joins 4 = .ok (.aload_n 0, 1) := by decide +kernel
theorem dX12_joins_5 : decode cX12_joins 5 = .ok (.getfield 123, 3) := by decide +kernel
theorem dX12_joins_8 : decode cX12_joins 8 = .ok (.if_icmp .ne 4, 3) := by decide +kernel
theorem dX12_joins_11 : decode cX12_joins 11 = .ok (.return_, 1) := by decide +kernel
theorem dX12_joins_12 : decode cX12_joins 12 = .ok (.aload_n 0, 1) := by decide +kernel
theorem dX12_joins_13 : decode cX12_joins 13 = .ok (.getfield 105, 3) := by decide +kernel
theorem dX12_joins_16 : decode cX12_joins 16 = .ok (.istore_n 3, 1) := by decide +kernel
theorem dX12_joins_17 : decode cX12_joins 17 = .ok (.aload_n 0, 1) := by decide +kernel
theorem dX12_joins_18 : decode cX12_joins 18 = .ok (.getfield 135, 3) := by decide +kernel
theorem dX12_joins_21 : decode cX12_joins 21 = .ok (.iload_n 3, 1) := by decide +kernel
theorem dX12_joins_22 : decode cX12_joins 22 = .ok (.iload_n 2, 1) := by decide +kernel
theorem dX12_joins_23 : decode cX12_joins 23 = .ok (.iastore, 1) := by decide +kernel
theorem dX12_joins_24 : decode cX12_joins 24 = .ok (.aload_n 0, 1) := by decide +kernel
theorem dX12_joins_25 : decode cX12_joins 25 = .ok (.getfield 138, 3) := by decide +kernel
theorem dX12_joins_28 : decode cX12_joins 28 = .ok (.iload_n 3, 1) := by decide +kernel
theorem dX12_joins_29 : decode cX12_joins 29 = .ok (.aload_n 0, 1) := by decide +kernel
theorem dX12_joins_30 : decode cX12_joins 30 = .ok (.getfield 129, 3) := by decide +kernel
theorem dX12_joins_33 : decode cX12_joins 33 = .ok (.iastore, 1) := by decide +kernel
theorem dX12_joins_34 : decode cX12_joins 34 = .ok (.aload_n 0, 1) := by decide +kernel
theorem dX12_joins_35 : decode cX12_joins 35 = .ok (.getfield 147, 3) := by decide +kernel
theorem dX12_joins_38 : decode cX12_joins 38 = .ok (.iload_n 3, 1) := by decide +kernel
theorem dX12_joins_39 : decode cX12_joins 39 = .ok (.bipush (-5), 2) := by decide +kernel
theorem dX12_joins_41 : decode cX12_joins 41 = .ok (.iastore, 1) := by decide +kernel
theorem dX12_joins_42 : decode cX12_joins 42 = .ok (.aload_n 0, 1) := by decide +kernel
theorem dX12_joins_43 : decode cX12_joins 43 = .ok (.getfield 150, 3) := by decide +kernel
theorem dX12_joins_46 : decode cX12_joins 46 = .ok (.iload_n 3, 1) := by decide +kernel
theorem dX12_joins_47 : decode cX12_joins 47 = .ok (.bipush (-5), 2) := by decide +kernel
theorem dX12_joins_49 : decode cX12_joins 49 = .ok (.iastore, 1) := by decide +kernel
theorem dX12_joins_50 : decode cX12_joins 50 = .ok (.aload_n 0, 1) := by decide +kernel
theorem dX12_joins_51 : decode cX12_joins 51 = .ok (.iload_n 1, 1) := by decide +kernel
theorem dX12_joins_52 : decode cX12_joins 52 = .ok (.iload_n 3, 1) := by decide +kernel
theorem dX12_joins_53 : decode cX12_joins 53 = .ok (.invokevirtual 303, 3) := by decide +kernel
theorem dX12_joins_56 : decode cX12_joins 56 = .ok (.istore 4, 2) := by decide +kernel
theorem dX12_joins_58 : decode cX12_joins 58 = .ok (.aload_n 0, 1) := by decide +kernel
theorem dX12_joins_59 : decode cX12_joins 59 = .ok (.getfield 141, 3) := by decide +kernel
theorem dX12_joins_62 : decode cX12_joins 62 = .ok (.iload_n 3, 1) := by decide +kernel
theorem dX12_joins_63 : decode cX12_joins 63 = .ok (.iload 4, 2) := by decide +kernel
theorem dX12_joins_65 : decode cX12_joins 65 = .ok (.iastore, 1) := by decide +kernel
theorem dX12_joins_66 : decode cX12_joins 66 = .ok (.aload_n 0, 1) := by decide +kernel
theorem dX12_joins_67 : decode cX12_joins 67 = .ok (.dup, 1) := by decide +kernel
theorem dX12_joins_68 : decode cX12_joins 68 = .ok (.getfield 105, 3) := by decide +kernel
theorem dX12_joins_71 : decode cX12_joins 71 = .ok (.iconst 1, 1) := by decide +kernel
theorem dX12_joins_72 : decode cX12_joins 72 = .ok (.iadd, 1) := by decide +kernel
theorem dX12_joins_73 : decode cX12_joins 73 = .ok (.putfield 105, 3) := by decide +kernel
theorem dX12_joins_76 : decode cX12_joins 76 = .ok (.iload 4, 2) := by decide +kernel
theorem dX12_joins_78 : decode cX12_joins 78 = .ok (.iconst 2, 1) := by decide +kernel
theorem dX12_joins_79 : decode cX12_joins 79 = .ok (.if_icmp .ne 4, 3) := by decide +kernel
theorem dX12_joins_82 : decode cX12_joins 82 = .ok (.return_, 1) := by decide +kernel
theorem dX12_joins_83 : decode cX12_joins 83 = .ok (.aload_n 0, 1) := by decide +kernel
theorem dX12_joins_84 : decode cX12_joins 84 = .ok (.getfield 153, 3) := by decide +kernel
theorem dX12_joins_87 : decode cX12_joins 87 = .ok (.bipush 41, 2) := by decide +kernel
theorem dX12_joins_89 : decode cX12_joins 89 = .ok (.iload 4, 2) := by decide +kernel
theorem dX12_joins_91 : decode cX12_joins 91 = .ok (.imul, 1) := by decide +kernel
theorem dX12_joins_92 : decode cX12_joins 92 = .ok (.aload_n 0, 1) := by decide +kernel
theorem dX12_joins_93 : decode cX12_joins 93 = .ok (.getfield 159, 3) := by decide +kernel
theorem dX12_joins_96 : decode cX12_joins 96 = .ok (.iload 4, 2) := by decide +kernel
theorem dX12_joins_98 : decode cX12_joins 98 = .ok (.iaload, 1) := by decide +kernel
theorem dX12_joins_99 : decode cX12_joins 99 = .ok (.iadd, 1) := by decide +kernel
theorem dX12_joins_100 : decode cX12_joins 100 = .ok (.iload_n 3, 1) := by decide +kernel
theorem dX12_joins_101 : decode cX12_joins 101 = .ok (.iastore, 1) := by decide +kernel
theorem dX12_joins_102 : decode cX12_joins 102 = .ok (.aload_n 0, 1) := by decide +kernel
theorem dX12_joins_103 : decode cX12_joins 103 = .ok (.getfield 159, 3) := by decide +kernel
theorem dX12_joins_106 : decode cX12_joins 106 = .ok (.iload 4, 2) := by decide +kernel
theorem dX12_joins_108 : decode cX12_joins 108 = .ok (.dup2, 1) := by decide +kernel
theorem dX12_joins_109 : decode cX12_joins 109 = .ok (.iaload, 1) := by decide +kernel
theorem dX12_joins_110 : decode cX12_joins 110 = .ok (.iconst 1, 1) := by decide +kernel
theorem dX12_joins_111 : decode cX12_joins 111 = .ok (.iadd, 1) := by decide +kernel
theorem dX12_joins_112 : decode cX12_joins 112 = .ok (.iastore, 1) := by decide +kernel
theorem dX12_joins_113 : decode cX12_joins 113 = .ok (.return_, 1) := by decide +kernel
theorem dX12_nextLine_0 : decode cX12_nextLine 0 = .ok (.aload_n 0, 1) := by decide +kernel
theorem dX12_nextLine_1 : decode cX12_nextLine 1 = .ok (.iconst 0, 1) := by decide +kernel
theorem dX12_nextLine_2 : decode cX12_nextLine 2 = .ok (.invokevirtual 288, 3) := by decide +kernel
theorem dX12_nextLine_5 : decode cX12_nextLine 5 = .ok (.ifCond .ne 5, 3) := by decide +kernel
theorem dX12_nextLine_8 : decode cX12_nextLine 8 = .ok (.iconst 1, 1) := by decide +kernel
theorem dX12_nextLine_9 : decode cX12_nextLine 9 = .ok (.ireturn, 1) := by decide +kernel
theorem dX12_nextLine_10 : decode cX12_nextLine 10 = .ok (.aload_n 0, 1) := by decide +kernel
theorem dX12_nextLine_11 : decode cX12_nextLine 11 = .ok (.iconst 1, 1) := by decide +kernel
theorem dX12_nextLine_12 : decode cX12_nextLine 12 = .ok (.invokevirtual 288, 3) := by decide +kernel
theorem dX12_nextLine_15 : decode cX12_nextLine 15 = .ok (.ifCond .ne 5, 3) := by decide +kernel
theorem dX12_nextLine_18 : decode cX12_nextLine 18 = .ok (.iconst 0, 1) := by decide +kernel
theorem dX12_nextLine_19 : decode cX12_nextLine 19 = .ok (.ireturn, 1) := by decide +kernel
theorem dX12_nextLine_20 : decode cX12_nextLine 20 = .ok (.iload_n 1, 1) := by decide +kernel
theorem dX12_nextLine_21 : decode cX12_nextLine 21 = .ok (.bipush 10, 2) := by decide +kernel
theorem dX12_nextLine_23 : decode cX12_nextLine 23 = .ok (.if_icmp .ne 7, 3) := by decide +kernel
theorem dX12_nextLine_26 : decode cX12_nextLine 26 = .ok (.iconst 0, 1) := by decide +kernel
theorem dX12_nextLine_27 : decode cX12_nextLine 27 = .ok (.goto 9, 3) := by decide +kernel
theorem dX12_nextLine_30 : decode cX12_nextLine 30 = .ok (.aload_n 0, 1) := by decide +kernel
theorem dX12_nextLine_31 : decode cX12_nextLine 31 = .ok (.getfield 96, 3) := by decide +kernel
theorem dX12_nextLine_34 : decode cX12_nextLine 34 = .ok (.iload_n 1, 1) := by decide +kernel
theorem dX12_nextLine_35 : decode cX12_nextLine 35 = .ok (.iaload, 1) := by decide +kernel
theorem dX12_nextLine_36 : decode cX12_nextLine 36 = .ok (.istore_n 2, 1) := by decide +kernel
theorem dX12_nextLine_37 : decode cX12_nextLine 37 = .ok (.aload_n 0, 1) := by decide +kernel
theorem dX12_nextLine_38 : decode cX12_nextLine 38 = .ok (.iload_n 2, 1) := by decide +kernel
theorem dX12_nextLine_39 : decode cX12_nextLine 39 = .ok (.invokevirtual 306, 3) := by decide +kernel
theorem dX12_nextLine_42 : decode cX12_nextLine 42 = .ok (.ifCond .eq 5, 3) := by decide +kernel
theorem dX12_nextLine_45 : decode cX12_nextLine 45 = .ok (.iconst 1, 1) := by decide +kernel
theorem dX12_nextLine_46 : decode cX12_nextLine 46 = .ok (.ireturn, 1) := by decide +kernel
theorem dX12_nextLine_47 : decode cX12_nextLine 47 = .ok (.iload_n 2, 1) := by decide +kernel
theorem dX12_nextLine_48 : decode cX12_nextLine 48 = .ok (.iconst 2, 1) := by decide +kernel
theorem dX12_nextLine_49 : decode cX12_nextLine 49 = .ok (.if_icmp .eq 8, 3) := by decide +kernel
theorem dX12_nextLine_52 : decode cX12_nextLine 52 = .ok (.iload_n 2, 1) := by decide +kernel
theorem dX12_nextLine_53 : decode cX12_nextLine 53 = .ok (.iconst 4, 1) := by decide +kernel
theorem dX12_nextLine_54 : decode cX12_nextLine 54 = .ok (.if_icmp .ne 22, 3) := by decide +kernel
theorem dX12_nextLine_57 : decode cX12_nextLine 57 = .ok (.aload_n 0, 1) := by decide +kernel
theorem dX12_nextLine_58 : decode cX12_nextLine 58 = .ok (.getfield 114, 3) := by decide +kernel
theorem dX12_nextLine_61 : decode cX12_nextLine 61 = .ok (.aload_n 0, 1) := by decide +kernel
theorem dX12_nextLine_62 : decode cX12_nextLine 62 = .ok (.getfield 99, 3) := by decide +kernel
theorem dX12_nextLine_65 : decode cX12_nextLine 65 = .ok (.iload_n 1, 1) := by decide +kernel
theorem dX12_nextLine_66 : decode cX12_nextLine 66 = .ok (.iaload, 1) := by decide +kernel
