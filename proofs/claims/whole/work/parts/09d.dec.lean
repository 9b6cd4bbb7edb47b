theorem dX12_init_0 : decode cX12_init 0 = .ok (.aload_n 0, 1) := by decide +kernel
theorem dX12_init_1 : decode cX12_init 1 = .ok (.invokespecial 1, 3) := by decide +kernel
theorem dX12_init_4 : decode cX12_init 4 = .ok (.aload_n 0, 1) := by decide +kernel
theorem dX12_init_5 : decode cX12_init 5 = .ok (.sipush 1800, 3) := by decide +kernel
theorem dX12_init_8 : decode cX12_init 8 = .ok (.newarray .int, 2) := by decide +kernel
theorem dX12_init_10 : decode cX12_init 10 = .ok (.putfield 7, 3) := by decide +kernel
theorem dX12_init_13 : decode cX12_init 13 = .ok (.aload_n 0, 1) := by decide +kernel
theorem dX12_init_14 : decode cX12_init 14 = .ok (.iconst 0, 1) := by decide +kernel
theorem dX12_init_15 : decode cX12_init 15 = .ok (.putfield 13, 3) := by decide +kernel
theorem dX12_init_18 : decode cX12_init 18 = .ok (.aload_n 0, 1) := by decide +kernel
theorem dX12_init_19 : decode cX12_init 19 = .ok (.iconst 0, 1) := by decide +kernel
theorem dX12_init_20 : decode cX12_init 20 = .ok (.putfield 17, 3) := by decide +kernel
theorem dX12_init_23 : decode cX12_init 23 = .ok (.aload_n 0, 1) := by decide +kernel
theorem dX12_init_24 : decode cX12_init 24 = .ok (.iconst 0, 1) := by decide +kernel
theorem dX12_init_25 : decode cX12_init 25 = .ok (.putfield 20, 3) := by decide +kernel
theorem dX12_init_28 : decode cX12_init 28 = .ok (.aload_n 0, 1) := by decide +kernel
theorem dX12_init_29 : decode cX12_init 29 = .ok (.iconst 0, 1) := by decide +kernel
theorem dX12_init_30 : decode cX12_init 30 = .ok (.putfield 23, 3) := by decide +kernel
theorem dX12_init_33 : decode cX12_init 33 = .ok (.aload_n 0, 1) := by decide +kernel
theorem dX12_init_34 : decode cX12_init 34 = .ok (.iconst 0, 1) := by decide +kernel
theorem dX12_init_35 : decode cX12_init 35 = .ok (.putfield 26, 3) := by decide +kernel
theorem dX12_init_38 : decode cX12_init 38 = .ok (.aload_n 0, 1) := by decide +kernel
theorem dX12_init_39 : decode cX12_init 39 = .ok (.iconst 0, 1) := by decide +kernel
theorem dX12_init_40 : decode cX12_init 40 = .ok (.putfield 29, 3) := by decide +kernel
theorem dX12_init_43 : decode cX12_init 43 = .ok (.aload_n 0, 1) := by decide +kernel
theorem dX12_init_44 : decode cX12_init 44 = .ok (.lconst 0, 1) := by decide +kernel
theorem dX12_init_45 : decode cX12_init 45 = .ok (.putfield 32, 3) := by decide +kernel
theorem dX12_init_48 : decode cX12_init 48 = .ok (.aload_n 0, 1) := by decide +kernel
theorem dX12_init_49 : decode cX12_init 49 = .ok (.iconst 0, 1) := by decide +kernel
theorem dX12_init_50 : decode cX12_init 50 = .ok (.putfield 36, 3) := by decide +kernel
theorem dX12_init_53 : decode cX12_init 53 = .ok (.aload_n 0, 1) := by decide +kernel
theorem dX12_init_54 : decode cX12_init 54 = .ok (.iconst (-1), 1) := by decide +kernel
theorem dX12_init_55 : decode cX12_init 55 = .ok (.putfield 39, 3) := by decide +kernel
theorem dX12_init_58 : decode cX12_init 58 = .ok (.aload_n 0, 1) := by decide +kernel
theorem dX12_init_59 : decode cX12_init 59 = .ok (.iconst 0, 1) := by decide +kernel
theorem dX12_init_60 : decode cX12_init 60 = .ok (.putfield 42, 3) := by decide +kernel
theorem dX12_init_63 : decode cX12_init 63 = .ok (.aload_n 0, 1) := by decide +kernel
theorem dX12_init_64 : decode cX12_init 64 = .ok (.iconst (-1), 1) := by decide +kernel
theorem dX12_init_65 : decode cX12_init 65 = .ok (.putfield 45, 3) := by decide +kernel
theorem dX12_init_68 : decode cX12_init 68 = .ok (.aload_n 0, 1) := by decide +kernel
theorem dX12_init_69 : decode cX12_init 69 = .ok (.iconst (-1), 1) := by decide +kernel
theorem dX12_init_70 : decode cX12_init 70 = .ok (.putfield 48, 3) := by decide +kernel
theorem dX12_init_73 : decode cX12_init 73 = .ok (.aload_n 0, 1) := by decide +kernel
theorem dX12_init_74 : decode cX12_init 74 = .ok (.iconst 0, 1) := by decide +kernel
theorem dX12_init_75 : decode cX12_init 75 = .ok (.putfield 51, 3) := by decide +kernel
theorem dX12_init_78 : decode cX12_init 78 = .ok (.aload_n 0, 1) := by decide +kernel
theorem dX12_init_79 : decode cX12_init 79 = .ok (.iconst 2, 1) := by decide +kernel
theorem dX12_init_80 : decode cX12_init 80 = .ok (.newarray .int, 2) := by decide +kernel
theorem dX12_init_82 : decode cX12_init 82 = .ok (.putfield 54, 3) := by decide +kernel
theorem dX12_init_85 : decode cX12_init 85 = .ok (.aload_n 0, 1) := by decide +kernel
theorem dX12_init_86 : decode cX12_init 86 = .ok (.iconst 2, 1) := by decide +kernel
theorem dX12_init_87 : decode cX12_init 87 = .ok (.newarray .int, 2) := by decide +kernel
theorem dX12_init_89 : decode cX12_init 89 = .ok (.putfield 57, 3) := by decide +kernel
theorem dX12_init_92 : decode cX12_init 92 = .ok (.aload_n 0, 1) := by decide +kernel
theorem dX12_init_93 : decode cX12_init 93 = .ok (.bipush 28, 2) := by decide +kernel
theorem dX12_init_95 : decode cX12_init 95 = .ok (.newarray .int, 2) := by decide +kernel
theorem dX12_init_97 : decode cX12_init 97 = .ok (.putfield 60, 3) := by decide +kernel
theorem dX12_init_100 : decode cX12_init 100 = .ok (.aload_n 0, 1) := by decide +kernel
theorem dX12_init_101 : decode cX12_init 101 = .ok (.bipush 28, 2) := by decide +kernel
theorem dX12_init_103 : decode cX12_init 103 = .ok (.newarray .int, 2) := by decide +kernel
theorem dX12_init_105 : decode cX12_init 105 = .ok (.putfield 63, 3) := by decide +kernel
theorem dX12_init_108 : decode cX12_init 108 = .ok (.aload_n 0, 1) := by decide +kernel
theorem dX12_init_109 : decode cX12_init 109 = .ok (.bipush 28, 2) := by decide +kernel
theorem dX12_init_111 : decode cX12_init 111 = .ok (.newarray .int, 2) := by decide +kernel
theorem dX12_init_113 : decode cX12_init 113 = .ok (.putfield 66, 3) := by decide +kernel
theorem dX12_init_116 : decode cX12_init 116 = .ok (.aload_n 0, 1) := by decide +kernel
theorem dX12_init_117 : decode cX12_init 117 = .ok (.bipush 28, 2) := by decide +kernel
theorem dX12_init_119 : decode cX12_init 119 = .ok (.newarray .int, 2) := by decide +kernel
theorem dX12_init_121 : decode cX12_init 121 = .ok (.putfield 69, 3) := by decide +kernel
theorem dX12_init_124 : decode cX12_init 124 = .ok (.aload_n 0, 1) := by decide +kernel
theorem dX12_init_125 : decode cX12_init 125 = .ok (.iconst 2, 1) := by decide +kernel
theorem dX12_init_126 : decode cX12_init 126 = .ok (.newarray .int, 2) := by decide +kernel
theorem dX12_init_128 : decode cX12_init 128 = .ok (.putfield 72, 3) := by decide +kernel
theorem dX12_init_131 : decode cX12_init 131 = .ok (.aload_n 0, 1) := by decide +kernel
theorem dX12_init_132 : decode cX12_init 132 = .ok (.iconst 2, 1) := by decide +kernel
theorem dX12_init_133 : decode cX12_init 133 = .ok (.newarray .int, 2) := by decide +kernel
theorem dX12_init_135 : decode cX12_init 135 = .ok (.putfield 75, 3) := by decide +kernel
theorem dX12_init_138 : decode cX12_init 138 = .ok (.aload_n 0, 1) := by decide +kernel
theorem dX12_init_139 : decode cX12_init 139 = .ok (.bipush 12, 2) := by decide +kernel
theorem dX12_init_141 : decode cX12_init 141 = .ok (.newarray .int, 2) := by decide +kernel
theorem dX12_init_143 : decode cX12_init 143 = .ok (.putfield 78, 3) := by decide +kernel
theorem dX12_init_146 : decode cX12_init 146 = .ok (.aload_n 0, 1) := by decide +kernel
theorem dX12_init_147 : decode cX12_init 147 = .ok (.bipush 12, 2) := by decide +kernel
theorem dX12_init_149 : decode cX12_init 149 = .ok (.newarray .int, 2) := by decide +kernel
theorem dX12_init_151 : decode cX12_init 151 = .ok (.putfield 81, 3) := by decide +kernel
theorem dX12_init_154 : decode cX12_init 154 = .ok (.aload_n 0, 1) := by decide +kernel
theorem dX12_init_155 : decode cX12_init 155 = .ok (.iconst 2, 1) := by decide +kernel
theorem dX12_init_156 : decode cX12_init 156 = .ok (.newarray .int, 2) := by decide +kernel
theorem dX12_init_158 : decode cX12_init 158 = .ok (.putfield 84, 3) := by decide +kernel
theorem dX12_init_161 : decode cX12_init 161 = .ok (.aload_n 0, 1) := by decide +kernel
theorem dX12_init_162 : decode cX12_init 162 = .ok (.bipush 10, 2) := by decide +kernel
theorem dX12_init_164 : decode cX12_init 164 = .ok (.newarray .int, 2) := by decide +kernel
theorem dX12_init_166 : decode cX12_init 166 = .ok (.putfield 87, 3) := by decide +kernel
theorem dX12_init_169 : decode cX12_init 169 = .ok (.aload_n 0, 1) := by decide +kernel
theorem dX12_init_170 : decode cX12_init 170 = .ok (.iconst 2, 1) := by decide +kernel
theorem dX12_init_171 : decode cX12_init 171 = .ok (.newarray .int, 2) := by decide +kernel
theorem dX12_init_173 : decode cX12_init 173 = .ok (.putfield 90, 3) := by decide +kernel
theorem dX12_init_176 : decode cX12_init 176 = .ok (.aload_n 0, 1) := by decide +kernel
theorem dX12_init_177 : decode cX12_init 177 = .ok (.iconst 2, 1) := by decide +kernel
theorem dX12_init_178 : decode cX12_init 178 = .ok (.newarray .int, 2) := by decide +kernel
theorem dX12_init_180 : decode cX12_init 180 = .ok (.putfield 93, 3) := by decide +kernel
theorem dX12_init_183 : decode cX12_init 183 = .ok (.aload_n 0, 1) := by decide +kernel
theorem dX12_init_184 : decode cX12_init 184 = .ok (.iconst 2, 1) := by decide +kernel
theorem dX12_init_185 : decode cX12_init 185 = .ok (.newarray .int, 2) := by decide +kernel
theorem dX12_init_187 : decode cX12_init 187 = .ok (.putfield 96, 3) := by decide +kernel
theorem dX12_init_190 : decode cX12_init 190 = .ok (.aload_n 0, 1) := by decide +kernel
theorem dX12_init_191 : decode cX12_init 191 = .ok (.iconst 2, 1) := by decide +kernel
theorem dX12_init_192 : decode cX12_init 192 = .ok (.newarray .int, 2) := by decide +kernel
theorem dX12_init_194 : decode cX12_init 194 = .ok (.putfield 99, 3) := by decide +kernel
theorem dX12_init_197 : decode cX12_init 197 = .ok (.aload_n 0, 1) := by decide +kernel
theorem dX12_init_198 : decode cX12_init 198 = .ok (.iconst 2, 1) := by decide +kernel
theorem dX12_init_199 : decode cX12_init 199 = .ok (.newarray .int, 2) := by decide +kernel
theorem dX12_init_201 : decode cX12_init 201 = .ok (.putfield 102, 3) := by decide +kernel
theorem dX12_init_204 : decode cX12_init 204 = .ok (.aload_n 0, 1) := by decide +kernel
theorem dX12_init_205 : decode cX12_init 205 = .ok (.iconst 2, 1) := by decide +kernel
theorem dX12_init_206 : decode cX12_init 206 = .ok (.newarray .int, 2) := by decide +kernel
theorem dX12_init_208 : decode cX12_init 208 = .ok (.putfield 105, 3) := by decide +kernel
theorem dX12_init_211 : decode cX12_init 211 = .ok (.aload_n 0, 1) := by decide +kernel
theorem dX12_init_212 : decode cX12_init 212 = .ok (.iconst 2, 1) := by decide +kernel
theorem dX12_init_213 : decode cX12_init 213 = .ok (.newarray .int, 2) := by decide +kernel
theorem dX12_init_215 : decode cX12_init 215 = .ok (.putfield 108, 3) := by decide +kernel
theorem dX12_init_218 : decode cX12_init 218 = .ok (.aload_n 0, 1) := by decide +kernel
theorem dX12_init_219 : decode cX12_init 219 = .ok (.sipush 3200, 3) := by decide +kernel
theorem dX12_init_222 : decode cX12_init 222 = .ok (.newarray .int, 2) := by decide +kernel
theorem dX12_init_224 : decode cX12_init 224 = .ok (.putfield 111, 3) := by decide +kernel
theorem dX12_init_227 : decode cX12_init 227 = .ok (.aload_n 0, 1) := by decide +kernel
theorem dX12_init_228 : decode cX12_init 228 = .ok (.sipush 3200, 3) := by decide +kernel
theorem dX12_init_231 : decode cX12_init 231 = .ok (.newarray .int, 2) := by decide +kernel
theorem dX12_init_233 : decode cX12_init 233 = .ok (.putfield 114, 3) := by decide +kernel
theorem dX12_init_236 : decode cX12_init 236 = .ok (.aload_n 0, 1) := by decide +kernel
theorem dX12_init_237 : decode cX12_init 237 = .ok (.bipush 10, 2) := by decide +kernel
theorem dX12_init_239 : decode cX12_init 239 = .ok (.newarray .long, 2) := by decide +kernel
theorem dX12_init_241 : decode cX12_init 241 = .ok (.putfield 117, 3) := by decide +kernel
theorem dX12_init_244 : decode cX12_init 244 = .ok (.aload_n 0, 1) := by decide +kernel
theorem dX12_init_245 : decode cX12_init 245 = .ok (.bipush 28, 2) := by decide +kernel
theorem dX12_init_247 : decode cX12_init 247 = .ok (.newarray .long, 2) := by decide +kernel
theorem dX12_init_249 : decode cX12_init 249 = .ok (.putfield 121, 3) := by decide +kernel
theorem dX12_init_252 : decode cX12_init 252 = .ok (.aload_n 0, 1) := by decide +kernel
theorem dX12_init_253 : decode cX12_init 253 = .ok (.bipush 12, 2) := by decide +kernel
theorem dX12_init_255 : decode cX12_init 255 = .ok (.newarray .long, 2) := by decide +kernel
theorem dX12_init_257 : decode cX12_init 257 = .ok (.putfield 124, 3) := by decide +kernel
theorem dX12_init_260 : decode cX12_init 260 = .ok (.aload_n 0, 1) := by decide +kernel
theorem dX12_init_261 : decode cX12_init 261 = .ok (.bipush 10, 2) := by decide +kernel
theorem dX12_init_263 : decode cX12_init 263 = .ok (.newarray .long, 2) := by decide +kernel
theorem dX12_init_265 : decode cX12_init 265 = .ok (.putfield 127, 3) := by decide +kernel
theorem dX12_init_268 : decode cX12_init 268 = .ok (.aload_n 0, 1) := by decide +kernel
theorem dX12_init_269 : decode cX12_init 269 = .ok (.iconst 0, 1) := by decide +kernel
theorem dX12_init_270 : decode cX12_init 270 = .ok (.putfield 130, 3) := by decide +kernel
theorem dX12_init_273 : decode cX12_init 273 = .ok (.aload_n 0, 1) := by decide +kernel
theorem dX12_init_274 : decode cX12_init 274 = .ok (.iconst 1, 1) := by decide +kernel
theorem dX12_init_275 : decode cX12_init 275 = .ok (.putfield 133, 3) := by decide +kernel
theorem dX12_init_278 : decode cX12_init 278 = .ok (.aload_n 0, 1) := by decide +kernel
theorem dX12_init_279 : decode cX12_init 279 = .ok (.bipush 20, 2) := by decide +kernel
theorem dX12_init_281 : decode cX12_init 281 = .ok (.newarray .int, 2) := by decide +kernel
theorem dX12_init_283 : decode cX12_init 283 = .ok (.putfield 136, 3) := by decide +kernel
theorem dX12_init_286 : decode cX12_init 286 = .ok (.aload_n 0, 1) := by decide +kernel
theorem dX12_init_287 : decode cX12_init 287 = .ok (.bipush 20, 2) := by decide +kernel
theorem dX12_init_289 : decode cX12_init 289 = .ok (.newarray .int, 2) := by decide +kernel
theorem dX12_init_291 : decode cX12_init 291 = .ok (.putfield 139, 3) := by decide +kernel
theorem dX12_init_294 : decode cX12_init 294 = .ok (.aload_n 0, 1) := by decide +kernel
theorem dX12_init_295 : decode cX12_init 295 = .ok (.bipush 20, 2) := by decide +kernel
theorem dX12_init_297 : decode cX12_init 297 = .ok (.newarray .boolean, 2) := by decide +kernel
theorem dX12_init_299 : decode cX12_init 299 = .ok (.putfield 142, 3) := by decide +kernel
theorem dX12_init_302 : decode cX12_init 302 = .ok (.aload_n 0, 1) := by decide +kernel
theorem dX12_init_303 : decode cX12_init 303 = .ok (.bipush 20, 2) := by decide +kernel
theorem dX12_init_305 : decode cX12_init 305 = .ok (.newarray .int, 2) := by decide +kernel
theorem dX12_init_307 : decode cX12_init 307 = .ok (.putfield 146, 3) := by decide +kernel
theorem dX12_init_310 : decode cX12_init 310 = .ok (.aload_n 0, 1) := by decide +kernel
theorem dX12_init_311 : decode cX12_init 311 = .ok (.bipush 20, 2) := by decide +kernel
theorem dX12_init_313 : decode cX12_init 313 = .ok (.newarray .int, 2) := by decide +kernel
theorem dX12_init_315 : decode cX12_init 315 = .ok (.putfield 149, 3) := by decide +kernel
theorem dX12_init_318 : decode cX12_init 318 = .ok (.aload_n 0, 1) := by decide +kernel
theorem dX12_init_319 : decode cX12_init 319 = .ok (.iconst 0, 1) := by decide +kernel
theorem dX12_init_320 : decode cX12_init 320 = .ok (.putfield 152, 3) := by decide +kernel
theorem dX12_init_323 : decode cX12_init 323 = .ok (.aload_n 0, 1) := by decide +kernel
theorem dX12_init_324 : decode cX12_init 324 = .ok (.iconst 0, 1) := by decide +kernel
theorem dX12_init_325 : decode cX12_init 325 = .ok (.putfield 155, 3) := by decide +kernel
theorem dX12_init_328 : decode cX12_init 328 = .ok (.aload_n 0, 1) := by decide +kernel
theorem dX12_init_329 : decode cX12_init 329 = .ok (.sipush 500, 3) := by decide +kernel
theorem dX12_init_332 : decode cX12_init 332 = .ok (.newarray .int, 2) := by decide +kernel
theorem dX12_init_334 : decode cX12_init 334 = .ok (.putfield 158, 3) := by decide +kernel
theorem dX12_init_337 : decode cX12_init 337 = .ok (.aload_n 0, 1) := by decide +kernel
theorem dX12_init_338 : decode cX12_init 338 = .ok (.iconst 0, 1) := by decide +kernel
theorem dX12_init_339 : decode cX12_init 339 = .ok (.putfield 161, 3) := by decide +kernel
theorem dX12_init_342 : decode cX12_init 342 = .ok (.aload_n 0, 1) := by decide +kernel
theorem dX12_init_343 : decode cX12_init 343 = .ok (.iconst 0, 1) := by decide +kernel
theorem dX12_init_344 : decode cX12_init 344 = .ok (.putfield 164, 3) := by decide +kernel
theorem dX12_init_347 : decode cX12_init 347 = .ok (.aload_n 0, 1) := by decide +kernel
theorem dX12_init_348 : decode cX12_init 348 = .ok (.bipush 6, 2) := by decide +kernel
theorem dX12_init_350 : decode cX12_init 350 = .ok (.newarray .int, 2) := by decide +kernel
theorem dX12_init_352 : decode cX12_init 352 = .ok (.putfield 168, 3) := by decide +kernel
theorem dX12_init_355 : decode cX12_init 355 = .ok (.aload_n 0, 1) := by decide +kernel
theorem dX12_init_356 : decode cX12_init 356 = .ok (.bipush 22, 2) := by decide +kernel
theorem dX12_init_358 : decode cX12_init 358 = .ok (.newarray .int, 2) := by decide +kernel
theorem dX12_init_360 : decode cX12_init 360 = .ok (.putfield 171, 3) := by decide +kernel
theorem dX12_init_363 : decode cX12_init 363 = .ok (.aload_n 0, 1) := by decide +kernel
theorem dX12_init_364 : decode cX12_init 364 = .ok (.bipush 22, 2) := by decide +kernel
theorem dX12_init_366 : decode cX12_init 366 = .ok (.newarray .int, 2) := by decide +kernel
theorem dX12_init_368 : decode cX12_init 368 = .ok (.putfield 174, 3) := by decide +kernel
theorem dX12_init_371 : decode cX12_init 371 = .ok (.aload_n 0, 1) := by decide +kernel
theorem dX12_init_372 : decode cX12_init 372 = .ok (.sipush 132, 3) := by decide +kernel
theorem dX12_init_375 : decode cX12_init 375 = .ok (.newarray .int, 2) := by decide +kernel
theorem dX12_init_377 : decode cX12_init 377 = .ok (.putfield 177, 3) := by decide +kernel
theorem dX12_init_380 : decode cX12_init 380 = .ok (.aload_n 0, 1) := by decide +kernel
theorem dX12_init_381 : decode cX12_init 381 = .ok (.sipush 132, 3) := by decide +kernel
theorem dX12_init_384 : decode cX12_init 384 = .ok (.newarray .int, 2) := by decide +kernel
theorem dX12_init_386 : decode cX12_init 386 = .ok (.putfield 180, 3) := by decide +kernel
theorem dX12_init_389 : decode cX12_init 389 = .ok (.aload_n 0, 1) := by decide +kernel
theorem dX12_init_390 : decode cX12_init 390 = .ok (.sipush 132, 3) := by decide +kernel
theorem dX12_init_393 : decode cX12_init 393 = .ok (.newarray .int, 2) := by decide +kernel
theorem dX12_init_395 : decode cX12_init 395 = .ok (.putfield 183, 3) := by decide +kernel
theorem dX12_init_398 : decode cX12_init 398 = .ok (.aload_n 0, 1) := by decide +kernel
theorem dX12_init_399 : decode cX12_init 399 = .ok (.sipush 132, 3) := by decide +kernel
theorem dX12_init_402 : decode cX12_init 402 = .ok (.newarray .int, 2) := by decide +kernel
theorem dX12_init_404 : decode cX12_init 404 = .ok (.putfield 186, 3) := by decide +kernel
theorem dX12_init_407 : decode cX12_init 407 = .ok (.aload_n 0, 1) := by decide +kernel
theorem dX12_init_408 : decode cX12_init 408 = .ok (.sipush 132, 3) := by decide +kernel
theorem dX12_init_411 : decode cX12_init 411 = .ok (.newarray .int, 2) := by decide +kernel
theorem dX12_init_413 : decode cX12_init 413 = .ok (.putfield 189, 3) := by decide +kernel
theorem dX12_init_416 : decode cX12_init 416 = .ok (.aload_n 0, 1) := by decide +kernel
theorem dX12_init_417 : decode cX12_init 417 = .ok (.sipush 132, 3) := by decide +kernel
theorem dX12_init_420 : decode cX12_init 420 = .ok (.newarray .int, 2) := by decide +kernel
theorem dX12_init_422 : decode cX12_init 422 = .ok (.putfield 192, 3) := by decide +kernel
theorem dX12_init_425 : decode cX12_init 425 = .ok (.aload_n 0, 1) := by decide +kernel
theorem dX12_init_426 : decode cX12_init 426 = .ok (.sipush 1056, 3) := by decide +kernel
theorem dX12_init_429 : decode cX12_init 429 = .ok (.newarray .int, 2) := by decide +kernel
theorem dX12_init_431 : decode cX12_init 431 = .ok (.putfield 195, 3) := by decide +kernel
theorem dX12_init_434 : decode cX12_init 434 = .ok (.aload_n 0, 1) := by decide +kernel
theorem dX12_init_435 : decode cX12_init 435 = .ok (.bipush 22, 2) := by decide +kernel
theorem dX12_init_437 : decode cX12_init 437 = .ok (.newarray .int, 2) := by decide +kernel
theorem dX12_init_439 : decode cX12_init 439 = .ok (.putfield 198, 3) := by decide +kernel
theorem dX12_init_442 : decode cX12_init 442 = .ok (.aload_n 0, 1) := by decide +kernel
theorem dX12_init_443 : decode cX12_init 443 = .ok (.sipush 1320, 3) := by decide +kernel
theorem dX12_init_446 : decode cX12_init 446 = .ok (.newarray .int, 2) := by decide +kernel
theorem dX12_init_448 : decode cX12_init 448 = .ok (.putfield 201, 3) := by decide +kernel
theorem dX12_init_451 : decode cX12_init 451 = .ok (.aload_n 0, 1) := by decide +kernel
theorem dX12_init_452 : decode cX12_init 452 = .ok (.sipush 1320, 3) := by decide +kernel
theorem dX12_init_455 : decode cX12_init 455 = .ok (.newarray .int, 2) := by decide +kernel
theorem dX12_init_457 : decode cX12_init 457 = .ok (.putfield 204, 3) := by decide +kernel
theorem dX12_init_460 : decode cX12_init 460 = .ok (.aload_n 0, 1) := by decide +kernel
theorem dX12_init_461 : decode cX12_init 461 = .ok (.sipush 1320, 3) := by decide +kernel
theorem dX12_init_464 : decode cX12_init 464 = .ok (.newarray .int, 2) := by decide +kernel
theorem dX12_init_466 : decode cX12_init 466 = .ok (.putfield 207, 3) := by decide +kernel
theorem dX12_init_469 : decode cX12_init 469 = .ok (.aload_n 0, 1) := by decide +kernel
theorem dX12_init_470 : decode cX12_init 470 = .ok (.iconst 0, 1) := by decide +kernel
theorem dX12_init_471 : decode cX12_init 471 = .ok (.putfield 210, 3) := by decide +kernel
theorem dX12_init_474 : decode cX12_init 474 = .ok (.aload_n 0, 1) := by decide +kernel
theorem dX12_init_475 : decode cX12_init 475 = .ok (.iconst 0, 1) := by decide +kernel
theorem dX12_init_476 : decode cX12_init 476 = .ok (.putfield 213, 3) := by decide +kernel
theorem dX12_init_479 : decode cX12_init 479 = .ok (.aload_n 0, 1) := by decide +kernel
theorem dX12_init_480 : decode cX12_init 480 = .ok (.lconst 1, 1) := by decide +kernel
theorem dX12_init_481 : decode cX12_init 481 = .ok (.putfield 216, 3) := by decide +kernel
theorem dX12_init_484 : decode cX12_init 484 = .ok (.aload_n 0, 1) := by decide +kernel
theorem dX12_init_485 : decode cX12_init 485 = .ok (.sipush 500, 3) := by decide +kernel
theorem dX12_init_488 : decode cX12_init 488 = .ok (.newarray .long, 2) := by decide +kernel
theorem dX12_init_490 : decode cX12_init 490 = .ok (.putfield 219, 3) := by decide +kernel
theorem dX12_init_493 : decode cX12_init 493 = .ok (.aload_n 0, 1) := by decide +kernel
theorem dX12_init_494 : decode cX12_init 494 = .ok (.iconst 0, 1) := by decide +kernel
theorem dX12_init_495 : decode cX12_init 495 = .ok (.putfield 222, 3) := by decide +kernel
theorem dX12_init_498 : decode cX12_init 498 = .ok (.aload_n 0, 1) := by decide +kernel
theorem dX12_init_499 : decode cX12_init 499 = .ok (.iconst 0, 1) := by decide +kernel
theorem dX12_init_500 : decode cX12_init 500 = .ok (.putfield 225, 3) := by decide +kernel
theorem dX12_init_503 : decode cX12_init 503 = .ok (.aload_n 0, 1) := by decide +kernel
theorem dX12_init_504 : decode cX12_init 504 = .ok (.iconst (-1), 1) := by decide +kernel
theorem dX12_init_505 : decode cX12_init 505 = .ok (.putfield 228, 3) := by decide +kernel
theorem dX12_init_508 : decode cX12_init 508 = .ok (.aload_n 0, 1) := by decide +kernel
theorem dX12_init_509 : decode cX12_init 509 = .ok (.iconst (-1), 1) := by decide +kernel
theorem dX12_init_510 : decode cX12_init 510 = .ok (.putfield 231, 3) := by decide +kernel
theorem dX12_init_513 : decode cX12_init 513 = .ok (.aload_n 0, 1) := by decide +kernel
theorem dX12_init_514 : decode cX12_init 514 = .ok (.iconst (-1), 1) := by decide +kernel
theorem dX12_init_515 : decode cX12_init 515 = .ok (.putfield 234, 3) := by decide +kernel
theorem dX12_init_518 : decode cX12_init 518 = .ok (.aload_n 0, 1) := by decide +kernel
theorem dX12_init_519 : decode cX12_init 519 = .ok (.bipush 6, 2) := by decide +kernel
theorem dX12_init_521 : decode cX12_init 521 = .ok (.newarray .int, 2) := by decide +kernel
theorem dX12_init_523 : decode cX12_init 523 = .ok (.putfield 237, 3) := by decide +kernel
theorem dX12_init_526 : decode cX12_init 526 = .ok (.aload_n 0, 1) := by decide +kernel
theorem dX12_init_527 : decode cX12_init 527 = .ok (.bipush 6, 2) := by decide +kernel
theorem dX12_init_529 : decode cX12_init 529 = .ok (.newarray .int, 2) := by decide +kernel
theorem dX12_init_531 : decode cX12_init 531 = .ok (.putfield 240, 3) := by decide +kernel
theorem dX12_init_534 : decode cX12_init 534 = .ok (.aload_n 0, 1) := by decide +kernel
theorem dX12_init_535 : decode cX12_init 535 = .ok (.iconst 5, 1) := by decide +kernel
theorem dX12_init_536 : decode cX12_init 536 = .ok (.newarray .int, 2) := by decide +kernel
theorem dX12_init_538 : decode cX12_init 538 = .ok (.putfield 243, 3) := by decide +kernel
theorem dX12_init_541 : decode cX12_init 541 = .ok (.aload_n 0, 1) := by decide +kernel
theorem dX12_init_542 : decode cX12_init 542 = .ok (.iconst 0, 1) := by decide +kernel
theorem dX12_init_543 : decode cX12_init 543 = .ok (.putfield 246, 3) := by decide +kernel
theorem dX12_init_546 : decode cX12_init 546 = .ok (.aload_n 0, 1) := by decide +kernel
theorem dX12_init_547 : decode cX12_init 547 = .ok (.bipush 8, 2) := by decide +kernel
theorem dX12_init_549 : decode cX12_init 549 = .ok (.newarray .int, 2) := by decide +kernel
theorem dX12_init_551 : decode cX12_init 551 = .ok (.putfield 249, 3) := by decide +kernel
theorem dX12_init_554 : decode cX12_init 554 = .ok (.aload_n 0, 1) := by decide +kernel
theorem dX12_init_555 : decode cX12_init 555 = .ok (.sipush 768, 3) := by decide +kernel
theorem dX12_init_558 : decode cX12_init 558 = .ok (.newarray .int, 2) := by decide +kernel
theorem dX12_init_560 : decode cX12_init 560 = .ok (.putfield 252, 3) := by decide +kernel
theorem dX12_init_563 : decode cX12_init 563 = .ok (.aload_n 0, 1) := by decide +kernel
theorem dX12_init_564 : decode cX12_init 564 = .ok (.sipush 768, 3) := by decide +kernel
theorem dX12_init_567 : decode cX12_init 567 = .ok (.newarray .int, 2) := by decide +kernel
theorem dX12_init_569 : decode cX12_init 569 = .ok (.putfield 255, 3) := by decide +kernel
theorem dX12_init_572 : decode cX12_init 572 = .ok (.aload_n 0, 1) := by decide +kernel
theorem dX12_init_573 : decode cX12_init 573 = .ok (.bipush 8, 2) := by decide +kernel
theorem dX12_init_575 : decode cX12_init 575 = .ok (.newarray .int, 2) := by decide +kernel
theorem dX12_init_577 : decode cX12_init 577 = .ok (.putfield 258, 3) := by decide +kernel
theorem dX12_init_580 : decode cX12_init 580 = .ok (.aload_n 0, 1) := by decide +kernel
theorem dX12_init_581 : decode cX12_init 581 = .ok (.iconst 0, 1) := by decide +kernel
theorem dX12_init_582 : decode cX12_init 582 = .ok (.putfield 261, 3) := by decide +kernel
theorem dX12_init_585 : decode cX12_init 585 = .ok (.aload_n 0, 1) := by decide +kernel
theorem dX12_init_586 : decode cX12_init 586 = .ok (.iconst 0, 1) := by decide +kernel
theorem dX12_init_587 : decode cX12_init 587 = .ok (.putfield 264, 3) := by decide +kernel
theorem dX12_init_590 : decode cX12_init 590 = .ok (.aload_n 0, 1) := by decide +kernel
theorem dX12_init_591 : decode cX12_init 591 = .ok (.bipush 6, 2) := by decide +kernel
theorem dX12_init_593 : decode cX12_init 593 = .ok (.newarray .int, 2) := by decide +kernel
theorem dX12_init_595 : decode cX12_init 595 = .ok (.putfield 267, 3) := by decide +kernel
theorem dX12_init_598 : decode cX12_init 598 = .ok (.aload_n 0, 1) := by decide +kernel
theorem dX12_init_599 : decode cX12_init 599 = .ok (.bipush 14, 2) := by decide +kernel
theorem dX12_init_601 : decode cX12_init 601 = .ok (.newarray .int, 2) := by decide +kernel
theorem dX12_init_603 : decode cX12_init 603 = .ok (.putfield 270, 3) := by decide +kernel
theorem dX12_init_606 : decode cX12_init 606 = .ok (.aload_n 0, 1) := by decide +kernel
theorem dX12_init_607 : decode cX12_init 607 = .ok (.bipush 110, 2) := by decide +kernel
theorem dX12_init_609 : decode cX12_init 609 = .ok (.newarray .int, 2) := by decide +kernel
theorem dX12_init_611 : decode cX12_init 611 = .ok (.putfield 273, 3) := by decide +kernel
theorem dX12_init_614 : decode cX12_init 614 = .ok (.aload_n 0, 1) := by decide +kernel
theorem dX12_init_615 : decode cX12_init 615 = .ok (.iconst 0, 1) := by decide +kernel
theorem dX12_init_616 : decode cX12_init 616 = .ok (.putfield 276, 3) := by decide +kernel
theorem dX12_init_619 : decode cX12_init 619 = .ok (.aload_n 0, 1) := by decide +kernel
theorem dX12_init_620 : decode cX12_init 620 = .ok (.getfield 90, 3) := by decide +kernel
theorem dX12_init_623 : decode cX12_init 623 = .ok (.iconst 0, 1) := by decide +kernel
theorem dX12_init_624 : decode cX12_init 624 = .ok (.bipush 60, 2) := by decide +kernel
theorem dX12_init_626 : decode cX12_init 626 = .ok (.iastore, 1) := by decide +kernel
theorem dX12_init_627 : decode cX12_init 627 = .ok (.aload_n 0, 1) := by decide +kernel
theorem dX12_init_628 : decode cX12_init 628 = .ok (.getfield 93, 3) := by decide +kernel
theorem dX12_init_631 : decode cX12_init 631 = .ok (.iconst 0, 1) := by decide +kernel
theorem dX12_init_632 : decode cX12_init 632 = .ok (.iconst (-1), 1) := by decide +kernel
theorem dX12_init_633 : decode cX12_init 633 = .ok (.iastore, 1) := by decide +kernel
theorem dX12_init_634 : decode cX12_init 634 = .ok (.aload_n 0, 1) := by decide +kernel
theorem dX12_init_635 : decode cX12_init 635 = .ok (.getfield 99, 3) := by decide +kernel
theorem dX12_init_638 : decode cX12_init 638 = .ok (.iconst 0, 1) := by decide +kernel
theorem dX12_init_639 : decode cX12_init 639 = .ok (.iconst (-1), 1) := by decide +kernel
theorem dX12_init_640 : decode cX12_init 640 = .ok (.iastore, 1) := by decide +kernel
theorem dX12_init_641 : decode cX12_init 641 = .ok (.aload_n 0, 1) := by decide +kernel
theorem dX12_init_642 : decode cX12_init 642 = .ok (.getfield 105, 3) := by decide +kernel
theorem dX12_init_645 : decode cX12_init 645 = .ok (.iconst 0, 1) := by decide +kernel
theorem dX12_init_646 : decode cX12_init 646 = .ok (.iconst (-1), 1) := by decide +kernel
theorem dX12_init_647 : decode cX12_init 647 = .ok (.iastore, 1) := by decide +kernel
theorem dX12_init_648 : decode cX12_init 648 = .ok (.return_, 1) := by decide +kernel
theorem dX12_is_0 : decode cX12_is 0 = .ok (.iload_n 0, 1) := by decide +kernel
theorem dX12_is_1 : decode cX12_is 1 = .ok (.iload_n 1, 1) := by decide +kernel
theorem dX12_is_2 : decode cX12_is 2 = .ok (.if_icmp .lt 12, 3) := by decide +kernel
theorem dX12_is_5 : decode cX12_is 5 = .ok (.iload_n 0, 1) := by decide +kernel
theorem dX12_is_6 : decode cX12_is 6 = .ok (.iload_n 2, 1) := by decide +kernel
theorem dX12_is_7 : decode cX12_is 7 = .ok (.if_icmp .gt 7, 3) := by decide +kernel
theorem dX12_is_10 : decode cX12_is 10 = .ok (.iconst 1, 1) := by decide +kernel
theorem dX12_is_11 : decode cX12_is 11 = .ok (.goto 4, 3) := by decide +kernel
theorem dX12_is_14 : decode cX12_is 14 = .ok (.iconst 0, 1) := by decide +kernel
theorem dX12_is_15 : decode cX12_is 15 = .ok (.ireturn, 1) := by decide +kernel
theorem dX12_put_0 : decode cX12_put 0 = .ok (.bipush 24, 2) := by decide +kernel
theorem dX12_put_2 : decode cX12_put 2 = .ok (.istore_n 2, 1) := by decide +kernel
theorem dX12_put_3 : decode cX12_put 3 = .ok (.iload_n 2, 1) := by decide +kernel
theorem dX12_put_4 : decode cX12_put 4 = .ok (.ifCond .lt 35, 3) := by decide +kernel
theorem dX12_put_7 : decode cX12_put 7 = .ok (.aload_n 0, 1) := by decide +kernel
theorem dX12_put_8 : decode cX12_put 8 = .ok (.getfield 7, 3) := by decide +kernel
theorem dX12_put_11 : decode cX12_put 11 = .ok (.aload_n 0, 1) := by decide +kernel
theorem dX12_put_12 : decode cX12_put 12 = .ok (.getfield 13, 3) := by decide +kernel
theorem dX12_put_15 : decode cX12_put 15 = .ok (.iload_n 1, 1) := by decide +kernel
theorem dX12_put_16 : decode cX12_put 16 = .ok (.iload_n 2, 1) := by decide +kernel
theorem dX12_put_17 : decode cX12_put 17 = .ok (.ishr, 1) := by decide +kernel
theorem dX12_put_18 : decode cX12_put 18 = .ok (.sipush 255, 3) := by decide +kernel
theorem dX12_put_21 : decode cX12_put 21 = .ok (.iand, 1) := by decide +kernel
theorem dX12_put_22 : decode cX12_put 22 = .ok (.iastore, 1) := by decide +kernel
theorem dX12_put_23 : decode cX12_put 23 = .ok (.aload_n 0, 1) := by decide +kernel
theorem dX12_put_24 : decode cX12_put 24 = .ok (.dup, 1) := by decide +kernel
theorem dX12_put_25 : decode cX12_put 25 = .ok (.getfield 13, 3) := by decide +kernel
theorem dX12_put_28 : decode cX12_put 28 = .ok (.iconst 1, 1) := by decide +kernel
theorem dX12_put_29 : decode cX12_put 29 = .ok (.iadd, 1) := by decide +kernel
theorem dX12_put_30 : decode cX12_put 30 = .ok (.putfield 13, 3) := by decide +kernel
theorem dX12_put_33 : decode cX12_put 33 = .ok (.iinc 2 (-8), 3) := by decide +kernel
theorem dX12_put_36 : decode cX12_put 36 = .ok (.goto (-33), 3) := by decide +kernel
theorem dX12_put_39 : decode cX12_put 39 = .ok (.return_, 1) := by decide +kernel
theorem dX12_feed_0 : decode cX12_feed 0 = .ok (.aload_n 0, 1) := by decide +kernel
theorem dX12_feed_1 : decode cX12_feed 1 = .ok (.getfield 13, 3) := by decide +kernel
theorem dX12_feed_4 : decode cX12_feed 4 = .ok (.bipush 20, 2) := by decide +kernel
theorem dX12_feed_6 : decode cX12_feed 6 = .ok (.iadd, 1) := by decide +kernel
theorem dX12_feed_7 : decode cX12_feed 7 = .ok (.sipush 1600, 3) := by decide +kernel
theorem dX12_feed_10 : decode cX12_feed 10 = .ok (.if_icmp .le 9, 3) := by decide +kernel
theorem dX12_feed_13 : decode cX12_feed 13 = .ok (.aload_n 0, 1) := by decide +kernel
theorem dX12_feed_14 : decode cX12_feed 14 = .ok (.iconst 0, 1) := by decide +kernel
theorem dX12_feed_15 : decode cX12_feed 15 = .ok (.invokevirtual 279, 3) := by decide +kernel
theorem dX12_feed_18 : decode cX12_feed 18 = .ok (.ireturn, 1) := by decide +kernel
theorem dX12_feed_19 : decode cX12_feed 19 = .ok (.aload_n 0, 1) := by decide +kernel
theorem dX12_feed_20 : decode cX12_feed 20 = .ok (.iload_n 1, 1) := by decide +kernel
theorem dX12_feed_21 : decode cX12_feed 21 = .ok (.invokevirtual 283, 3) := by decide +kernel
theorem dX12_feed_24 : decode cX12_feed 24 = .ok (.aload_n 0, 1) := by decide +kernel
theorem dX12_feed_25 : decode cX12_feed 25 = .ok (.iload_n 2, 1) := by decide +kernel
theorem dX12_feed_26 : decode cX12_feed 26 = .ok (.invokevirtual 283, 3) := by decide +kernel
theorem dX12_feed_29 : decode cX12_feed 29 = .ok (.aload_n 0, 1) := by decide +kernel
theorem dX12_feed_30 : decode cX12_feed 30 = .ok (.iload_n 3, 1) := by decide +kernel
theorem dX12_feed_31 : decode cX12_feed 31 = .ok (.invokevirtual 283, 3) := by decide +kernel
theorem dX12_feed_34 : decode cX12_feed 34 = .ok (.aload_n 0, 1) := by decide +kernel
theorem dX12_feed_35 : decode cX12_feed 35 = .ok (.iload 4, 2) := by decide +kernel
theorem dX12_feed_37 : decode cX12_feed 37 = .ok (.invokevirtual 283, 3) := by decide +kernel
theorem dX12_feed_40 : decode cX12_feed 40 = .ok (.aload_n 0, 1) := by decide +kernel
theorem dX12_feed_41 : decode cX12_feed 41 = .ok (.iload 5, 2) := by decide +kernel
theorem dX12_feed_43 : decode cX12_feed 43 = .ok (.invokevirtual 283, 3) := by decide +kernel
theorem dX12_feed_46 : decode cX12_feed 46 = .ok (.aload_n 0, 1) := by decide +kernel
theorem dX12_feed_47 : decode cX12_feed 47 = .ok (.getfield 13, 3) := by decide +kernel
theorem dX12_feed_50 : decode cX12_feed 50 = .ok (.ireturn, 1) := by decide +kernel
theorem dX12_end_0 : decode cX12_end 0 = .ok (.iload_n 1, 1) := by decide +kernel
theorem dX12_end_1 : decode cX12_end 1 = .ok (.ifCond .lt 11, 3) := by decide +kernel
theorem dX12_end_4 : decode cX12_end 4 = .ok (.iload_n 1, 1) := by decide +kernel
theorem dX12_end_5 : decode cX12_end 5 = .ok (.aload_n 0, 1) := by decide +kernel
theorem dX12_end_6 : decode cX12_end 6 = .ok (.getfield 13, 3) := by decide +kernel
theorem dX12_end_9 : decode cX12_end 9 = .ok (.if_icmp .le 17, 3) := by decide +kernel
theorem dX12_end_12 : decode cX12_end 12 = .ok (.aload_n 0, 1) := by decide +kernel
theorem dX12_end_13 : decode cX12_end 13 = .ok (.iconst 0, 1) := by decide +kernel
theorem dX12_end_14 : decode cX12_end 14 = .ok (.invokevirtual 279, 3) := by decide +kernel
theorem dX12_end_17 : decode cX12_end 17 = .ok (.ifCond .lt 7, 3) := by decide +kernel
theorem dX12_end_20 : decode cX12_end 20 = .ok (.iconst 1, 1) := by decide +kernel
theorem dX12_end_21 : decode cX12_end 21 = .ok (.goto 4, 3) := by decide +kernel
theorem dX12_end_24 : decode cX12_end 24 = .ok (.iconst 0, 1) := by decide +kernel
theorem dX12_end_25 : decode cX12_end 25 = .ok (.ireturn, 1) := by decide +kernel
theorem dX12_end_26 : decode cX12_end 26 = .ok (.aload_n 0, 1) := by decide +kernel
theorem dX12_end_27 : decode cX12_end 27 = .ok (.iload_n 1, 1) := by decide +kernel
theorem dX12_end_28 : decode cX12_end 28 = .ok (.putfield 13, 3) := by decide +kernel
theorem dX12_end_31 : decode cX12_end 31 = .ok (.iconst 1, 1) := by decide +kernel
theorem dX12_end_32 : decode cX12_end 32 = .ok (.ireturn, 1) := by decide +kernel
theorem dX12_blame_0 : decode cX12_blame 0 = .ok (.aload_n 0, 1) := by decide +kernel
theorem dX12_blame_1 : decode cX12_blame 1 = .ok (.getfield 36, 3) := by decide +kernel
theorem dX12_blame_4 : decode cX12_blame 4 = .ok (.ifCond .le 4, 3) := by decide +kernel
theorem dX12_blame_7 : decode cX12_blame 7 = .ok (.return_, 1) := by decide +kernel
theorem dX12_blame_8 : decode cX12_blame 8 = .ok (.aload_n 0, 1) := by decide +kernel
theorem dX12_blame_9 : decode cX12_blame 9 = .ok (.iload_n 1, 1) := by decide +kernel
theorem dX12_blame_10 : decode cX12_blame 10 = .ok (.putfield 36, 3) := by decide +kernel
theorem dX12_blame_13 : decode cX12_blame 13 = .ok (.aload_n 0, 1) := by decide +kernel
theorem dX12_blame_14 : decode cX12_blame 14 = .ok (.iload_n 2, 1) := by decide +kernel
theorem dX12_blame_15 : decode cX12_blame 15 = .ok (.putfield 39, 3) := by decide +kernel
theorem dX12_blame_18 : decode cX12_blame 18 = .ok (.return_, 1) := by decide +kernel
theorem dX12_isLetter_0 : decode cX12_isLetter 0 = .ok (.iload_n 0, 1) := by decide +kernel
theorem dX12_isLetter_1 : decode cX12_isLetter 1 = .ok (.bipush 97, 2) := by decide +kernel
theorem dX12_isLetter_3 : decode cX12_isLetter 3 = .ok (.if_icmp .lt 13, 3) := by decide +kernel
theorem dX12_isLetter_6 : decode cX12_isLetter 6 = .ok (.iload_n 0, 1) := by decide +kernel
theorem dX12_isLetter_7 : decode cX12_isLetter 7 = .ok (.bipush 122, 2) := by decide +kernel
theorem dX12_isLetter_9 : decode cX12_isLetter 9 = .ok (.if_icmp .gt 7, 3) := by decide +kernel
theorem dX12_isLetter_12 : decode cX12_isLetter 12 = .ok (.iconst 1, 1) := by decide +kernel
theorem dX12_isLetter_13 : decode cX12_isLetter 13 = .ok (.goto 4, 3) := by decide +kernel
theorem dX12_isLetter_16 : decode cX12_isLetter 16 = .ok (.iconst 0, 1) := by decide +kernel
theorem dX12_isLetter_17 : decode cX12_isLetter 17 = .ok (.ireturn, 1) := by decide +kernel
theorem dX12_isDigit_0 : decode cX12_isDigit 0 = .ok (.iload_n 0, 1) := by decide +kernel
theorem dX12_isDigit_1 : decode cX12_isDigit 1 = .ok (.bipush 48, 2) := by decide +kernel
theorem dX12_isDigit_3 : decode cX12_isDigit 3 = .ok (.if_icmp .lt 13, 3) := by decide +kernel
theorem dX12_isDigit_6 : decode cX12_isDigit 6 = .ok (.iload_n 0, 1) := by decide +kernel
theorem dX12_isDigit_7 : decode cX12_isDigit 7 = .ok (.bipush 57, 2) := by decide +kernel
theorem dX12_isDigit_9 : decode cX12_isDigit 9 = .ok (.if_icmp .gt 7, 3) := by decide +kernel
theorem dX12_isDigit_12 : decode cX12_isDigit 12 = .ok (.iconst 1, 1) := by decide +kernel
theorem dX12_isDigit_13 : decode cX12_isDigit 13 = .ok (.goto 4, 3) := by decide +kernel
theorem dX12_isDigit_16 : decode cX12_isDigit 16 = .ok (.iconst 0, 1) := by decide +kernel
theorem dX12_isDigit_17 : decode cX12_isDigit 17 = .ok (.ireturn, 1) := by decide +kernel
theorem dX12_lex_0 : decode cX12_lex 0 = .ok (.aload_n 0, 1) := by decide +kernel
theorem dX12_lex_1 : decode cX12_lex 1 = .ok (.getfield 48, 3) := by decide +kernel
theorem dX12_lex_4 : decode cX12_lex 4 = .ok (.iconst (-1), 1) := by decide +kernel
theorem dX12_lex_5 : decode cX12_lex 5 = .ok (.if_icmp .eq 12, 3) := by decide +kernel
theorem dX12_lex_8 : decode cX12_lex 8 = .ok (.aload_n 0, 1) := by decide +kernel
theorem dX12_lex_9 : decode cX12_lex 9 = .ok (.iconst 1, 1) := by decide +kernel
theorem dX12_lex_10 : decode cX12_lex 10 = .ok (.aload_n 0, 1) := by decide +kernel
theorem dX12_lex_11 : decode cX12_lex 11 = .ok (.getfield 48, 3) := by decide +kernel
theorem dX12_lex_14 : decode cX12_lex 14 = .ok (.invokevirtual 287, 3) := by decide +kernel
theorem dX12_lex_17 : decode cX12_lex 17 = .ok (.return_, 1) := by decide +kernel
theorem dX12_ahead_0 : decode cX12_ahead 0 = .ok (.aload_n 0, 1) := by decide +kernel
theorem dX12_ahead_1 : decode cX12_ahead 1 = .ok (.getfield 26, 3) := by decide +kernel
theorem dX12_ahead_4 : decode cX12_ahead 4 = .ok (.istore_n 1, 1) := by decide +kernel
theorem dX12_ahead_5 : decode cX12_ahead 5 = .ok (.iload_n 1, 1) := by decide +kernel
theorem dX12_ahead_6 : decode cX12_ahead 6 = .ok (.aload_n 0, 1) := by decide +kernel
theorem dX12_ahead_7 : decode cX12_ahead 7 = .ok (.getfield 17, 3) := by decide +kernel
theorem dX12_ahead_10 : decode cX12_ahead 10 = .ok (.if_icmp .ge 31, 3) := by decide +kernel
theorem dX12_ahead_13 : decode cX12_ahead 13 = .ok (.aload_n 0, 1) := by decide +kernel
theorem dX12_ahead_14 : decode cX12_ahead 14 = .ok (.getfield 7, 3) := by decide +kernel
theorem dX12_ahead_17 : decode cX12_ahead 17 = .ok (.iload_n 1, 1) := by decide +kernel
theorem dX12_ahead_18 : decode cX12_ahead 18 = .ok (.iaload, 1) := by decide +kernel
theorem dX12_ahead_19 : decode cX12_ahead 19 = .ok (.bipush 32, 2) := by decide +kernel
theorem dX12_ahead_21 : decode cX12_ahead 21 = .ok (.if_icmp .eq 14, 3) := by decide +kernel
theorem dX12_ahead_24 : decode cX12_ahead 24 = .ok (.aload_n 0, 1) := by decide +kernel
theorem dX12_ahead_25 : decode cX12_ahead 25 = .ok (.getfield 7, 3) := by decide +kernel
theorem dX12_ahead_28 : decode cX12_ahead 28 = .ok (.iload_n 1, 1) := by decide +kernel
theorem dX12_ahead_29 : decode cX12_ahead 29 = .ok (.iaload, 1) := by decide +kernel
theorem dX12_ahead_30 : decode cX12_ahead 30 = .ok (.bipush 10, 2) := by decide +kernel
theorem dX12_ahead_32 : decode cX12_ahead 32 = .ok (.if_icmp .ne 9, 3) := by decide +kernel
theorem dX12_ahead_35 : decode cX12_ahead 35 = .ok (.iinc 1 1, 3) := by decide +kernel
theorem dX12_ahead_38 : decode cX12_ahead 38 = .ok (.goto (-33), 3) := by decide +kernel
theorem dX12_ahead_41 : decode cX12_ahead 41 = .ok (.aload_n 0, 1) := by decide +kernel
theorem dX12_ahead_42 : decode cX12_ahead 42 = .ok (.iload_n 1, 1) := by decide +kernel
theorem dX12_ahead_43 : decode cX12_ahead 43 = .ok (.putfield 23, 3) := by decide +kernel
theorem dX12_ahead_46 : decode cX12_ahead 46 = .ok (.aload_n 0, 1) := by decide +kernel
theorem dX12_ahead_47 : decode cX12_ahead 47 = .ok (.iload_n 1, 1) := by decide +kernel
theorem dX12_ahead_48 : decode cX12_ahead 48 = .ok (.putfield 26, 3) := by decide +kernel
theorem dX12_ahead_51 : decode cX12_ahead 51 = .ok (.aload_n 0, 1) := by decide +kernel
theorem dX12_ahead_52 : decode cX12_ahead 52 = .ok (.iconst 0, 1) := by decide +kernel
theorem dX12_ahead_53 : decode cX12_ahead 53 = .ok (.putfield 20, 3) := by decide +kernel
theorem dX12_ahead_56 : decode cX12_ahead 56 = .ok (.aload_n 0, 1) := by decide +kernel
theorem dX12_ahead_57 : decode cX12_ahead 57 = .ok (.iconst (-1), 1) := by decide +kernel
theorem dX12_ahead_58 : decode cX12_ahead 58 = .ok (.putfield 48, 3) := by decide +kernel
theorem dX12_ahead_61 : decode cX12_ahead 61 = .ok (.iload_n 1, 1) := by decide +kernel
theorem dX12_ahead_62 : decode cX12_ahead 62 = .ok (.aload_n 0, 1) := by decide +kernel
theorem dX12_ahead_63 : decode cX12_ahead 63 = .ok (.getfield 17, 3) := by decide +kernel
theorem dX12_ahead_66 : decode cX12_ahead 66 = .ok (.if_icmp .lt 4, 3) := by decide +kernel
theorem dX12_ahead_69 : decode cX12_ahead 69 = .ok (.return_, 1) := by decide +kernel
theorem dX12_ahead_70 : decode cX12_ahead 70 = .ok (.aload_n 0, 1) := by decide +kernel
theorem dX12_ahead_71 : decode cX12_ahead 71 = .ok (.getfield 7, 3) := by decide +kernel
theorem dX12_ahead_74 : decode cX12_ahead 74 = .ok (.iload_n 1, 1) := by decide +kernel
theorem dX12_ahead_75 : decode cX12_ahead 75 = .ok (.iaload, 1) := by decide +kernel
theorem dX12_ahead_76 : decode cX12_ahead 76 = .ok (.invokestatic 291, 3) := by decide +kernel
theorem dX12_ahead_79 : decode cX12_ahead 79 = .ok (.istore_n 2, 1) := by decide +kernel
theorem dX12_ahead_80 : decode cX12_ahead 80 = .ok (.aload_n 0, 1) := by decide +kernel
theorem dX12_ahead_81 : decode cX12_ahead 81 = .ok (.getfield 7, 3) := by decide +kernel
theorem dX12_ahead_84 : decode cX12_ahead 84 = .ok (.iload_n 1, 1) := by decide +kernel
theorem dX12_ahead_85 : decode cX12_ahead 85 = .ok (.iaload, 1) := by decide +kernel
theorem dX12_ahead_86 : decode cX12_ahead 86 = .ok (.invokestatic 295, 3) := by decide +kernel
theorem dX12_ahead_89 : decode cX12_ahead 89 = .ok (.istore_n 3, 1) := by decide +kernel
theorem dX12_ahead_90 : decode cX12_ahead 90 = .ok (.iload_n 2, 1) := by decide +kernel
theorem dX12_ahead_91 : decode cX12_ahead 91 = .ok (.ifCond .ne 7, 3) := by decide +kernel
theorem dX12_ahead_94 : decode cX12_ahead 94 = .ok (.iload_n 3, 1) := by decide +kernel
theorem dX12_ahead_95 : decode cX12_ahead 95 = .ok (.ifCond .eq 40, 3) := by decide +kernel
theorem dX12_ahead_98 : decode cX12_ahead 98 = .ok (.iload_n 1, 1) := by decide +kernel
theorem dX12_ahead_99 : decode cX12_ahead 99 = .ok (.ifCond .le 36, 3) := by decide +kernel
theorem dX12_ahead_102 : decode cX12_ahead 102 = .ok (.aload_n 0, 1) := by decide +kernel
theorem dX12_ahead_103 : decode cX12_ahead 103 = .ok (.getfield 7, 3) := by decide +kernel
theorem dX12_ahead_106 : decode cX12_ahead 106 = .ok (.iload_n 1, 1) := by decide +kernel
theorem dX12_ahead_107 : decode cX12_ahead 107 = .ok (.iconst 1, 1) := by decide +kernel
theorem dX12_ahead_108 : decode cX12_ahead 108 = .ok (.isub, 1) := by decide +kernel
theorem dX12_ahead_109 : decode cX12_ahead 109 = .ok (.iaload, 1) := by decide +kernel
theorem dX12_ahead_110 : decode cX12_ahead 110 = .ok (.invokestatic 291, 3) := by decide +kernel
theorem dX12_ahead_113 : decode cX12_ahead 113 = .ok (.ifCond .ne 17, 3) := by decide +kernel
theorem dX12_ahead_116 : decode cX12_ahead 116 = .ok (.aload_n 0, 1) := by decide +kernel
theorem dX12_ahead_117 : decode cX12_ahead 117 = .ok (.getfield 7, 3) := by decide +kernel
theorem dX12_ahead_120 : decode cX12_ahead 120 = .ok (.iload_n 1, 1) := by decide +kernel
theorem dX12_ahead_121 : decode cX12_ahead 121 = .ok (.iconst 1, 1) := by decide +kernel
theorem dX12_ahead_122 : decode cX12_ahead 122 = .ok (.isub, 1) := by decide +kernel
theorem dX12_ahead_123 : decode cX12_ahead 123 = .ok (.iaload, 1) := by decide +kernel
theorem dX12_ahead_124 : decode cX12_ahead 124 = .ok (.invokestatic 295, 3) := by decide +kernel
theorem dX12_ahead_127 : decode cX12_ahead 127 = .ok (.ifCond .eq 8, 3) := by decide +kernel
theorem dX12_ahead_130 : decode cX12_ahead 130 = .ok (.aload_n 0, 1) := by decide +kernel
theorem dX12_ahead_131 : decode cX12_ahead 131 = .ok (.iload_n 1, 1) := by decide +kernel
theorem dX12_ahead_132 : decode cX12_ahead 132 = .ok (.putfield 48, 3) := by decide +kernel
theorem dX12_ahead_135 : decode cX12_ahead 135 = .ok (.aload_n 0, 1) := by decide +kernel
theorem dX12_ahead_136 : decode cX12_ahead 136 = .ok (.iconst 0, 1) := by decide +kernel
theorem dX12_ahead_137 : decode cX12_ahead 137 = .ok (.putfield 29, 3) := by decide +kernel
theorem dX12_ahead_140 : decode cX12_ahead 140 = .ok (.aload_n 0, 1) := by decide +kernel
theorem dX12_ahead_141 : decode cX12_ahead 141 = .ok (.lconst 0, 1) := by decide +kernel
theorem dX12_ahead_142 : decode cX12_ahead 142 = .ok (.putfield 32, 3) := by decide +kernel
theorem dX12_ahead_145 : decode cX12_ahead 145 = .ok (.aload_n 0, 1) := by decide +kernel
theorem dX12_ahead_146 : decode cX12_ahead 146 = .ok (.iconst 3, 1) := by decide +kernel
theorem dX12_ahead_147 : decode cX12_ahead 147 = .ok (.putfield 20, 3) := by decide +kernel
theorem dX12_ahead_150 : decode cX12_ahead 150 = .ok (.aload_n 0, 1) := by decide +kernel
theorem dX12_ahead_151 : decode cX12_ahead 151 = .ok (.iload_n 1, 1) := by decide +kernel
theorem dX12_ahead_152 : decode cX12_ahead 152 = .ok (.iconst 1, 1) := by decide +kernel
theorem dX12_ahead_153 : decode cX12_ahead 153 = .ok (.iadd, 1) := by decide +kernel
theorem dX12_ahead_154 : decode cX12_ahead 154 = .ok (.putfield 26, 3) := by decide +kernel
theorem dX12_ahead_157 : decode cX12_ahead 157 = .ok (.iload_n 2, 1) := by decide +kernel
theorem dX12_ahead_158 : decode cX12_ahead 158 = .ok (.ifCond .ne 18, 3) := by decide +kernel
theorem dX12_ahead_161 : decode cX12_ahead 161 = .ok (.iload_n 3, 1) := by decide +kernel
theorem dX12_ahead_162 : decode cX12_ahead 162 = .ok (.ifCond .ne 14, 3) := by decide +kernel
theorem dX12_ahead_165 : decode cX12_ahead 165 = .ok (.aload_n 0, 1) := by decide +kernel
theorem dX12_ahead_166 : decode cX12_ahead 166 = .ok (.aload_n 0, 1) := by decide +kernel
theorem dX12_ahead_167 : decode cX12_ahead 167 = .ok (.getfield 7, 3) := by decide +kernel
theorem dX12_ahead_170 : decode cX12_ahead 170 = .ok (.iload_n 1, 1) := by decide +kernel
theorem dX12_ahead_171 : decode cX12_ahead 171 = .ok (.iaload, 1) := by decide +kernel
theorem dX12_ahead_172 : decode cX12_ahead 172 = .ok (.putfield 29, 3) := by decide +kernel
theorem dX12_ahead_175 : decode cX12_ahead 175 = .ok (.return_, 1) := by decide +kernel
theorem dX12_ahead_176 : decode cX12_ahead 176 = .ok (.aload_n 0, 1) := by decide +kernel
theorem dX12_ahead_177 : decode cX12_ahead 177 = .ok (.iload_n 2, 1) := by decide +kernel
theorem dX12_ahead_178 : decode cX12_ahead 178 = .ok (.ifCond .eq 7, 3) := by decide +kernel
theorem dX12_ahead_181 : decode cX12_ahead 181 = .ok (.iconst 1, 1) := by decide +kernel
theorem dX12_ahead_182 : decode cX12_ahead 182 = .ok (.goto 4, 3) := by decide +kernel
theorem dX12_ahead_185 : decode cX12_ahead 185 = .ok (.iconst 2, 1) := by decide +kernel
theorem dX12_ahead_186 : decode cX12_ahead 186 = .ok (.putfield 20, 3) := by decide +kernel
theorem dX12_ahead_189 : decode cX12_ahead 189 = .ok (.iload_n 2, 1) := by decide +kernel
theorem dX12_ahead_190 : decode cX12_ahead 190 = .ok (.ifCond .eq 8, 3) := by decide +kernel
theorem dX12_ahead_193 : decode cX12_ahead 193 = .ok (.bipush 6, 2) := by decide +kernel
theorem dX12_ahead_195 : decode cX12_ahead 195 = .ok (.goto 4, 3) := by decide +kernel
theorem dX12_ahead_198 : decode cX12_ahead 198 = .ok (.iconst 4, 1) := by decide +kernel
theorem dX12_ahead_199 : decode cX12_ahead 199 = .ok (.istore 4, 2) := by decide +kernel
theorem dX12_ahead_201 : decode cX12_ahead 201 = .ok (.iconst 0, 1) := by decide +kernel
theorem dX12_ahead_202 : decode cX12_ahead 202 = .ok (.istore 5, 2) := by decide +kernel
theorem dX12_ahead_204 : decode cX12_ahead 204 = .ok (.iload_n 1, 1) := by decide +kernel
theorem dX12_ahead_205 : decode cX12_ahead 205 = .ok (.aload_n 0, 1) := by decide +kernel
theorem dX12_ahead_206 : decode cX12_ahead 206 = .ok (.getfield 17, 3) := by decide +kernel
theorem dX12_ahead_209 : decode cX12_ahead 209 = .ok (.if_icmp .ge 125, 3) := by decide +kernel
theorem dX12_ahead_212 : decode cX12_ahead 212 = .ok (.iload_n 2, 1) := by decide +kernel
theorem dX12_ahead_213 : decode cX12_ahead 213 = .ok (.ifCond .eq 18, 3) := by decide +kernel
theorem dX12_ahead_216 : decode cX12_ahead 216 = .ok (.aload_n 0, 1) := by decide +kernel
theorem dX12_ahead_217 : decode cX12_ahead 217 = .ok (.getfield 7, 3) := by decide +kernel
theorem dX12_ahead_220 : decode cX12_ahead 220 = .ok (.iload_n 1, 1) := by decide +kernel
theorem dX12_ahead_221 : decode cX12_ahead 221 = .ok (.iaload, 1) := by decide +kernel
theorem dX12_ahead_222 : decode cX12_ahead 222 = .ok (.invokestatic 291, 3) := by decide +kernel
theorem dX12_ahead_225 : decode cX12_ahead 225 = .ok (.ifCond .eq 109, 3) := by decide +kernel
theorem dX12_ahead_228 : decode cX12_ahead 228 = .ok (.goto 15, 3) := by decide +kernel
theorem dX12_ahead_231 : decode cX12_ahead 231 = .ok (.aload_n 0, 1) := by decide +kernel
theorem dX12_ahead_232 : decode cX12_ahead 232 = .ok (.getfield 7, 3) := by decide +kernel
theorem dX12_ahead_235 : decode cX12_ahead 235 = .ok (.iload_n 1, 1) := by decide +kernel
theorem dX12_ahead_236 : decode cX12_ahead 236 = .ok (.iaload, 1) := by decide +kernel
theorem dX12_ahead_237 : decode cX12_ahead 237 = .ok (.invokestatic 295, 3) := by decide +kernel
theorem dX12_ahead_240 : decode cX12_ahead 240 = .ok (.ifCond .eq 94, 3) := by decide +kernel
theorem dX12_ahead_243 : decode cX12_ahead 243 = .ok (.iload 5, 2) := by decide +kernel
theorem dX12_ahead_245 : decode cX12_ahead 245 = .ok (.iload 4, 2) := by decide +kernel
theorem dX12_ahead_247 : decode cX12_ahead 247 = .ok (.if_icmp .ne 16, 3) := by decide +kernel
theorem dX12_ahead_250 : decode cX12_ahead 250 = .ok (.aload_n 0, 1) := by decide +kernel
theorem dX12_ahead_251 : decode cX12_ahead 251 = .ok (.getfield 48, 3) := by decide +kernel
theorem dX12_ahead_254 : decode cX12_ahead 254 = .ok (.iconst (-1), 1) := by decide +kernel
theorem dX12_ahead_255 : decode cX12_ahead 255 = .ok (.if_icmp .ne 8, 3) := by decide +kernel
theorem dX12_ahead_258 : decode cX12_ahead 258 = .ok (.aload_n 0, 1) := by decide +kernel
theorem dX12_ahead_259 : decode cX12_ahead 259 = .ok (.iload_n 1, 1) := by decide +kernel
theorem dX12_ahead_260 : decode cX12_ahead 260 = .ok (.putfield 48, 3) := by decide +kernel
theorem dX12_ahead_263 : decode cX12_ahead 263 = .ok (.iload 5, 2) := by decide +kernel
theorem dX12_ahead_265 : decode cX12_ahead 265 = .ok (.bipush 8, 2) := by decide +kernel
theorem dX12_ahead_267 : decode cX12_ahead 267 = .ok (.if_icmp .ge 26, 3) := by decide +kernel
theorem dX12_ahead_270 : decode cX12_ahead 270 = .ok (.iload_n 2, 1) := by decide +kernel
theorem dX12_ahead_271 : decode cX12_ahead 271 = .ok (.ifCond .eq 22, 3) := by decide +kernel
theorem dX12_ahead_274 : decode cX12_ahead 274 = .ok (.aload_n 0, 1) := by decide +kernel
theorem dX12_ahead_275 : decode cX12_ahead 275 = .ok (.aload_n 0, 1) := by decide +kernel
theorem dX12_ahead_276 : decode cX12_ahead 276 = .ok (.getfield 32, 3) := by decide +kernel
theorem dX12_ahead_279 : decode cX12_ahead 279 = .ok (.bipush 8, 2) := by decide +kernel
theorem dX12_ahead_281 : decode cX12_ahead 281 = .ok (.lshl, 1) := by decide +kernel
theorem dX12_ahead_282 : decode cX12_ahead 282 = .ok (.aload_n 0, 1) := by decide +kernel
theorem dX12_ahead_283 : decode cX12_ahead 283 = .ok (.getfield 7, 3) := by decide +kernel
theorem dX12_ahead_286 : decode cX12_ahead 286 = .ok (.iload_n 1, 1) := by decide +kernel
theorem dX12_ahead_287 : decode cX12_ahead 287 = .ok (.iaload, 1) := by decide +kernel
theorem dX12_ahead_288 : decode cX12_ahead 288 = .ok (.i2l, 1) := by decide +kernel
theorem dX12_ahead_289 : decode cX12_ahead 289 = .ok (.lor, 1) := by decide +kernel
theorem dX12_ahead_290 : decode cX12_ahead 290 = .ok (.putfield 32, 3) := by decide +kernel
theorem dX12_ahead_293 : decode cX12_ahead 293 = .ok (.iload 5, 2) := by decide +kernel
theorem dX12_ahead_295 : decode cX12_ahead 295 = .ok (.iload 4, 2) := by decide +kernel
theorem dX12_ahead_297 : decode cX12_ahead 297 = .ok (.if_icmp .ge 28, 3) := by decide +kernel
theorem dX12_ahead_300 : decode cX12_ahead 300 = .ok (.iload_n 3, 1) := by decide +kernel
theorem dX12_ahead_301 : decode cX12_ahead 301 = .ok (.ifCond .eq 24, 3) := by decide +kernel
theorem dX12_ahead_304 : decode cX12_ahead 304 = .ok (.aload_n 0, 1) := by decide +kernel
theorem dX12_ahead_305 : decode cX12_ahead 305 = .ok (.bipush 10, 2) := by decide +kernel
theorem dX12_ahead_307 : decode cX12_ahead 307 = .ok (.aload_n 0, 1) := by decide +kernel
theorem dX12_ahead_308 : decode cX12_ahead 308 = .ok (.getfield 29, 3) := by decide +kernel
theorem dX12_ahead_311 : decode cX12_ahead 311 = .ok (.imul, 1) := by decide +kernel
theorem dX12_ahead_312 : decode cX12_ahead 312 = .ok (.aload_n 0, 1) := by decide +kernel
theorem dX12_ahead_313 : decode cX12_ahead 313 = .ok (.getfield 7, 3) := by decide +kernel
theorem dX12_ahead_316 : decode cX12_ahead 316 = .ok (.iload_n 1, 1) := by decide +kernel
theorem dX12_ahead_317 : decode cX12_ahead 317 = .ok (.iaload, 1) := by decide +kernel
theorem dX12_ahead_318 : decode cX12_ahead 318 = .ok (.iadd, 1) := by decide +kernel
theorem dX12_ahead_319 : decode cX12_ahead 319 = .ok (.bipush 48, 2) := by decide +kernel
theorem dX12_ahead_321 : decode cX12_ahead 321 = .ok (.isub, 1) := by decide +kernel
theorem dX12_ahead_322 : decode cX12_ahead 322 = .ok (.putfield 29, 3) := by decide +kernel
theorem dX12_ahead_325 : decode cX12_ahead 325 = .ok (.iinc 5 1, 3) := by decide +kernel
theorem dX12_ahead_328 : decode cX12_ahead 328 = .ok (.iinc 1 1, 3) := by decide +kernel
theorem dX12_ahead_331 : decode cX12_ahead 331 = .ok (.goto (-127), 3) := by decide +kernel
theorem dX12_ahead_334 : decode cX12_ahead 334 = .ok (.aload_n 0, 1) := by decide +kernel
theorem dX12_ahead_335 : decode cX12_ahead 335 = .ok (.iload_n 1, 1) := by decide +kernel
theorem dX12_ahead_336 : decode cX12_ahead 336 = .ok (.putfield 26, 3) := by decide +kernel
theorem dX12_ahead_339 : decode cX12_ahead 339 = .ok (.iload_n 2, 1) := by decide +kernel
theorem dX12_ahead_340 : decode cX12_ahead 340 = .ok (.ifCond .eq 40, 3) := by decide +kernel
theorem dX12_ahead_343 : decode cX12_ahead 343 = .ok (.iload 5, 2) := by decide +kernel
theorem dX12_ahead_345 : decode cX12_ahead 345 = .ok (.bipush 8, 2) := by decide +kernel
theorem dX12_ahead_347 : decode cX12_ahead 347 = .ok (.if_icmp .gt 33, 3) := by decide +kernel
theorem dX12_ahead_350 : decode cX12_ahead 350 = .ok (.aload_n 0, 1) := by decide +kernel
theorem dX12_ahead_351 : decode cX12_ahead 351 = .ok (.getfield 48, 3) := by decide +kernel
theorem dX12_ahead_354 : decode cX12_ahead 354 = .ok (.aload_n 0, 1) := by decide +kernel
theorem dX12_ahead_355 : decode cX12_ahead 355 = .ok (.getfield 23, 3) := by decide +kernel
theorem dX12_ahead_358 : decode cX12_ahead 358 = .ok (.iload 4, 2) := by decide +kernel
theorem dX12_ahead_360 : decode cX12_ahead 360 = .ok (.iadd, 1) := by decide +kernel
theorem dX12_ahead_361 : decode cX12_ahead 361 = .ok (.if_icmp .ne 19, 3) := by decide +kernel
theorem dX12_ahead_364 : decode cX12_ahead 364 = .ok (.aload_n 0, 1) := by decide +kernel
theorem dX12_ahead_365 : decode cX12_ahead 365 = .ok (.aload_n 0, 1) := by decide +kernel
theorem dX12_ahead_366 : decode cX12_ahead 366 = .ok (.getfield 32, 3) := by decide +kernel
theorem dX12_ahead_369 : decode cX12_ahead 369 = .ok (.invokevirtual 298, 3) := by decide +kernel
theorem dX12_ahead_372 : decode cX12_ahead 372 = .ok (.ifCond .eq 8, 3) := by decide +kernel
theorem dX12_ahead_375 : decode cX12_ahead 375 = .ok (.aload_n 0, 1) := by decide +kernel
theorem dX12_ahead_376 : decode cX12_ahead 376 = .ok (.iconst (-1), 1) := by decide +kernel
theorem dX12_ahead_377 : decode cX12_ahead 377 = .ok (.putfield 48, 3) := by decide +kernel
theorem dX12_ahead_380 : decode cX12_ahead 380 = .ok (.return_, 1) := by decide +kernel
theorem dX12_isSign_0 : decode cX12_isSign 0 = .ok (.aload_n 0, 1) := by decide +kernel
theorem dX12_isSign_1 : decode cX12_isSign 1 = .ok (.getfield 20, 3) := by decide +kernel
theorem dX12_isSign_4 : decode cX12_isSign 4 = .ok (.iconst 3, 1) := by decide +kernel
theorem dX12_isSign_5 : decode cX12_isSign 5 = .ok (.if_icmp .ne 15, 3) := by decide +kernel
theorem dX12_isSign_8 : decode cX12_isSign 8 = .ok (.aload_n 0, 1) := by decide +kernel
theorem dX12_isSign_9 : decode cX12_isSign 9 = .ok (.getfield 29, 3) := by decide +kernel
theorem dX12_isSign_12 : decode cX12_isSign 12 = .ok (.iload_n 1, 1) := by decide +kernel
theorem dX12_isSign_13 : decode cX12_isSign 13 = .ok (.if_icmp .ne 7, 3) := by decide +kernel
theorem dX12_isSign_16 : decode cX12_isSign 16 = .ok (.iconst 1, 1) := by decide +kernel
theorem dX12_isSign_17 : decode cX12_isSign 17 = .ok (.goto 4, 3) := by decide +kernel
theorem dX12_isSign_20 : decode cX12_isSign 20 = .ok (.iconst 0, 1) := by decide +kernel
theorem dX12_isSign_21 : decode cX12_isSign 21 = .ok (.ireturn, 1) := by decide +kernel
theorem dX12_isWord_0 : decode cX12_isWord 0 = .ok (.aload_n 0, 1) := by decide +kernel
theorem dX12_isWord_1 : decode cX12_isWord 1 = .ok (.getfield 20, 3) := by decide +kernel
theorem dX12_isWord_4 : decode cX12_isWord 4 = .ok (.iconst 1, 1) := by decide +kernel
theorem dX12_isWord_5 : decode cX12_isWord 5 = .ok (.if_icmp .ne 16, 3) := by decide +kernel
theorem dX12_isWord_8 : decode cX12_isWord 8 = .ok (.aload_n 0, 1) := by decide +kernel
theorem dX12_isWord_9 : decode cX12_isWord 9 = .ok (.getfield 32, 3) := by decide +kernel
theorem dX12_isWord_12 : decode cX12_isWord 12 = .ok (.lload_n 1, 1) := by decide +kernel
theorem dX12_isWord_13 : decode cX12_isWord 13 = .ok (.lcmp, 1) := by decide +kernel
theorem dX12_isWord_14 : decode cX12_isWord 14 = .ok (.ifCond .ne 7, 3) := by decide +kernel
theorem dX12_isWord_17 : decode cX12_isWord 17 = .ok (.iconst 1, 1) := by decide +kernel
theorem dX12_isWord_18 : decode cX12_isWord 18 = .ok (.goto 4, 3) := by decide +kernel
theorem dX12_isWord_21 : decode cX12_isWord 21 = .ok (.iconst 0, 1) := by decide +kernel
theorem dX12_isWord_22 : decode cX12_isWord 22 = .ok (.ireturn, 1) := by decide +kernel
theorem dX12_must_0 : decode cX12_must 0 = .ok (.aload_n 0, 1) := by decide +kernel
theorem dX12_must_1 : decode cX12_must 1 = .ok (.invokevirtual 302, 3) := by decide +kernel
theorem dX12_must_4 : decode cX12_must 4 = .ok (.aload_n 0, 1) := by decide +kernel
theorem dX12_must_5 : decode cX12_must 5 = .ok (.iload_n 1, 1) := by decide +kernel
theorem dX12_must_6 : decode cX12_must 6 = .ok (.invokevirtual 305, 3) := by decide +kernel
theorem dX12_must_9 : decode cX12_must 9 = .ok (.ifCond .ne 12, 3) := by decide +kernel
theorem dX12_must_12 : decode cX12_must 12 = .ok (.aload_n 0, 1) := by decide +kernel
theorem dX12_must_13 : decode cX12_must 13 = .ok (.iconst 1, 1) := by decide +kernel
theorem dX12_must_14 : decode cX12_must 14 = .ok (.aload_n 0, 1) := by decide +kernel
theorem dX12_must_15 : decode cX12_must 15 = .ok (.getfield 23, 3) := by decide +kernel
theorem dX12_must_18 : decode cX12_must 18 = .ok (.invokevirtual 287, 3) := by decide +kernel
theorem dX12_must_21 : decode cX12_must 21 = .ok (.aload_n 0, 1) := by decide +kernel
theorem dX12_must_22 : decode cX12_must 22 = .ok (.getfield 36, 3) := by decide +kernel
theorem dX12_must_25 : decode cX12_must 25 = .ok (.ifCond .ne 7, 3) := by decide +kernel
theorem dX12_must_28 : decode cX12_must 28 = .ok (.aload_n 0, 1) := by decide +kernel
theorem dX12_must_29 : decode cX12_must 29 = .ok (.invokevirtual 308, 3) := by decide +kernel
theorem dX12_must_32 : decode cX12_must 32 = .ok (.return_, 1) := by decide +kernel
theorem dX12_isOwn_0 : decode cX12_isOwn 0 = .ok (.lload_n 1, 1) := by decide +kernel
theorem dX12_isOwn_1 : decode cX12_isOwn 1 = .ok (.ldc2_w 311, 3) := by decide +kernel
theorem dX12_isOwn_4 : decode cX12_isOwn 4 = .ok (.lcmp, 1) := by decide +kernel
theorem dX12_isOwn_5 : decode cX12_isOwn 5 = .ok (.ifCond .eq 35, 3) := by decide +kernel
theorem dX12_isOwn_8 : decode cX12_isOwn 8 = .ok (.lload_n 1, 1) := by decide +kernel
theorem dX12_isOwn_9 : decode cX12_isOwn 9 = .ok (.ldc2_w 313, 3) := by decide +kernel
theorem dX12_isOwn_12 : decode cX12_isOwn 12 = .ok (.lcmp, 1) := by decide +kernel
theorem dX12_isOwn_13 : decode cX12_isOwn 13 = .ok (.ifCond .eq 27, 3) := by decide +kernel
theorem dX12_isOwn_16 : decode cX12_isOwn 16 = .ok (.lload_n 1, 1) := by decide +kernel
theorem dX12_isOwn_17 : decode cX12_isOwn 17 = .ok (.ldc2_w 315, 3) := by decide +kernel
theorem dX12_isOwn_20 : decode cX12_isOwn 20 = .ok (.lcmp, 1) := by decide +kernel
theorem dX12_isOwn_21 : decode cX12_isOwn 21 = .ok (.ifCond .eq 19, 3) := by decide +kernel
theorem dX12_isOwn_24 : decode cX12_isOwn 24 = .ok (.lload_n 1, 1) := by decide +kernel
theorem dX12_isOwn_25 : decode cX12_isOwn 25 = .ok (.ldc2_w 317, 3) := by decide +kernel
theorem dX12_isOwn_28 : decode cX12_isOwn 28 = .ok (.lcmp, 1) := by decide +kernel
theorem dX12_isOwn_29 : decode cX12_isOwn 29 = .ok (.ifCond .eq 11, 3) := by decide +kernel
theorem dX12_isOwn_32 : decode cX12_isOwn 32 = .ok (.lload_n 1, 1) := by decide +kernel
theorem dX12_isOwn_33 : decode cX12_isOwn 33 = .ok (.ldc2_w 319, 3) := by decide +kernel
theorem dX12_isOwn_36 : decode cX12_isOwn 36 = .ok (.lcmp, 1) := by decide +kernel
theorem dX12_isOwn_37 : decode cX12_isOwn 37 = .ok (.ifCond .ne 5, 3) := by decide +kernel
theorem dX12_isOwn_40 : decode cX12_isOwn 40 = .ok (.iconst 1, 1) := by decide +kernel
theorem dX12_isOwn_41 : decode cX12_isOwn 41 = .ok (.ireturn, 1) := by decide +kernel
theorem dX12_isOwn_42 : decode cX12_isOwn 42 = .ok (.lload_n 1, 1) := by decide +kernel
theorem dX12_isOwn_43 : decode cX12_isOwn 43 = .ok (.ldc2_w 321, 3) := by decide +kernel
theorem dX12_isOwn_46 : decode cX12_isOwn 46 = .ok (.lcmp, 1) := by decide +kernel
theorem dX12_isOwn_47 : decode cX12_isOwn 47 = .ok (.ifCond .eq 35, 3) := by decide +kernel
theorem dX12_isOwn_50 : decode cX12_isOwn 50 = .ok (.lload_n 1, 1) := by decide +kernel
theorem dX12_isOwn_51 : decode cX12_isOwn 51 = .ok (.ldc2_w 323, 3) := by decide +kernel
theorem dX12_isOwn_54 : decode cX12_isOwn 54 = .ok (.lcmp, 1) := by decide +kernel
theorem dX12_isOwn_55 : decode cX12_isOwn 55 = .ok (.ifCond .eq 27, 3) := by decide +kernel
theorem dX12_isOwn_58 : decode cX12_isOwn 58 = .ok (.lload_n 1, 1) := by decide +kernel
theorem dX12_isOwn_59 : decode cX12_isOwn 59 = .ok (.ldc2_w 325, 3) := by decide +kernel
theorem dX12_isOwn_62 : decode cX12_isOwn 62 = .ok (.lcmp, 1) := by decide +kernel
theorem dX12_isOwn_63 : decode cX12_isOwn 63 = .ok (.ifCond .eq 19, 3) := by decide +kernel
theorem dX12_isOwn_66 : decode cX12_isOwn 66 = .ok (.lload_n 1, 1) := by decide +kernel
theorem dX12_isOwn_67 : decode cX12_isOwn 67 = .ok (.ldc2_w 327, 3) := by decide +kernel
theorem dX12_isOwn_70 : decode cX12_isOwn 70 = .ok (.lcmp, 1) := by decide +kernel
theorem dX12_isOwn_71 : decode cX12_isOwn 71 = .ok (.ifCond .eq 11, 3) := by decide +kernel
theorem dX12_isOwn_74 : decode cX12_isOwn 74 = .ok (.lload_n 1, 1) := by decide +kernel
theorem dX12_isOwn_75 : decode cX12_isOwn 75 = .ok (.ldc2_w 329, 3) := by decide +kernel
theorem dX12_isOwn_78 : decode cX12_isOwn 78 = .ok (.lcmp, 1) := by decide +kernel
theorem dX12_isOwn_79 : decode cX12_isOwn 79 = .ok (.ifCond .ne 5, 3) := by decide +kernel
theorem dX12_isOwn_82 : decode cX12_isOwn 82 = .ok (.iconst 1, 1) := by decide +kernel
theorem dX12_isOwn_83 : decode cX12_isOwn 83 = .ok (.ireturn, 1) := by decide +kernel
theorem dX12_isOwn_84 : decode cX12_isOwn 84 = .ok (.lload_n 1, 1) := by decide +kernel
theorem dX12_isOwn_85 : decode cX12_isOwn 85 = .ok (.ldc2_w 331, 3) := by decide +kernel
theorem dX12_isOwn_88 : decode cX12_isOwn 88 = .ok (.lcmp, 1) := by decide +kernel
theorem dX12_isOwn_89 : decode cX12_isOwn 89 = .ok (.ifCond .eq 35, 3) := by decide +kernel
theorem dX12_isOwn_92 : decode cX12_isOwn 92 = .ok (.lload_n 1, 1) := by decide +kernel
theorem dX12_isOwn_93 : decode cX12_isOwn 93 = .ok (.ldc2_w 333, 3) := by decide +kernel
theorem dX12_isOwn_96 : decode cX12_isOwn 96 = .ok (.lcmp, 1) := by decide +kernel
theorem dX12_isOwn_97 : decode cX12_isOwn 97 = .ok (.ifCond .eq 27, 3) := by decide +kernel
theorem dX12_isOwn_100 : decode cX12_isOwn 100 = .ok (.lload_n 1, 1) := by decide +kernel
theorem dX12_isOwn_101 : decode cX12_isOwn 101 = .ok (.ldc2_w 335, 3) := by decide +kernel
theorem dX12_isOwn_104 : decode cX12_isOwn 104 = .ok (.lcmp, 1) := by decide +kernel
theorem dX12_isOwn_105 : decode cX12_isOwn 105 = .ok (.ifCond .eq 19, 3) := by decide +kernel
theorem dX12_isOwn_108 : decode cX12_isOwn 108 = .ok (.lload_n 1, 1) := by decide +kernel
theorem dX12_isOwn_109 : decode cX12_isOwn 109 = .ok (.ldc2_w 337, 3) := by decide +kernel
theorem dX12_isOwn_112 : decode cX12_isOwn 112 = .ok (.lcmp, 1) := by decide +kernel
theorem dX12_isOwn_113 : decode cX12_isOwn 113 = .ok (.ifCond .eq 11, 3) := by decide +kernel
theorem dX12_isOwn_116 : decode cX12_isOwn 116 = .ok (.lload_n 1, 1) := by decide +kernel
theorem dX12_isOwn_117 : decode cX12_isOwn 117 = .ok (.ldc2_w 339, 3) := by decide +kernel
theorem dX12_isOwn_120 : decode cX12_isOwn 120 = .ok (.lcmp, 1) := by decide +kernel
theorem dX12_isOwn_121 : decode cX12_isOwn 121 = .ok (.ifCond .ne 5, 3) := by decide +kernel
theorem dX12_isOwn_124 : decode cX12_isOwn 124 = .ok (.iconst 1, 1) := by decide +kernel
theorem dX12_isOwn_125 : decode cX12_isOwn 125 = .ok (.ireturn, 1) := by decide +kernel
theorem dX12_isOwn_126 : decode cX12_isOwn 126 = .ok (.lload_n 1, 1) := by decide +kernel
theorem dX12_isOwn_127 : decode cX12_isOwn 127 = .ok (.ldc2_w 341, 3) := by decide +kernel
theorem dX12_isOwn_130 : decode cX12_isOwn 130 = .ok (.lcmp, 1) := by decide +kernel
theorem dX12_isOwn_131 : decode cX12_isOwn 131 = .ok (.ifCond .eq 35, 3) := by decide +kernel
theorem dX12_isOwn_134 : decode cX12_isOwn 134 = .ok (.lload_n 1, 1) := by decide +kernel
theorem dX12_isOwn_135 : decode cX12_isOwn 135 = .ok (.ldc2_w 343, 3) := by decide +kernel
theorem dX12_isOwn_138 : decode cX12_isOwn 138 = .ok (.lcmp, 1) := by decide +kernel
theorem dX12_isOwn_139 : decode cX12_isOwn 139 = .ok (.ifCond .eq 27, 3) := by decide +kernel
theorem dX12_isOwn_142 : decode cX12_isOwn 142 = .ok (.lload_n 1, 1) := by decide +kernel
theorem dX12_isOwn_143 : decode cX12_isOwn 143 = .ok (.ldc2_w 345, 3) := by decide +kernel
theorem dX12_isOwn_146 : decode cX12_isOwn 146 = .ok (.lcmp, 1) := by decide +kernel
theorem dX12_isOwn_147 : decode cX12_isOwn 147 = .ok (.ifCond .eq 19, 3) := by decide +kernel
theorem dX12_isOwn_150 : decode cX12_isOwn 150 = .ok (.lload_n 1, 1) := by decide +kernel
theorem dX12_isOwn_151 : decode cX12_isOwn 151 = .ok (.ldc2_w 347, 3) := by decide +kernel
theorem dX12_isOwn_154 : decode cX12_isOwn 154 = .ok (.lcmp, 1) := by decide +kernel
theorem dX12_isOwn_155 : decode cX12_isOwn 155 = .ok (.ifCond .eq 11, 3) := by decide +kernel
theorem dX12_isOwn_158 : decode cX12_isOwn 158 = .ok (.lload_n 1, 1) := by decide +kernel
theorem dX12_isOwn_159 : decode cX12_isOwn 159 = .ok (.ldc2_w 349, 3) := by decide +kernel
theorem dX12_isOwn_162 : decode cX12_isOwn 162 = .ok (.lcmp, 1) := by decide +kernel
theorem dX12_isOwn_163 : decode cX12_isOwn 163 = .ok (.ifCond .ne 5, 3) := by decide +kernel
theorem dX12_isOwn_166 : decode cX12_isOwn 166 = .ok (.iconst 1, 1) := by decide +kernel
theorem dX12_isOwn_167 : decode cX12_isOwn 167 = .ok (.ireturn, 1) := by decide +kernel
theorem dX12_isOwn_168 : decode cX12_isOwn 168 = .ok (.lload_n 1, 1) := by decide +kernel
theorem dX12_isOwn_169 : decode cX12_isOwn 169 = .ok (.ldc2_w 351, 3) := by decide +kernel
theorem dX12_isOwn_172 : decode cX12_isOwn 172 = .ok (.lcmp, 1) := by decide +kernel
theorem dX12_isOwn_173 : decode cX12_isOwn 173 = .ok (.ifCond .eq 35, 3) := by decide +kernel
theorem dX12_isOwn_176 : decode cX12_isOwn 176 = .ok (.lload_n 1, 1) := by decide +kernel
theorem dX12_isOwn_177 : decode cX12_isOwn 177 = .ok (.ldc2_w 353, 3) := by decide +kernel
theorem dX12_isOwn_180 : decode cX12_isOwn 180 = .ok (.lcmp, 1) := by decide +kernel
theorem dX12_isOwn_181 : decode cX12_isOwn 181 = .ok (.ifCond .eq 27, 3) := by decide +kernel
theorem dX12_isOwn_184 : decode cX12_isOwn 184 = .ok (.lload_n 1, 1) := by decide +kernel
theorem dX12_isOwn_185 : decode cX12_isOwn 185 = .ok (.ldc2_w 355, 3) := by decide +kernel
theorem dX12_isOwn_188 : decode cX12_isOwn 188 = .ok (.lcmp, 1) := by decide +kernel
theorem dX12_isOwn_189 : decode cX12_isOwn 189 = .ok (.ifCond .eq 19, 3) := by decide +kernel
theorem dX12_isOwn_192 : decode cX12_isOwn 192 = .ok (.lload_n 1, 1) := by decide +kernel
theorem dX12_isOwn_193 : decode cX12_isOwn 193 = .ok (.ldc2_w 357, 3) := by decide +kernel
theorem dX12_isOwn_196 : decode cX12_isOwn 196 = .ok (.lcmp, 1) := by decide +kernel
theorem dX12_isOwn_197 : decode cX12_isOwn 197 = .ok (.ifCond .eq 11, 3) := by decide +kernel
theorem dX12_isOwn_200 : decode cX12_isOwn 200 = .ok (.lload_n 1, 1) := by decide +kernel
theorem dX12_isOwn_201 : decode cX12_isOwn 201 = .ok (.ldc2_w 359, 3) := by decide +kernel
theorem dX12_isOwn_204 : decode cX12_isOwn 204 = .ok (.lcmp, 1) := by decide +kernel
theorem dX12_isOwn_205 : decode cX12_isOwn 205 = .ok (.ifCond .ne 5, 3) := by decide +kernel
theorem dX12_isOwn_208 : decode cX12_isOwn 208 = .ok (.iconst 1, 1) := by decide +kernel
theorem dX12_isOwn_209 : decode cX12_isOwn 209 = .ok (.ireturn, 1) := by decide +kernel
theorem dX12_isOwn_210 : decode cX12_isOwn 210 = .ok (.iconst 0, 1) := by decide +kernel
theorem dX12_isOwn_211 : decode cX12_isOwn 211 = .ok (.ireturn, 1) := by decide +kernel
theorem dX12_manyOf_0 : decode cX12_manyOf 0 = .ok (.iload_n 2, 1) := by decide +kernel
theorem dX12_manyOf_1 : decode cX12_manyOf 1 = .ok (.ifCond .ne 12, 3) := by decide +kernel
theorem dX12_manyOf_4 : decode cX12_manyOf 4 = .ok (.aload_n 0, 1) := by decide +kernel
theorem dX12_manyOf_5 : decode cX12_manyOf 5 = .ok (.getfield 54, 3) := by decide +kernel
theorem dX12_manyOf_8 : decode cX12_manyOf 8 = .ok (.iload_n 1, 1) := by decide +kernel
theorem dX12_manyOf_9 : decode cX12_manyOf 9 = .ok (.iaload, 1) := by decide +kernel
theorem dX12_manyOf_10 : decode cX12_manyOf 10 = .ok (.goto 37, 3) := by decide +kernel
theorem dX12_manyOf_13 : decode cX12_manyOf 13 = .ok (.iload_n 2, 1) := by decide +kernel
theorem dX12_manyOf_14 : decode cX12_manyOf 14 = .ok (.iconst 1, 1) := by decide +kernel
theorem dX12_manyOf_15 : decode cX12_manyOf 15 = .ok (.if_icmp .ne 12, 3) := by decide +kernel
theorem dX12_manyOf_18 : decode cX12_manyOf 18 = .ok (.aload_n 0, 1) := by decide +kernel
theorem dX12_manyOf_19 : decode cX12_manyOf 19 = .ok (.getfield 57, 3) := by decide +kernel
theorem dX12_manyOf_22 : decode cX12_manyOf 22 = .ok (.iload_n 1, 1) := by decide +kernel
theorem dX12_manyOf_23 : decode cX12_manyOf 23 = .ok (.iaload, 1) := by decide +kernel
theorem dX12_manyOf_24 : decode cX12_manyOf 24 = .ok (.goto 23, 3) := by decide +kernel
theorem dX12_manyOf_27 : decode cX12_manyOf 27 = .ok (.iload_n 2, 1) := by decide +kernel
theorem dX12_manyOf_28 : decode cX12_manyOf 28 = .ok (.iconst 2, 1) := by decide +kernel
theorem dX12_manyOf_29 : decode cX12_manyOf 29 = .ok (.if_icmp .ne 12, 3) := by decide +kernel
theorem dX12_manyOf_32 : decode cX12_manyOf 32 = .ok (.aload_n 0, 1) := by decide +kernel
theorem dX12_manyOf_33 : decode cX12_manyOf 33 = .ok (.getfield 75, 3) := by decide +kernel
theorem dX12_manyOf_36 : decode cX12_manyOf 36 = .ok (.iload_n 1, 1) := by decide +kernel
theorem dX12_manyOf_37 : decode cX12_manyOf 37 = .ok (.iaload, 1) := by decide +kernel
theorem dX12_manyOf_38 : decode cX12_manyOf 38 = .ok (.goto 9, 3) := by decide +kernel
theorem dX12_manyOf_41 : decode cX12_manyOf 41 = .ok (.aload_n 0, 1) := by decide +kernel
theorem dX12_manyOf_42 : decode cX12_manyOf 42 = .ok (.getfield 84, 3) := by decide +kernel
theorem dX12_manyOf_45 : decode cX12_manyOf 45 = .ok (.iload_n 1, 1) := by decide +kernel
theorem dX12_manyOf_46 : decode cX12_manyOf 46 = .ok (.iaload, 1) := by decide +kernel
theorem dX12_manyOf_47 : decode cX12_manyOf 47 = .ok (.ireturn, 1) := by decide +kernel
theorem dX12_nameOf_0 : decode cX12_nameOf 0 = .ok (.iload_n 2, 1) := by decide +kernel
theorem dX12_nameOf_1 : decode cX12_nameOf 1 = .ok (.ifCond .ne 16, 3) := by decide +kernel
theorem dX12_nameOf_4 : decode cX12_nameOf 4 = .ok (.aload_n 0, 1) := by decide +kernel
theorem dX12_nameOf_5 : decode cX12_nameOf 5 = .ok (.getfield 117, 3) := by decide +kernel
theorem dX12_nameOf_8 : decode cX12_nameOf 8 = .ok (.iconst 5, 1) := by decide +kernel
theorem dX12_nameOf_9 : decode cX12_nameOf 9 = .ok (.iload_n 1, 1) := by decide +kernel
theorem dX12_nameOf_10 : decode cX12_nameOf 10 = .ok (.imul, 1) := by decide +kernel
theorem dX12_nameOf_11 : decode cX12_nameOf 11 = .ok (.iload_n 3, 1) := by decide +kernel
theorem dX12_nameOf_12 : decode cX12_nameOf 12 = .ok (.iadd, 1) := by decide +kernel
theorem dX12_nameOf_13 : decode cX12_nameOf 13 = .ok (.laload, 1) := by decide +kernel
theorem dX12_nameOf_14 : decode cX12_nameOf 14 = .ok (.goto 51, 3) := by decide +kernel
theorem dX12_nameOf_17 : decode cX12_nameOf 17 = .ok (.iload_n 2, 1) := by decide +kernel
theorem dX12_nameOf_18 : decode cX12_nameOf 18 = .ok (.iconst 1, 1) := by decide +kernel
theorem dX12_nameOf_19 : decode cX12_nameOf 19 = .ok (.if_icmp .ne 17, 3) := by decide +kernel
theorem dX12_nameOf_22 : decode cX12_nameOf 22 = .ok (.aload_n 0, 1) := by decide +kernel
theorem dX12_nameOf_23 : decode cX12_nameOf 23 = .ok (.getfield 121, 3) := by decide +kernel
theorem dX12_nameOf_26 : decode cX12_nameOf 26 = .ok (.bipush 14, 2) := by decide +kernel
theorem dX12_nameOf_28 : decode cX12_nameOf 28 = .ok (.iload_n 1, 1) := by decide +kernel
theorem dX12_nameOf_29 : decode cX12_nameOf 29 = .ok (.imul, 1) := by decide +kernel
theorem dX12_nameOf_30 : decode cX12_nameOf 30 = .ok (.iload_n 3, 1) := by decide +kernel
theorem dX12_nameOf_31 : decode cX12_nameOf 31 = .ok (.iadd, 1) := by decide +kernel
theorem dX12_nameOf_32 : decode cX12_nameOf 32 = .ok (.laload, 1) := by decide +kernel
theorem dX12_nameOf_33 : decode cX12_nameOf 33 = .ok (.goto 32, 3) := by decide +kernel
theorem dX12_nameOf_36 : decode cX12_nameOf 36 = .ok (.iload_n 2, 1) := by decide +kernel
theorem dX12_nameOf_37 : decode cX12_nameOf 37 = .ok (.iconst 2, 1) := by decide +kernel
theorem dX12_nameOf_38 : decode cX12_nameOf 38 = .ok (.if_icmp .ne 17, 3) := by decide +kernel
theorem dX12_nameOf_41 : decode cX12_nameOf 41 = .ok (.aload_n 0, 1) := by decide +kernel
theorem dX12_nameOf_42 : decode cX12_nameOf 42 = .ok (.getfield 124, 3) := by decide +kernel
theorem dX12_nameOf_45 : decode cX12_nameOf 45 = .ok (.bipush 6, 2) := by decide +kernel
theorem dX12_nameOf_47 : decode cX12_nameOf 47 = .ok (.iload_n 1, 1) := by decide +kernel
theorem dX12_nameOf_48 : decode cX12_nameOf 48 = .ok (.imul, 1) := by decide +kernel
theorem dX12_nameOf_49 : decode cX12_nameOf 49 = .ok (.iload_n 3, 1) := by decide +kernel
theorem dX12_nameOf_50 : decode cX12_nameOf 50 = .ok (.iadd, 1) := by decide +kernel
theorem dX12_nameOf_51 : decode cX12_nameOf 51 = .ok (.laload, 1) := by decide +kernel
theorem dX12_nameOf_52 : decode cX12_nameOf 52 = .ok (.goto 13, 3) := by decide +kernel
theorem dX12_nameOf_55 : decode cX12_nameOf 55 = .ok (.aload_n 0, 1) := by decide +kernel
theorem dX12_nameOf_56 : decode cX12_nameOf 56 = .ok (.getfield 127, 3) := by decide +kernel
theorem dX12_nameOf_59 : decode cX12_nameOf 59 = .ok (.iconst 5, 1) := by decide +kernel
theorem dX12_nameOf_60 : decode cX12_nameOf 60 = .ok (.iload_n 1, 1) := by decide +kernel
theorem dX12_nameOf_61 : decode cX12_nameOf 61 = .ok (.imul, 1) := by decide +kernel
theorem dX12_nameOf_62 : decode cX12_nameOf 62 = .ok (.iload_n 3, 1) := by decide +kernel
theorem dX12_nameOf_63 : decode cX12_nameOf 63 = .ok (.iadd, 1) := by decide +kernel
theorem dX12_nameOf_64 : decode cX12_nameOf 64 = .ok (.laload, 1) := by decide +kernel
theorem dX12_nameOf_65 : decode cX12_nameOf 65 = .ok (.lreturn, 1) := by decide +kernel
theorem dX12_named_0 : decode cX12_named 0 = .ok (.iconst 0, 1) := by decide +kernel
theorem dX12_named_1 : decode cX12_named 1 = .ok (.istore 4, 2) := by decide +kernel
theorem dX12_named_3 : decode cX12_named 3 = .ok (.iload 4, 2) := by decide +kernel
theorem dX12_named_5 : decode cX12_named 5 = .ok (.aload_n 0, 1) := by decide +kernel
theorem dX12_named_6 : decode cX12_named 6 = .ok (.aload_n 0, 1) := by decide +kernel
theorem dX12_named_7 : decode cX12_named 7 = .ok (.getfield 133, 3) := by decide +kernel
theorem dX12_named_10 : decode cX12_named 10 = .ok (.iload_n 1, 1) := by decide +kernel
theorem dX12_named_11 : decode cX12_named 11 = .ok (.invokevirtual 361, 3) := by decide +kernel
theorem dX12_named_14 : decode cX12_named 14 = .ok (.if_icmp .ge 28, 3) := by decide +kernel
theorem dX12_named_17 : decode cX12_named 17 = .ok (.aload_n 0, 1) := by decide +kernel
theorem dX12_named_18 : decode cX12_named 18 = .ok (.aload_n 0, 1) := by decide +kernel
theorem dX12_named_19 : decode cX12_named 19 = .ok (.getfield 133, 3) := by decide +kernel
theorem dX12_named_22 : decode cX12_named 22 = .ok (.iload_n 1, 1) := by decide +kernel
theorem dX12_named_23 : decode cX12_named 23 = .ok (.iload 4, 2) := by decide +kernel
theorem dX12_named_25 : decode cX12_named 25 = .ok (.invokevirtual 365, 3) := by decide +kernel
theorem dX12_named_28 : decode cX12_named 28 = .ok (.lload_n 2, 1) := by decide +kernel
theorem dX12_named_29 : decode cX12_named 29 = .ok (.lcmp, 1) := by decide +kernel
theorem dX12_named_30 : decode cX12_named 30 = .ok (.ifCond .ne 6, 3) := by decide +kernel
theorem dX12_named_33 : decode cX12_named 33 = .ok (.iload 4, 2) := by decide +kernel
theorem dX12_named_35 : decode cX12_named 35 = .ok (.ireturn, 1) := by decide +kernel
theorem dX12_named_36 : decode cX12_named 36 = .ok (.iinc 4 1, 3) := by decide +kernel
theorem dX12_named_39 : decode cX12_named 39 = .ok (.goto (-36), 3) := by decide +kernel
theorem dX12_named_42 : decode cX12_named 42 = .ok (.iconst (-1), 1) := by decide +kernel
theorem dX12_named_43 : decode cX12_named 43 = .ok (.ireturn, 1) := by decide +kernel
theorem dX12_number_0 : decode cX12_number 0 = .ok (.aload_n 0, 1) := by decide +kernel
theorem dX12_number_1 : decode cX12_number 1 = .ok (.invokevirtual 302, 3) := by decide +kernel
theorem dX12_number_4 : decode cX12_number 4 = .ok (.aload_n 0, 1) := by decide +kernel
theorem dX12_number_5 : decode cX12_number 5 = .ok (.getfield 36, 3) := by decide +kernel
theorem dX12_number_8 : decode cX12_number 8 = .ok (.ifCond .le 5, 3) := by decide +kernel
theorem dX12_number_11 : decode cX12_number 11 = .ok (.iconst 0, 1) := by decide +kernel
theorem dX12_number_12 : decode cX12_number 12 = .ok (.ireturn, 1) := by decide +kernel
theorem dX12_number_13 : decode cX12_number 13 = .ok (.aload_n 0, 1) := by decide +kernel
theorem dX12_number_14 : decode cX12_number 14 = .ok (.getfield 20, 3) := by decide +kernel
theorem dX12_number_17 : decode cX12_number 17 = .ok (.iconst 2, 1) := by decide +kernel
theorem dX12_number_18 : decode cX12_number 18 = .ok (.if_icmp .eq 12, 3) := by decide +kernel
theorem dX12_number_21 : decode cX12_number 21 = .ok (.aload_n 0, 1) := by decide +kernel
theorem dX12_number_22 : decode cX12_number 22 = .ok (.iconst 1, 1) := by decide +kernel
theorem dX12_number_23 : decode cX12_number 23 = .ok (.aload_n 0, 1) := by decide +kernel
theorem dX12_number_24 : decode cX12_number 24 = .ok (.getfield 23, 3) := by decide +kernel
theorem dX12_number_27 : decode cX12_number 27 = .ok (.invokevirtual 287, 3) := by decide +kernel
theorem dX12_number_30 : decode cX12_number 30 = .ok (.aload_n 0, 1) := by decide +kernel
theorem dX12_number_31 : decode cX12_number 31 = .ok (.getfield 36, 3) := by decide +kernel
theorem dX12_number_34 : decode cX12_number 34 = .ok (.ifCond .ne 24, 3) := by decide +kernel
theorem dX12_number_37 : decode cX12_number 37 = .ok (.aload_n 0, 1) := by decide +kernel
theorem dX12_number_38 : decode cX12_number 38 = .ok (.getfield 29, 3) := by decide +kernel
theorem dX12_number_41 : decode cX12_number 41 = .ok (.iload_n 1, 1) := by decide +kernel
theorem dX12_number_42 : decode cX12_number 42 = .ok (.iload_n 2, 1) := by decide +kernel
theorem dX12_number_43 : decode cX12_number 43 = .ok (.invokestatic 369, 3) := by decide +kernel
theorem dX12_number_46 : decode cX12_number 46 = .ok (.ifCond .ne 12, 3) := by decide +kernel
theorem dX12_number_49 : decode cX12_number 49 = .ok (.aload_n 0, 1) := by decide +kernel
theorem dX12_number_50 : decode cX12_number 50 = .ok (.iconst 4, 1) := by decide +kernel
theorem dX12_number_51 : decode cX12_number 51 = .ok (.aload_n 0, 1) := by decide +kernel
theorem dX12_number_52 : decode cX12_number 52 = .ok (.getfield 23, 3) := by decide +kernel
theorem dX12_number_55 : decode cX12_number 55 = .ok (.invokevirtual 287, 3) := by decide +kernel
theorem dX12_number_58 : decode cX12_number 58 = .ok (.aload_n 0, 1) := by decide +kernel
theorem dX12_number_59 : decode cX12_number 59 = .ok (.getfield 29, 3) := by decide +kernel
theorem dX12_number_62 : decode cX12_number 62 = .ok (.istore_n 3, 1) := by decide +kernel
theorem dX12_number_63 : decode cX12_number 63 = .ok (.aload_n 0, 1) := by decide +kernel
theorem dX12_number_64 : decode cX12_number 64 = .ok (.getfield 36, 3) := by decide +kernel
theorem dX12_number_67 : decode cX12_number 67 = .ok (.ifCond .ne 7, 3) := by decide +kernel
theorem dX12_number_70 : decode cX12_number 70 = .ok (.aload_n 0, 1) := by decide +kernel
theorem dX12_number_71 : decode cX12_number 71 = .ok (.invokevirtual 308, 3) := by decide +kernel
theorem dX12_number_74 : decode cX12_number 74 = .ok (.iload_n 3, 1) := by decide +kernel
theorem dX12_number_75 : decode cX12_number 75 = .ok (.ireturn, 1) := by decide +kernel
theorem dX12_add_0 : decode cX12_add 0 = .ok (.aload_n 0, 1) := by decide +kernel
theorem dX12_add_1 : decode cX12_add 1 = .ok (.getfield 111, 3) := by decide +kernel
theorem dX12_add_4 : decode cX12_add 4 = .ok (.sipush 1600, 3) := by decide +kernel
theorem dX12_add_7 : decode cX12_add 7 = .ok (.aload_n 0, 1) := by decide +kernel
theorem dX12_add_8 : decode cX12_add 8 = .ok (.getfield 133, 3) := by decide +kernel
theorem dX12_add_11 : decode cX12_add 11 = .ok (.imul, 1) := by decide +kernel
theorem dX12_add_12 : decode cX12_add 12 = .ok (.aload_n 0, 1) := by decide +kernel
theorem dX12_add_13 : decode cX12_add 13 = .ok (.getfield 130, 3) := by decide +kernel
theorem dX12_add_16 : decode cX12_add 16 = .ok (.iadd, 1) := by decide +kernel
theorem dX12_add_17 : decode cX12_add 17 = .ok (.iload_n 1, 1) := by decide +kernel
theorem dX12_add_18 : decode cX12_add 18 = .ok (.iastore, 1) := by decide +kernel
theorem dX12_add_19 : decode cX12_add 19 = .ok (.aload_n 0, 1) := by decide +kernel
theorem dX12_add_20 : decode cX12_add 20 = .ok (.getfield 114, 3) := by decide +kernel
theorem dX12_add_23 : decode cX12_add 23 = .ok (.sipush 1600, 3) := by decide +kernel
theorem dX12_add_26 : decode cX12_add 26 = .ok (.aload_n 0, 1) := by decide +kernel
theorem dX12_add_27 : decode cX12_add 27 = .ok (.getfield 133, 3) := by decide +kernel
theorem dX12_add_30 : decode cX12_add 30 = .ok (.imul, 1) := by decide +kernel
theorem dX12_add_31 : decode cX12_add 31 = .ok (.aload_n 0, 1) := by decide +kernel
theorem dX12_add_32 : decode cX12_add 32 = .ok (.getfield 130, 3) := by decide +kernel
theorem dX12_add_35 : decode cX12_add 35 = .ok (.iadd, 1) := by decide +kernel
theorem dX12_add_36 : decode cX12_add 36 = .ok (.iload_n 2, 1) := by decide +kernel
theorem dX12_add_37 : decode cX12_add 37 = .ok (.iastore, 1) := by decide +kernel
theorem dX12_add_38 : decode cX12_add 38 = .ok (.aload_n 0, 1) := by decide +kernel
theorem dX12_add_39 : decode cX12_add 39 = .ok (.dup, 1) := by decide +kernel
theorem dX12_add_40 : decode cX12_add 40 = .ok (.getfield 130, 3) := by decide +kernel
theorem dX12_add_43 : decode cX12_add 43 = .ok (.iconst 1, 1) := by decide +kernel
theorem dX12_add_44 : decode cX12_add 44 = .ok (.iadd, 1) := by decide +kernel
theorem dX12_add_45 : decode cX12_add 45 = .ok (.putfield 130, 3) := by decide +kernel
theorem dX12_add_48 : decode cX12_add 48 = .ok (.return_, 1) := by decide +kernel
theorem dX12_rank_0 : decode cX12_rank 0 = .ok (.iload_n 0, 1) := by decide +kernel
theorem dX12_rank_1 : decode cX12_rank 1 = .ok (.bipush 21, 2) := by decide +kernel
theorem dX12_rank_3 : decode cX12_rank 3 = .ok (.if_icmp .ne 7, 3) := by decide +kernel
theorem dX12_rank_6 : decode cX12_rank 6 = .ok (.iconst 1, 1) := by decide +kernel
theorem dX12_rank_7 : decode cX12_rank 7 = .ok (.goto 63, 3) := by decide +kernel
theorem dX12_rank_10 : decode cX12_rank 10 = .ok (.iload_n 0, 1) := by decide +kernel
theorem dX12_rank_11 : decode cX12_rank 11 = .ok (.bipush 20, 2) := by decide +kernel
theorem dX12_rank_13 : decode cX12_rank 13 = .ok (.if_icmp .ne 7, 3) := by decide +kernel
theorem dX12_rank_16 : decode cX12_rank 16 = .ok (.iconst 2, 1) := by decide +kernel
theorem dX12_rank_17 : decode cX12_rank 17 = .ok (.goto 53, 3) := by decide +kernel
theorem dX12_rank_20 : decode cX12_rank 20 = .ok (.iload_n 0, 1) := by decide +kernel
theorem dX12_rank_21 : decode cX12_rank 21 = .ok (.bipush 22, 2) := by decide +kernel
theorem dX12_rank_23 : decode cX12_rank 23 = .ok (.if_icmp .ne 7, 3) := by decide +kernel
theorem dX12_rank_26 : decode cX12_rank 26 = .ok (.iconst 3, 1) := by decide +kernel
theorem dX12_rank_27 : decode cX12_rank 27 = .ok (.goto 43, 3) := by decide +kernel
theorem dX12_rank_30 : decode cX12_rank 30 = .ok (.iload_n 0, 1) := by decide +kernel
theorem dX12_rank_31 : decode cX12_rank 31 = .ok (.bipush 17, 2) := by decide +kernel
theorem dX12_rank_33 : decode cX12_rank 33 = .ok (.if_icmp .eq 15, 3) := by decide +kernel
theorem dX12_rank_36 : decode cX12_rank 36 = .ok (.iload_n 0, 1) := by decide +kernel
theorem dX12_rank_37 : decode cX12_rank 37 = .ok (.bipush 18, 2) := by decide +kernel
theorem dX12_rank_39 : decode cX12_rank 39 = .ok (.if_icmp .eq 9, 3) := by decide +kernel
theorem dX12_rank_42 : decode cX12_rank 42 = .ok (.iload_n 0, 1) := by decide +kernel
theorem dX12_rank_43 : decode cX12_rank 43 = .ok (.bipush 19, 2) := by decide +kernel
theorem dX12_rank_45 : decode cX12_rank 45 = .ok (.if_icmp .ne 7, 3) := by decide +kernel
theorem dX12_rank_48 : decode cX12_rank 48 = .ok (.iconst 4, 1) := by decide +kernel
theorem dX12_rank_49 : decode cX12_rank 49 = .ok (.goto 21, 3) := by decide +kernel
theorem dX12_rank_52 : decode cX12_rank 52 = .ok (.iload_n 0, 1) := by decide +kernel
theorem dX12_rank_53 : decode cX12_rank 53 = .ok (.bipush 10, 2) := by decide +kernel
theorem dX12_rank_55 : decode cX12_rank 55 = .ok (.if_icmp .eq 9, 3) := by decide +kernel
theorem dX12_rank_58 : decode cX12_rank 58 = .ok (.iload_n 0, 1) := by decide +kernel
theorem dX12_rank_59 : decode cX12_rank 59 = .ok (.bipush 11, 2) := by decide +kernel
theorem dX12_rank_61 : decode cX12_rank 61 = .ok (.if_icmp .ne 7, 3) := by decide +kernel
theorem dX12_rank_64 : decode cX12_rank 64 = .ok (.iconst 5, 1) := by decide +kernel
theorem dX12_rank_65 : decode cX12_rank 65 = .ok (.goto 5, 3) := by decide +kernel
theorem dX12_rank_68 : decode cX12_rank 68 = .ok (.bipush 6, 2) := by decide +kernel
theorem dX12_rank_70 : decode cX12_rank 70 = .ok (.ireturn, 1) := by decide +kernel
theorem dX12_joins_0 : decode cX12_joins 0 = .ok (.aload_n 0, 1) := by decide +kernel
theorem dX12_joins_1 : decode cX12_joins 1 = .ok (.getfield 161, 3) := by decide +kernel
theorem dX12_joins_4 : decode cX12_joins 4 = .ok (.aload_n 0, 1) := by decide +kernel
theorem dX12_joins_5 : decode cX12_joins 5 = .ok (.getfield 149, 3) := by decide +kernel
theorem dX12_joins_8 : decode cX12_joins 8 = .ok (.aload_n 0, 1) := by decide +kernel
theorem dX12_joins_9 : decode cX12_joins 9 = .ok (.getfield 152, 3) := by decide +kernel
theorem dX12_joins_12 : decode cX12_joins 12 = .ok (.iconst 1, 1) := by decide +kernel
theorem dX12_joins_13 : decode cX12_joins 13 = .ok (.isub, 1) := by decide +kernel
theorem dX12_joins_14 : decode cX12_joins 14 = .ok (.iaload, 1) := by decide +kernel
theorem dX12_joins_15 : decode cX12_joins 15 = .ok (.if_icmp .le 72, 3) := by decide +kernel
theorem dX12_joins_18 : decode cX12_joins 18 = .ok (.aload_n 0, 1) := by decide +kernel
theorem dX12_joins_19 : decode cX12_joins 19 = .ok (.getfield 158, 3) := by decide +kernel
theorem dX12_joins_22 : decode cX12_joins 22 = .ok (.aload_n 0, 1) := by decide +kernel
theorem dX12_joins_23 : decode cX12_joins 23 = .ok (.getfield 161, 3) := by decide +kernel
theorem dX12_joins_26 : decode cX12_joins 26 = .ok (.iconst 1, 1) := by decide +kernel
theorem dX12_joins_27 : decode cX12_joins 27 = .ok (.isub, 1) := by decide +kernel
theorem dX12_joins_28 : decode cX12_joins 28 = .ok (.iaload, 1) := by decide +kernel
theorem dX12_joins_29 : decode cX12_joins 29 = .ok (.invokestatic 373, 3) := by decide +kernel
theorem dX12_joins_32 : decode cX12_joins 32 = .ok (.iload_n 1, 1) := by decide +kernel
theorem dX12_joins_33 : decode cX12_joins 33 = .ok (.if_icmp .lt 54, 3) := by decide +kernel
theorem dX12_joins_36 : decode cX12_joins 36 = .ok (.aload_n 0, 1) := by decide +kernel
theorem dX12_joins_37 : decode cX12_joins 37 = .ok (.dup, 1) := by decide +kernel
theorem dX12_joins_38 : decode cX12_joins 38 = .ok (.getfield 161, 3) := by decide +kernel
theorem dX12_joins_41 : decode cX12_joins 41 = .ok (.iconst 1, 1) := by decide +kernel
theorem dX12_joins_42 : decode cX12_joins 42 = .ok (.isub, 1) := by decide +kernel
theorem dX12_joins_43 : decode cX12_joins 43 = .ok (.putfield 161, 3) := by decide +kernel
theorem dX12_joins_46 : decode cX12_joins 46 = .ok (.aload_n 0, 1) := by decide +kernel
theorem dX12_joins_47 : decode cX12_joins 47 = .ok (.aload_n 0, 1) := by decide +kernel
theorem dX12_joins_48 : decode cX12_joins 48 = .ok (.getfield 158, 3) := by decide +kernel
theorem dX12_joins_51 : decode cX12_joins 51 = .ok (.aload_n 0, 1) := by decide +kernel
theorem dX12_joins_52 : decode cX12_joins 52 = .ok (.getfield 161, 3) := by decide +kernel
theorem dX12_joins_55 : decode cX12_joins 55 = .ok (.iaload, 1) := by decide +kernel
theorem dX12_joins_56 : decode cX12_joins 56 = .ok (.iconst 0, 1) := by decide +kernel
theorem dX12_joins_57 : decode cX12_joins 57 = .ok (.invokevirtual 376, 3) := by decide +kernel
theorem dX12_joins_60 : decode cX12_joins 60 = .ok (.aload_n 0, 1) := by decide +kernel
theorem dX12_joins_61 : decode cX12_joins 61 = .ok (.getfield 158, 3) := by decide +kernel
theorem dX12_joins_64 : decode cX12_joins 64 = .ok (.aload_n 0, 1) := by decide +kernel
theorem dX12_joins_65 : decode cX12_joins 65 = .ok (.getfield 161, 3) := by decide +kernel
theorem dX12_joins_68 : decode cX12_joins 68 = .ok (.iaload, 1) := by decide +kernel
theorem dX12_joins_69 : decode cX12_joins 69 = .ok (.bipush 22, 2) := by decide +kernel
theorem dX12_joins_71 : decode cX12_joins 71 = .ok (.if_icmp .ne (-71), 3) := by decide +kernel
theorem dX12_joins_74 : decode cX12_joins 74 = .ok (.aload_n 0, 1) := by decide +kernel
theorem dX12_joins_75 : decode cX12_joins 75 = .ok (.dup, 1) := by decide +kernel
theorem dX12_joins_76 : decode cX12_joins 76 = .ok (.getfield 155, 3) := by decide +kernel
theorem dX12_joins_79 : decode cX12_joins 79 = .ok (.iconst 1, 1) := by decide +kernel
theorem dX12_joins_80 : decode cX12_joins 80 = .ok (.isub, 1) := by decide +kernel
theorem dX12_joins_81 : decode cX12_joins 81 = .ok (.putfield 155, 3) := by decide +kernel
theorem dX12_joins_84 : decode cX12_joins 84 = .ok (.goto (-84), 3) := by decide +kernel
theorem dX12_joins_87 : decode cX12_joins 87 = .ok (.return_, 1) := by decide +kernel
theorem dX12_holdsBack_0 : decode cX12_holdsBack 0 = .ok (.aload_n 0, 1) := by decide +kernel
theorem dX12_holdsBack_1 : decode cX12_holdsBack 1 = .ok (.getfield 158, 3) := by decide +kernel
theorem dX12_holdsBack_4 : decode cX12_holdsBack 4 = .ok (.aload_n 0, 1) := by decide +kernel
theorem dX12_holdsBack_5 : decode cX12_holdsBack 5 = .ok (.getfield 161, 3) := by decide +kernel
theorem dX12_holdsBack_8 : decode cX12_holdsBack 8 = .ok (.iload_n 1, 1) := by decide +kernel
theorem dX12_holdsBack_9 : decode cX12_holdsBack 9 = .ok (.iastore, 1) := by decide +kernel
theorem dX12_holdsBack_10 : decode cX12_holdsBack 10 = .ok (.aload_n 0, 1) := by decide +kernel
theorem dX12_holdsBack_11 : decode cX12_holdsBack 11 = .ok (.dup, 1) := by decide +kernel
theorem dX12_holdsBack_12 : decode cX12_holdsBack 12 = .ok (.getfield 161, 3) := by decide +kernel
theorem dX12_holdsBack_15 : decode cX12_holdsBack 15 = .ok (.iconst 1, 1) := by decide +kernel
theorem dX12_holdsBack_16 : decode cX12_holdsBack 16 = .ok (.iadd, 1) := by decide +kernel
theorem dX12_holdsBack_17 : decode cX12_holdsBack 17 = .ok (.putfield 161, 3) := by decide +kernel
theorem dX12_holdsBack_20 : decode cX12_holdsBack 20 = .ok (.return_, 1) := by decide +kernel
theorem dX12_pushes_0 : decode cX12_pushes 0 = .ok (.aload_n 0, 1) := by decide +kernel
theorem dX12_pushes_1 : decode cX12_pushes 1 = .ok (.getfield 136, 3) := by decide +kernel
theorem dX12_pushes_4 : decode cX12_pushes 4 = .ok (.aload_n 0, 1) := by decide +kernel
theorem dX12_pushes_5 : decode cX12_pushes 5 = .ok (.getfield 152, 3) := by decide +kernel
theorem dX12_pushes_8 : decode cX12_pushes 8 = .ok (.iload_n 1, 1) := by decide +kernel
theorem dX12_pushes_9 : decode cX12_pushes 9 = .ok (.iastore, 1) := by decide +kernel
theorem dX12_pushes_10 : decode cX12_pushes 10 = .ok (.aload_n 0, 1) := by decide +kernel
theorem dX12_pushes_11 : decode cX12_pushes 11 = .ok (.getfield 139, 3) := by decide +kernel
theorem dX12_pushes_14 : decode cX12_pushes 14 = .ok (.aload_n 0, 1) := by decide +kernel
theorem dX12_pushes_15 : decode cX12_pushes 15 = .ok (.getfield 152, 3) := by decide +kernel
theorem dX12_pushes_18 : decode cX12_pushes 18 = .ok (.iconst 0, 1) := by decide +kernel
theorem dX12_pushes_19 : decode cX12_pushes 19 = .ok (.iastore, 1) := by decide +kernel
theorem dX12_pushes_20 : decode cX12_pushes 20 = .ok (.aload_n 0, 1) := by decide +kernel
theorem dX12_pushes_21 : decode cX12_pushes 21 = .ok (.getfield 142, 3) := by decide +kernel
theorem dX12_pushes_24 : decode cX12_pushes 24 = .ok (.aload_n 0, 1) := by decide +kernel
theorem dX12_pushes_25 : decode cX12_pushes 25 = .ok (.getfield 152, 3) := by decide +kernel
theorem dX12_pushes_28 : decode cX12_pushes 28 = .ok (.iconst 1, 1) := by decide +kernel
theorem dX12_pushes_29 : decode cX12_pushes 29 = .ok (.bastore, 1) := by decide +kernel
theorem dX12_pushes_30 : decode cX12_pushes 30 = .ok (.aload_n 0, 1) := by decide +kernel
theorem dX12_pushes_31 : decode cX12_pushes 31 = .ok (.getfield 149, 3) := by decide +kernel
theorem dX12_pushes_34 : decode cX12_pushes 34 = .ok (.aload_n 0, 1) := by decide +kernel
theorem dX12_pushes_35 : decode cX12_pushes 35 = .ok (.getfield 152, 3) := by decide +kernel
theorem dX12_pushes_38 : decode cX12_pushes 38 = .ok (.aload_n 0, 1) := by decide +kernel
theorem dX12_pushes_39 : decode cX12_pushes 39 = .ok (.getfield 161, 3) := by decide +kernel
theorem dX12_pushes_42 : decode cX12_pushes 42 = .ok (.iastore, 1) := by decide +kernel
theorem dX12_pushes_43 : decode cX12_pushes 43 = .ok (.aload_n 0, 1) := by decide +kernel
theorem dX12_pushes_44 : decode cX12_pushes 44 = .ok (.dup, 1) := by decide +kernel
theorem dX12_pushes_45 : decode cX12_pushes 45 = .ok (.getfield 152, 3) := by decide +kernel
theorem dX12_pushes_48 : decode cX12_pushes 48 = .ok (.iconst 1, 1) := by decide +kernel
theorem dX12_pushes_49 : decode cX12_pushes 49 = .ok (.iadd, 1) := by decide +kernel
theorem dX12_pushes_50 : decode cX12_pushes 50 = .ok (.putfield 152, 3) := by decide +kernel
theorem dX12_pushes_53 : decode cX12_pushes 53 = .ok (.return_, 1) := by decide +kernel
theorem dX12_opens_0 : decode cX12_opens 0 = .ok (.aload_n 0, 1) := by decide +kernel
theorem dX12_opens_1 : decode cX12_opens 1 = .ok (.getfield 155, 3) := by decide +kernel
theorem dX12_opens_4 : decode cX12_opens 4 = .ok (.bipush 7, 2) := by decide +kernel
theorem dX12_opens_6 : decode cX12_opens 6 = .ok (.if_icmp .ne 12, 3) := by decide +kernel
theorem dX12_opens_9 : decode cX12_opens 9 = .ok (.aload_n 0, 1) := by decide +kernel
theorem dX12_opens_10 : decode cX12_opens 10 = .ok (.iconst 5, 1) := by decide +kernel
theorem dX12_opens_11 : decode cX12_opens 11 = .ok (.aload_n 0, 1) := by decide +kernel
theorem dX12_opens_12 : decode cX12_opens 12 = .ok (.getfield 23, 3) := by decide +kernel
theorem dX12_opens_15 : decode cX12_opens 15 = .ok (.invokevirtual 287, 3) := by decide +kernel
theorem dX12_opens_18 : decode cX12_opens 18 = .ok (.aload_n 0, 1) := by decide +kernel
theorem dX12_opens_19 : decode cX12_opens 19 = .ok (.getfield 36, 3) := by decide +kernel
theorem dX12_opens_22 : decode cX12_opens 22 = .ok (.ifCond .le 4, 3) := by decide +kernel
theorem dX12_opens_25 : decode cX12_opens 25 = .ok (.return_, 1) := by decide +kernel
theorem dX12_opens_26 : decode cX12_opens 26 = .ok (.aload_n 0, 1) := by decide +kernel
theorem dX12_opens_27 : decode cX12_opens 27 = .ok (.dup, 1) := by decide +kernel
theorem dX12_opens_28 : decode cX12_opens 28 = .ok (.getfield 155, 3) := by decide +kernel
theorem dX12_opens_31 : decode cX12_opens 31 = .ok (.iconst 1, 1) := by decide +kernel
theorem dX12_opens_32 : decode cX12_opens 32 = .ok (.iadd, 1) := by decide +kernel
theorem dX12_opens_33 : decode cX12_opens 33 = .ok (.putfield 155, 3) := by decide +kernel
theorem dX12_opens_36 : decode cX12_opens 36 = .ok (.aload_n 0, 1) := by decide +kernel
theorem dX12_opens_37 : decode cX12_opens 37 = .ok (.invokevirtual 308, 3) := by decide +kernel
theorem dX12_opens_40 : decode cX12_opens 40 = .ok (.aload_n 0, 1) := by decide +kernel
theorem dX12_opens_41 : decode cX12_opens 41 = .ok (.iload_n 1, 1) := by decide +kernel
theorem dX12_opens_42 : decode cX12_opens 42 = .ok (.invokevirtual 379, 3) := by decide +kernel
theorem dX12_opens_45 : decode cX12_opens 45 = .ok (.return_, 1) := by decide +kernel
theorem dX12_isTest_0 : decode cX12_isTest 0 = .ok (.iload_n 0, 1) := by decide +kernel
theorem dX12_isTest_1 : decode cX12_isTest 1 = .ok (.iconst 1, 1) := by decide +kernel
theorem dX12_isTest_2 : decode cX12_isTest 2 = .ok (.if_icmp .eq 8, 3) := by decide +kernel
theorem dX12_isTest_5 : decode cX12_isTest 5 = .ok (.iload_n 0, 1) := by decide +kernel
theorem dX12_isTest_6 : decode cX12_isTest 6 = .ok (.iconst 5, 1) := by decide +kernel
theorem dX12_isTest_7 : decode cX12_isTest 7 = .ok (.if_icmp .ne 7, 3) := by decide +kernel
theorem dX12_isTest_10 : decode cX12_isTest 10 = .ok (.iconst 1, 1) := by decide +kernel
theorem dX12_isTest_11 : decode cX12_isTest 11 = .ok (.goto 4, 3) := by decide +kernel
theorem dX12_isTest_14 : decode cX12_isTest 14 = .ok (.iconst 0, 1) := by decide +kernel
theorem dX12_isTest_15 : decode cX12_isTest 15 = .ok (.ireturn, 1) := by decide +kernel
theorem dX12_operand_0 : decode cX12_operand 0 = .ok (.aload_n 0, 1) := by decide +kernel
theorem dX12_operand_1 : decode cX12_operand 1 = .ok (.invokevirtual 302, 3) := by decide +kernel
theorem dX12_operand_4 : decode cX12_operand 4 = .ok (.aload_n 0, 1) := by decide +kernel
theorem dX12_operand_5 : decode cX12_operand 5 = .ok (.getfield 36, 3) := by decide +kernel
theorem dX12_operand_8 : decode cX12_operand 8 = .ok (.ifCond .le 5, 3) := by decide +kernel
theorem dX12_operand_11 : decode cX12_operand 11 = .ok (.iconst 1, 1) := by decide +kernel
theorem dX12_operand_12 : decode cX12_operand 12 = .ok (.ireturn, 1) := by decide +kernel
theorem dX12_operand_13 : decode cX12_operand 13 = .ok (.aload_n 0, 1) := by decide +kernel
theorem dX12_operand_14 : decode cX12_operand 14 = .ok (.getfield 152, 3) := by decide +kernel
theorem dX12_operand_17 : decode cX12_operand 17 = .ok (.iconst 1, 1) := by decide +kernel
theorem dX12_operand_18 : decode cX12_operand 18 = .ok (.isub, 1) := by decide +kernel
theorem dX12_operand_19 : decode cX12_operand 19 = .ok (.istore_n 1, 1) := by decide +kernel
theorem dX12_operand_20 : decode cX12_operand 20 = .ok (.aload_n 0, 1) := by decide +kernel
theorem dX12_operand_21 : decode cX12_operand 21 = .ok (.getfield 136, 3) := by decide +kernel
theorem dX12_operand_24 : decode cX12_operand 24 = .ok (.iload_n 1, 1) := by decide +kernel
theorem dX12_operand_25 : decode cX12_operand 25 = .ok (.iaload, 1) := by decide +kernel
theorem dX12_operand_26 : decode cX12_operand 26 = .ok (.invokestatic 382, 3) := by decide +kernel
theorem dX12_operand_29 : decode cX12_operand 29 = .ok (.ifCond .eq 16, 3) := by decide +kernel
theorem dX12_operand_32 : decode cX12_operand 32 = .ok (.aload_n 0, 1) := by decide +kernel
theorem dX12_operand_33 : decode cX12_operand 33 = .ok (.getfield 142, 3) := by decide +kernel
theorem dX12_operand_36 : decode cX12_operand 36 = .ok (.iload_n 1, 1) := by decide +kernel
theorem dX12_operand_37 : decode cX12_operand 37 = .ok (.baload, 1) := by decide +kernel
theorem dX12_operand_38 : decode cX12_operand 38 = .ok (.ifCond .eq 7, 3) := by decide +kernel
theorem dX12_operand_41 : decode cX12_operand 41 = .ok (.iconst 1, 1) := by decide +kernel
theorem dX12_operand_42 : decode cX12_operand 42 = .ok (.goto 4, 3) := by decide +kernel
theorem dX12_operand_45 : decode cX12_operand 45 = .ok (.iconst 0, 1) := by decide +kernel
theorem dX12_operand_46 : decode cX12_operand 46 = .ok (.istore_n 2, 1) := by decide +kernel
theorem dX12_operand_47 : decode cX12_operand 47 = .ok (.iload_n 2, 1) := by decide +kernel
theorem dX12_operand_48 : decode cX12_operand 48 = .ok (.ifCond .eq 62, 3) := by decide +kernel
theorem dX12_operand_51 : decode cX12_operand 51 = .ok (.aload_n 0, 1) := by decide +kernel
theorem dX12_operand_52 : decode cX12_operand 52 = .ok (.ldc2_w 353, 3) := by decide +kernel
theorem dX12_operand_55 : decode cX12_operand 55 = .ok (.invokevirtual 385, 3) := by decide +kernel
theorem dX12_operand_58 : decode cX12_operand 58 = .ok (.ifCond .eq 52, 3) := by decide +kernel
theorem dX12_operand_61 : decode cX12_operand 61 = .ok (.aload_n 0, 1) := by decide +kernel
theorem dX12_operand_62 : decode cX12_operand 62 = .ok (.getfield 155, 3) := by decide +kernel
theorem dX12_operand_65 : decode cX12_operand 65 = .ok (.bipush 7, 2) := by decide +kernel
theorem dX12_operand_67 : decode cX12_operand 67 = .ok (.if_icmp .ne 12, 3) := by decide +kernel
theorem dX12_operand_70 : decode cX12_operand 70 = .ok (.aload_n 0, 1) := by decide +kernel
theorem dX12_operand_71 : decode cX12_operand 71 = .ok (.iconst 5, 1) := by decide +kernel
theorem dX12_operand_72 : decode cX12_operand 72 = .ok (.aload_n 0, 1) := by decide +kernel
theorem dX12_operand_73 : decode cX12_operand 73 = .ok (.getfield 23, 3) := by decide +kernel
theorem dX12_operand_76 : decode cX12_operand 76 = .ok (.invokevirtual 287, 3) := by decide +kernel
theorem dX12_operand_79 : decode cX12_operand 79 = .ok (.aload_n 0, 1) := by decide +kernel
theorem dX12_operand_80 : decode cX12_operand 80 = .ok (.getfield 36, 3) := by decide +kernel
theorem dX12_operand_83 : decode cX12_operand 83 = .ok (.ifCond .le 5, 3) := by decide +kernel
theorem dX12_operand_86 : decode cX12_operand 86 = .ok (.iconst 1, 1) := by decide +kernel
theorem dX12_operand_87 : decode cX12_operand 87 = .ok (.ireturn, 1) := by decide +kernel
theorem dX12_operand_88 : decode cX12_operand 88 = .ok (.aload_n 0, 1) := by decide +kernel
theorem dX12_operand_89 : decode cX12_operand 89 = .ok (.dup, 1) := by decide +kernel
theorem dX12_operand_90 : decode cX12_operand 90 = .ok (.getfield 155, 3) := by decide +kernel
theorem dX12_operand_93 : decode cX12_operand 93 = .ok (.iconst 1, 1) := by decide +kernel
theorem dX12_operand_94 : decode cX12_operand 94 = .ok (.iadd, 1) := by decide +kernel
theorem dX12_operand_95 : decode cX12_operand 95 = .ok (.putfield 155, 3) := by decide +kernel
theorem dX12_operand_98 : decode cX12_operand 98 = .ok (.aload_n 0, 1) := by decide +kernel
theorem dX12_operand_99 : decode cX12_operand 99 = .ok (.bipush 22, 2) := by decide +kernel
theorem dX12_operand_101 : decode cX12_operand 101 = .ok (.invokevirtual 388, 3) := by decide +kernel
theorem dX12_operand_104 : decode cX12_operand 104 = .ok (.aload_n 0, 1) := by decide +kernel
theorem dX12_operand_105 : decode cX12_operand 105 = .ok (.invokevirtual 308, 3) := by decide +kernel
theorem dX12_operand_108 : decode cX12_operand 108 = .ok (.iconst 0, 1) := by decide +kernel
theorem dX12_operand_109 : decode cX12_operand 109 = .ok (.ireturn, 1) := by decide +kernel
theorem dX12_operand_110 : decode cX12_operand 110 = .ok (.aload_n 0, 1) := by decide +kernel
theorem dX12_operand_111 : decode cX12_operand 111 = .ok (.getfield 142, 3) := by decide +kernel
theorem dX12_operand_114 : decode cX12_operand 114 = .ok (.iload_n 1, 1) := by decide +kernel
theorem dX12_operand_115 : decode cX12_operand 115 = .ok (.iconst 0, 1) := by decide +kernel
theorem dX12_operand_116 : decode cX12_operand 116 = .ok (.bastore, 1) := by decide +kernel
theorem dX12_operand_117 : decode cX12_operand 117 = .ok (.iload_n 2, 1) := by decide +kernel
theorem dX12_operand_118 : decode cX12_operand 118 = .ok (.ifCond .eq 19, 3) := by decide +kernel
theorem dX12_operand_121 : decode cX12_operand 121 = .ok (.aload_n 0, 1) := by decide +kernel
theorem dX12_operand_122 : decode cX12_operand 122 = .ok (.bipush 91, 2) := by decide +kernel
theorem dX12_operand_124 : decode cX12_operand 124 = .ok (.invokevirtual 305, 3) := by decide +kernel
theorem dX12_operand_127 : decode cX12_operand 127 = .ok (.ifCond .eq 10, 3) := by decide +kernel
theorem dX12_operand_130 : decode cX12_operand 130 = .ok (.aload_n 0, 1) := by decide +kernel
theorem dX12_operand_131 : decode cX12_operand 131 = .ok (.iconst 5, 1) := by decide +kernel
theorem dX12_operand_132 : decode cX12_operand 132 = .ok (.invokevirtual 391, 3) := by decide +kernel
theorem dX12_operand_135 : decode cX12_operand 135 = .ok (.iconst 0, 1) := by decide +kernel
theorem dX12_operand_136 : decode cX12_operand 136 = .ok (.ireturn, 1) := by decide +kernel
theorem dX12_operand_137 : decode cX12_operand 137 = .ok (.iload_n 2, 1) := by decide +kernel
theorem dX12_operand_138 : decode cX12_operand 138 = .ok (.ifCond .eq 33, 3) := by decide +kernel
theorem dX12_operand_141 : decode cX12_operand 141 = .ok (.aload_n 0, 1) := by decide +kernel
theorem dX12_operand_142 : decode cX12_operand 142 = .ok (.ldc2_w 355, 3) := by decide +kernel
theorem dX12_operand_145 : decode cX12_operand 145 = .ok (.invokevirtual 385, 3) := by decide +kernel
theorem dX12_operand_148 : decode cX12_operand 148 = .ok (.ifCond .eq 23, 3) := by decide +kernel
theorem dX12_operand_151 : decode cX12_operand 151 = .ok (.aload_n 0, 1) := by decide +kernel
theorem dX12_operand_152 : decode cX12_operand 152 = .ok (.bipush 30, 2) := by decide +kernel
theorem dX12_operand_154 : decode cX12_operand 154 = .ok (.iconst 0, 1) := by decide +kernel
theorem dX12_operand_155 : decode cX12_operand 155 = .ok (.invokevirtual 376, 3) := by decide +kernel
theorem dX12_operand_158 : decode cX12_operand 158 = .ok (.aload_n 0, 1) := by decide +kernel
theorem dX12_operand_159 : decode cX12_operand 159 = .ok (.getfield 139, 3) := by decide +kernel
theorem dX12_operand_162 : decode cX12_operand 162 = .ok (.iload_n 1, 1) := by decide +kernel
theorem dX12_operand_163 : decode cX12_operand 163 = .ok (.iconst 2, 1) := by decide +kernel
theorem dX12_operand_164 : decode cX12_operand 164 = .ok (.iastore, 1) := by decide +kernel
theorem dX12_operand_165 : decode cX12_operand 165 = .ok (.aload_n 0, 1) := by decide +kernel
theorem dX12_operand_166 : decode cX12_operand 166 = .ok (.invokevirtual 308, 3) := by decide +kernel
theorem dX12_operand_169 : decode cX12_operand 169 = .ok (.iconst 1, 1) := by decide +kernel
theorem dX12_operand_170 : decode cX12_operand 170 = .ok (.ireturn, 1) := by decide +kernel
theorem dX12_operand_171 : decode cX12_operand 171 = .ok (.aload_n 0, 1) := by decide +kernel
theorem dX12_operand_172 : decode cX12_operand 172 = .ok (.bipush 40, 2) := by decide +kernel
theorem dX12_operand_174 : decode cX12_operand 174 = .ok (.invokevirtual 305, 3) := by decide +kernel
theorem dX12_operand_177 : decode cX12_operand 177 = .ok (.ifCond .eq 10, 3) := by decide +kernel
theorem dX12_operand_180 : decode cX12_operand 180 = .ok (.aload_n 0, 1) := by decide +kernel
theorem dX12_operand_181 : decode cX12_operand 181 = .ok (.iconst 2, 1) := by decide +kernel
theorem dX12_operand_182 : decode cX12_operand 182 = .ok (.invokevirtual 391, 3) := by decide +kernel
theorem dX12_operand_185 : decode cX12_operand 185 = .ok (.iconst 0, 1) := by decide +kernel
theorem dX12_operand_186 : decode cX12_operand 186 = .ok (.ireturn, 1) := by decide +kernel
theorem dX12_operand_187 : decode cX12_operand 187 = .ok (.aload_n 0, 1) := by decide +kernel
theorem dX12_operand_188 : decode cX12_operand 188 = .ok (.ldc2_w 357, 3) := by decide +kernel
theorem dX12_operand_191 : decode cX12_operand 191 = .ok (.invokevirtual 385, 3) := by decide +kernel
theorem dX12_operand_194 : decode cX12_operand 194 = .ok (.ifCond .ne 13, 3) := by decide +kernel
theorem dX12_operand_197 : decode cX12_operand 197 = .ok (.aload_n 0, 1) := by decide +kernel
theorem dX12_operand_198 : decode cX12_operand 198 = .ok (.ldc2_w 359, 3) := by decide +kernel
theorem dX12_operand_201 : decode cX12_operand 201 = .ok (.invokevirtual 385, 3) := by decide +kernel
theorem dX12_operand_204 : decode cX12_operand 204 = .ok (.ifCond .eq 73, 3) := by decide +kernel
theorem dX12_operand_207 : decode cX12_operand 207 = .ok (.aload_n 0, 1) := by decide +kernel
theorem dX12_operand_208 : decode cX12_operand 208 = .ok (.ldc2_w 357, 3) := by decide +kernel
theorem dX12_operand_211 : decode cX12_operand 211 = .ok (.invokevirtual 385, 3) := by decide +kernel
theorem dX12_operand_214 : decode cX12_operand 214 = .ok (.ifCond .eq 8, 3) := by decide +kernel
theorem dX12_operand_217 : decode cX12_operand 217 = .ok (.bipush 15, 2) := by decide +kernel
theorem dX12_operand_219 : decode cX12_operand 219 = .ok (.goto 5, 3) := by decide +kernel
theorem dX12_operand_222 : decode cX12_operand 222 = .ok (.bipush 16, 2) := by decide +kernel
theorem dX12_operand_224 : decode cX12_operand 224 = .ok (.istore_n 3, 1) := by decide +kernel
theorem dX12_operand_225 : decode cX12_operand 225 = .ok (.aload_n 0, 1) := by decide +kernel
theorem dX12_operand_226 : decode cX12_operand 226 = .ok (.invokevirtual 308, 3) := by decide +kernel
theorem dX12_operand_229 : decode cX12_operand 229 = .ok (.aload_n 0, 1) := by decide +kernel
theorem dX12_operand_230 : decode cX12_operand 230 = .ok (.invokevirtual 302, 3) := by decide +kernel
theorem dX12_operand_233 : decode cX12_operand 233 = .ok (.aload_n 0, 1) := by decide +kernel
theorem dX12_operand_234 : decode cX12_operand 234 = .ok (.bipush 40, 2) := by decide +kernel
theorem dX12_operand_236 : decode cX12_operand 236 = .ok (.invokevirtual 305, 3) := by decide +kernel
theorem dX12_operand_239 : decode cX12_operand 239 = .ok (.ifCond .ne 12, 3) := by decide +kernel
theorem dX12_operand_242 : decode cX12_operand 242 = .ok (.aload_n 0, 1) := by decide +kernel
theorem dX12_operand_243 : decode cX12_operand 243 = .ok (.iconst 1, 1) := by decide +kernel
theorem dX12_operand_244 : decode cX12_operand 244 = .ok (.aload_n 0, 1) := by decide +kernel
theorem dX12_operand_245 : decode cX12_operand 245 = .ok (.getfield 23, 3) := by decide +kernel
theorem dX12_operand_248 : decode cX12_operand 248 = .ok (.invokevirtual 287, 3) := by decide +kernel
theorem dX12_operand_251 : decode cX12_operand 251 = .ok (.aload_n 0, 1) := by decide +kernel
theorem dX12_operand_252 : decode cX12_operand 252 = .ok (.iconst 3, 1) := by decide +kernel
theorem dX12_operand_253 : decode cX12_operand 253 = .ok (.invokevirtual 391, 3) := by decide +kernel
theorem dX12_operand_256 : decode cX12_operand 256 = .ok (.aload_n 0, 1) := by decide +kernel
theorem dX12_operand_257 : decode cX12_operand 257 = .ok (.getfield 36, 3) := by decide +kernel
theorem dX12_operand_260 : decode cX12_operand 260 = .ok (.ifCond .ne 15, 3) := by decide +kernel
theorem dX12_operand_263 : decode cX12_operand 263 = .ok (.aload_n 0, 1) := by decide +kernel
theorem dX12_operand_264 : decode cX12_operand 264 = .ok (.getfield 146, 3) := by decide +kernel
theorem dX12_operand_267 : decode cX12_operand 267 = .ok (.aload_n 0, 1) := by decide +kernel
theorem dX12_operand_268 : decode cX12_operand 268 = .ok (.getfield 152, 3) := by decide +kernel
theorem dX12_operand_271 : decode cX12_operand 271 = .ok (.iconst 1, 1) := by decide +kernel
theorem dX12_operand_272 : decode cX12_operand 272 = .ok (.isub, 1) := by decide +kernel
theorem dX12_operand_273 : decode cX12_operand 273 = .ok (.iload_n 3, 1) := by decide +kernel
theorem dX12_operand_274 : decode cX12_operand 274 = .ok (.iastore, 1) := by decide +kernel
theorem dX12_operand_275 : decode cX12_operand 275 = .ok (.iconst 0, 1) := by decide +kernel
theorem dX12_operand_276 : decode cX12_operand 276 = .ok (.ireturn, 1) := by decide +kernel
theorem dX12_operand_277 : decode cX12_operand 277 = .ok (.aload_n 0, 1) := by decide +kernel
theorem dX12_operand_278 : decode cX12_operand 278 = .ok (.getfield 20, 3) := by decide +kernel
theorem dX12_operand_281 : decode cX12_operand 281 = .ok (.iconst 2, 1) := by decide +kernel
theorem dX12_operand_282 : decode cX12_operand 282 = .ok (.if_icmp .ne 7, 3) := by decide +kernel
theorem dX12_operand_285 : decode cX12_operand 285 = .ok (.iconst 0, 1) := by decide +kernel
theorem dX12_operand_286 : decode cX12_operand 286 = .ok (.goto 134, 3) := by decide +kernel
theorem dX12_operand_289 : decode cX12_operand 289 = .ok (.aload_n 0, 1) := by decide +kernel
theorem dX12_operand_290 : decode cX12_operand 290 = .ok (.ldc2_w 317, 3) := by decide +kernel
theorem dX12_operand_293 : decode cX12_operand 293 = .ok (.invokevirtual 385, 3) := by decide +kernel
theorem dX12_operand_296 : decode cX12_operand 296 = .ok (.ifCond .eq 7, 3) := by decide +kernel
theorem dX12_operand_299 : decode cX12_operand 299 = .ok (.iconst 1, 1) := by decide +kernel
theorem dX12_operand_300 : decode cX12_operand 300 = .ok (.goto 120, 3) := by decide +kernel
theorem dX12_operand_303 : decode cX12_operand 303 = .ok (.aload_n 0, 1) := by decide +kernel
theorem dX12_operand_304 : decode cX12_operand 304 = .ok (.ldc2_w 341, 3) := by decide +kernel
theorem dX12_operand_307 : decode cX12_operand 307 = .ok (.invokevirtual 385, 3) := by decide +kernel
theorem dX12_operand_310 : decode cX12_operand 310 = .ok (.ifCond .eq 7, 3) := by decide +kernel
theorem dX12_operand_313 : decode cX12_operand 313 = .ok (.iconst 2, 1) := by decide +kernel
theorem dX12_operand_314 : decode cX12_operand 314 = .ok (.goto 106, 3) := by decide +kernel
theorem dX12_operand_317 : decode cX12_operand 317 = .ok (.aload_n 0, 1) := by decide +kernel
theorem dX12_operand_318 : decode cX12_operand 318 = .ok (.ldc2_w 325, 3) := by decide +kernel
theorem dX12_operand_321 : decode cX12_operand 321 = .ok (.invokevirtual 385, 3) := by decide +kernel
theorem dX12_operand_324 : decode cX12_operand 324 = .ok (.ifCond .eq 7, 3) := by decide +kernel
theorem dX12_operand_327 : decode cX12_operand 327 = .ok (.iconst 3, 1) := by decide +kernel
theorem dX12_operand_328 : decode cX12_operand 328 = .ok (.goto 92, 3) := by decide +kernel
theorem dX12_operand_331 : decode cX12_operand 331 = .ok (.aload_n 0, 1) := by decide +kernel
theorem dX12_operand_332 : decode cX12_operand 332 = .ok (.ldc2_w 327, 3) := by decide +kernel
theorem dX12_operand_335 : decode cX12_operand 335 = .ok (.invokevirtual 385, 3) := by decide +kernel
theorem dX12_operand_338 : decode cX12_operand 338 = .ok (.ifCond .eq 7, 3) := by decide +kernel
theorem dX12_operand_341 : decode cX12_operand 341 = .ok (.iconst 4, 1) := by decide +kernel
theorem dX12_operand_342 : decode cX12_operand 342 = .ok (.goto 78, 3) := by decide +kernel
theorem dX12_operand_345 : decode cX12_operand 345 = .ok (.aload_n 0, 1) := by decide +kernel
theorem dX12_operand_346 : decode cX12_operand 346 = .ok (.ldc2_w 343, 3) := by decide +kernel
theorem dX12_operand_349 : decode cX12_operand 349 = .ok (.invokevirtual 385, 3) := by decide +kernel
theorem dX12_operand_352 : decode cX12_operand 352 = .ok (.ifCond .eq 7, 3) := by decide +kernel
theorem dX12_operand_355 : decode cX12_operand 355 = .ok (.iconst 5, 1) := by decide +kernel
theorem dX12_operand_356 : decode cX12_operand 356 = .ok (.goto 64, 3) := by decide +kernel
theorem dX12_operand_359 : decode cX12_operand 359 = .ok (.aload_n 0, 1) := by decide +kernel
theorem dX12_operand_360 : decode cX12_operand 360 = .ok (.ldc2_w 331, 3) := by decide +kernel
theorem dX12_operand_363 : decode cX12_operand 363 = .ok (.invokevirtual 385, 3) := by decide +kernel
theorem dX12_operand_366 : decode cX12_operand 366 = .ok (.ifCond .eq 8, 3) := by decide +kernel
theorem dX12_operand_369 : decode cX12_operand 369 = .ok (.bipush 6, 2) := by decide +kernel
theorem dX12_operand_371 : decode cX12_operand 371 = .ok (.goto 49, 3) := by decide +kernel
theorem dX12_operand_374 : decode cX12_operand 374 = .ok (.aload_n 0, 1) := by decide +kernel
theorem dX12_operand_375 : decode cX12_operand 375 = .ok (.ldc2_w 345, 3) := by decide +kernel
theorem dX12_operand_378 : decode cX12_operand 378 = .ok (.invokevirtual 385, 3) := by decide +kernel
theorem dX12_operand_381 : decode cX12_operand 381 = .ok (.ifCond .eq 8, 3) := by decide +kernel
theorem dX12_operand_384 : decode cX12_operand 384 = .ok (.bipush 7, 2) := by decide +kernel
theorem dX12_operand_386 : decode cX12_operand 386 = .ok (.goto 34, 3) := by decide +kernel
theorem dX12_operand_389 : decode cX12_operand 389 = .ok (.aload_n 0, 1) := by decide +kernel
theorem dX12_operand_390 : decode cX12_operand 390 = .ok (.ldc2_w 333, 3) := by decide +kernel
theorem dX12_operand_393 : decode cX12_operand 393 = .ok (.invokevirtual 385, 3) := by decide +kernel
theorem dX12_operand_396 : decode cX12_operand 396 = .ok (.ifCond .eq 8, 3) := by decide +kernel
theorem dX12_operand_399 : decode cX12_operand 399 = .ok (.bipush 8, 2) := by decide +kernel
theorem dX12_operand_401 : decode cX12_operand 401 = .ok (.goto 19, 3) := by decide +kernel
theorem dX12_operand_404 : decode cX12_operand 404 = .ok (.aload_n 0, 1) := by decide +kernel
theorem dX12_operand_405 : decode cX12_operand 405 = .ok (.ldc2_w 347, 3) := by decide +kernel
theorem dX12_operand_408 : decode cX12_operand 408 = .ok (.invokevirtual 385, 3) := by decide +kernel
theorem dX12_operand_411 : decode cX12_operand 411 = .ok (.ifCond .eq 8, 3) := by decide +kernel
theorem dX12_operand_414 : decode cX12_operand 414 = .ok (.bipush 9, 2) := by decide +kernel
theorem dX12_operand_416 : decode cX12_operand 416 = .ok (.goto 4, 3) := by decide +kernel
theorem dX12_operand_419 : decode cX12_operand 419 = .ok (.iconst (-1), 1) := by decide +kernel
theorem dX12_operand_420 : decode cX12_operand 420 = .ok (.istore_n 3, 1) := by decide +kernel
theorem dX12_operand_421 : decode cX12_operand 421 = .ok (.iload_n 3, 1) := by decide +kernel
theorem dX12_operand_422 : decode cX12_operand 422 = .ok (.iconst (-1), 1) := by decide +kernel
theorem dX12_operand_423 : decode cX12_operand 423 = .ok (.if_icmp .ne 12, 3) := by decide +kernel
theorem dX12_operand_426 : decode cX12_operand 426 = .ok (.aload_n 0, 1) := by decide +kernel
theorem dX12_operand_427 : decode cX12_operand 427 = .ok (.iconst 1, 1) := by decide +kernel
theorem dX12_operand_428 : decode cX12_operand 428 = .ok (.aload_n 0, 1) := by decide +kernel
theorem dX12_operand_429 : decode cX12_operand 429 = .ok (.getfield 23, 3) := by decide +kernel
theorem dX12_operand_432 : decode cX12_operand 432 = .ok (.invokevirtual 287, 3) := by decide +kernel
theorem dX12_operand_435 : decode cX12_operand 435 = .ok (.aload_n 0, 1) := by decide +kernel
theorem dX12_operand_436 : decode cX12_operand 436 = .ok (.getfield 36, 3) := by decide +kernel
theorem dX12_operand_439 : decode cX12_operand 439 = .ok (.ifCond .le 5, 3) := by decide +kernel
theorem dX12_operand_442 : decode cX12_operand 442 = .ok (.iconst 1, 1) := by decide +kernel
theorem dX12_operand_443 : decode cX12_operand 443 = .ok (.ireturn, 1) := by decide +kernel
theorem dX12_operand_444 : decode cX12_operand 444 = .ok (.aload_n 0, 1) := by decide +kernel
theorem dX12_operand_445 : decode cX12_operand 445 = .ok (.iload_n 3, 1) := by decide +kernel
theorem dX12_operand_446 : decode cX12_operand 446 = .ok (.aload_n 0, 1) := by decide +kernel
theorem dX12_operand_447 : decode cX12_operand 447 = .ok (.getfield 29, 3) := by decide +kernel
theorem dX12_operand_450 : decode cX12_operand 450 = .ok (.invokevirtual 376, 3) := by decide +kernel
theorem dX12_operand_453 : decode cX12_operand 453 = .ok (.aload_n 0, 1) := by decide +kernel
theorem dX12_operand_454 : decode cX12_operand 454 = .ok (.invokevirtual 308, 3) := by decide +kernel
theorem dX12_operand_457 : decode cX12_operand 457 = .ok (.iconst 1, 1) := by decide +kernel
theorem dX12_operand_458 : decode cX12_operand 458 = .ok (.ireturn, 1) := by decide +kernel
theorem dX12_goesOn_0 : decode cX12_goesOn 0 = .ok (.aload_n 0, 1) := by decide +kernel
theorem dX12_goesOn_1 : decode cX12_goesOn 1 = .ok (.invokevirtual 302, 3) := by decide +kernel
theorem dX12_goesOn_4 : decode cX12_goesOn 4 = .ok (.aload_n 0, 1) := by decide +kernel
theorem dX12_goesOn_5 : decode cX12_goesOn 5 = .ok (.getfield 36, 3) := by decide +kernel
theorem dX12_goesOn_8 : decode cX12_goesOn 8 = .ok (.ifCond .le 5, 3) := by decide +kernel
theorem dX12_goesOn_11 : decode cX12_goesOn 11 = .ok (.iconst 0, 1) := by decide +kernel
theorem dX12_goesOn_12 : decode cX12_goesOn 12 = .ok (.ireturn, 1) := by decide +kernel
theorem dX12_goesOn_13 : decode cX12_goesOn 13 = .ok (.aload_n 0, 1) := by decide +kernel
theorem dX12_goesOn_14 : decode cX12_goesOn 14 = .ok (.getfield 152, 3) := by decide +kernel
theorem dX12_goesOn_17 : decode cX12_goesOn 17 = .ok (.iconst 1, 1) := by decide +kernel
theorem dX12_goesOn_18 : decode cX12_goesOn 18 = .ok (.isub, 1) := by decide +kernel
theorem dX12_goesOn_19 : decode cX12_goesOn 19 = .ok (.istore_n 1, 1) := by decide +kernel
theorem dX12_goesOn_20 : decode cX12_goesOn 20 = .ok (.aload_n 0, 1) := by decide +kernel
theorem dX12_goesOn_21 : decode cX12_goesOn 21 = .ok (.getfield 136, 3) := by decide +kernel
theorem dX12_goesOn_24 : decode cX12_goesOn 24 = .ok (.iload_n 1, 1) := by decide +kernel
theorem dX12_goesOn_25 : decode cX12_goesOn 25 = .ok (.iaload, 1) := by decide +kernel
theorem dX12_goesOn_26 : decode cX12_goesOn 26 = .ok (.istore_n 2, 1) := by decide +kernel
theorem dX12_goesOn_27 : decode cX12_goesOn 27 = .ok (.iload_n 2, 1) := by decide +kernel
theorem dX12_goesOn_28 : decode cX12_goesOn 28 = .ok (.invokestatic 382, 3) := by decide +kernel
theorem dX12_goesOn_31 : decode cX12_goesOn 31 = .ok (.istore_n 3, 1) := by decide +kernel
theorem dX12_goesOn_32 : decode cX12_goesOn 32 = .ok (.aload_n 0, 1) := by decide +kernel
theorem dX12_goesOn_33 : decode cX12_goesOn 33 = .ok (.getfield 139, 3) := by decide +kernel
theorem dX12_goesOn_36 : decode cX12_goesOn 36 = .ok (.iload_n 1, 1) := by decide +kernel
theorem dX12_goesOn_37 : decode cX12_goesOn 37 = .ok (.iaload, 1) := by decide +kernel
theorem dX12_goesOn_38 : decode cX12_goesOn 38 = .ok (.iconst 2, 1) := by decide +kernel
theorem dX12_goesOn_39 : decode cX12_goesOn 39 = .ok (.if_icmp .ge 149, 3) := by decide +kernel
theorem dX12_goesOn_42 : decode cX12_goesOn 42 = .ok (.aload_n 0, 1) := by decide +kernel
theorem dX12_goesOn_43 : decode cX12_goesOn 43 = .ok (.bipush 43, 2) := by decide +kernel
theorem dX12_goesOn_45 : decode cX12_goesOn 45 = .ok (.invokevirtual 305, 3) := by decide +kernel
theorem dX12_goesOn_48 : decode cX12_goesOn 48 = .ok (.ifCond .ne 39, 3) := by decide +kernel
theorem dX12_goesOn_51 : decode cX12_goesOn 51 = .ok (.aload_n 0, 1) := by decide +kernel
theorem dX12_goesOn_52 : decode cX12_goesOn 52 = .ok (.bipush 45, 2) := by decide +kernel
theorem dX12_goesOn_54 : decode cX12_goesOn 54 = .ok (.invokevirtual 305, 3) := by decide +kernel
theorem dX12_goesOn_57 : decode cX12_goesOn 57 = .ok (.ifCond .ne 30, 3) := by decide +kernel
theorem dX12_goesOn_60 : decode cX12_goesOn 60 = .ok (.aload_n 0, 1) := by decide +kernel
theorem dX12_goesOn_61 : decode cX12_goesOn 61 = .ok (.bipush 42, 2) := by decide +kernel
theorem dX12_goesOn_63 : decode cX12_goesOn 63 = .ok (.invokevirtual 305, 3) := by decide +kernel
theorem dX12_goesOn_66 : decode cX12_goesOn 66 = .ok (.ifCond .ne 21, 3) := by decide +kernel
theorem dX12_goesOn_69 : decode cX12_goesOn 69 = .ok (.aload_n 0, 1) := by decide +kernel
theorem dX12_goesOn_70 : decode cX12_goesOn 70 = .ok (.bipush 47, 2) := by decide +kernel
theorem dX12_goesOn_72 : decode cX12_goesOn 72 = .ok (.invokevirtual 305, 3) := by decide +kernel
theorem dX12_goesOn_75 : decode cX12_goesOn 75 = .ok (.ifCond .ne 12, 3) := by decide +kernel
theorem dX12_goesOn_78 : decode cX12_goesOn 78 = .ok (.aload_n 0, 1) := by decide +kernel
theorem dX12_goesOn_79 : decode cX12_goesOn 79 = .ok (.bipush 37, 2) := by decide +kernel
theorem dX12_goesOn_81 : decode cX12_goesOn 81 = .ok (.invokevirtual 305, 3) := by decide +kernel
theorem dX12_goesOn_84 : decode cX12_goesOn 84 = .ok (.ifCond .eq 104, 3) := by decide +kernel
theorem dX12_goesOn_87 : decode cX12_goesOn 87 = .ok (.aload_n 0, 1) := by decide +kernel
theorem dX12_goesOn_88 : decode cX12_goesOn 88 = .ok (.aload_n 0, 1) := by decide +kernel
theorem dX12_goesOn_89 : decode cX12_goesOn 89 = .ok (.bipush 43, 2) := by decide +kernel
theorem dX12_goesOn_91 : decode cX12_goesOn 91 = .ok (.invokevirtual 305, 3) := by decide +kernel
theorem dX12_goesOn_94 : decode cX12_goesOn 94 = .ok (.ifCond .ne 12, 3) := by decide +kernel
theorem dX12_goesOn_97 : decode cX12_goesOn 97 = .ok (.aload_n 0, 1) := by decide +kernel
theorem dX12_goesOn_98 : decode cX12_goesOn 98 = .ok (.bipush 45, 2) := by decide +kernel
theorem dX12_goesOn_100 : decode cX12_goesOn 100 = .ok (.invokevirtual 305, 3) := by decide +kernel
theorem dX12_goesOn_103 : decode cX12_goesOn 103 = .ok (.ifCond .eq 7, 3) := by decide +kernel
theorem dX12_goesOn_106 : decode cX12_goesOn 106 = .ok (.iconst 5, 1) := by decide +kernel
theorem dX12_goesOn_107 : decode cX12_goesOn 107 = .ok (.goto 5, 3) := by decide +kernel
theorem dX12_goesOn_110 : decode cX12_goesOn 110 = .ok (.bipush 6, 2) := by decide +kernel
theorem dX12_goesOn_112 : decode cX12_goesOn 112 = .ok (.invokevirtual 394, 3) := by decide +kernel
theorem dX12_goesOn_115 : decode cX12_goesOn 115 = .ok (.aload_n 0, 1) := by decide +kernel
theorem dX12_goesOn_116 : decode cX12_goesOn 116 = .ok (.aload_n 0, 1) := by decide +kernel
theorem dX12_goesOn_117 : decode cX12_goesOn 117 = .ok (.bipush 43, 2) := by decide +kernel
theorem dX12_goesOn_119 : decode cX12_goesOn 119 = .ok (.invokevirtual 305, 3) := by decide +kernel
theorem dX12_goesOn_122 : decode cX12_goesOn 122 = .ok (.ifCond .eq 8, 3) := by decide +kernel
theorem dX12_goesOn_125 : decode cX12_goesOn 125 = .ok (.bipush 10, 2) := by decide +kernel
theorem dX12_goesOn_127 : decode cX12_goesOn 127 = .ok (.goto 47, 3) := by decide +kernel
theorem dX12_goesOn_130 : decode cX12_goesOn 130 = .ok (.aload_n 0, 1) := by decide +kernel
theorem dX12_goesOn_131 : decode cX12_goesOn 131 = .ok (.bipush 45, 2) := by decide +kernel
theorem dX12_goesOn_133 : decode cX12_goesOn 133 = .ok (.invokevirtual 305, 3) := by decide +kernel
theorem dX12_goesOn_136 : decode cX12_goesOn 136 = .ok (.ifCond .eq 8, 3) := by decide +kernel
theorem dX12_goesOn_139 : decode cX12_goesOn 139 = .ok (.bipush 11, 2) := by decide +kernel
theorem dX12_goesOn_141 : decode cX12_goesOn 141 = .ok (.goto 33, 3) := by decide +kernel
theorem dX12_goesOn_144 : decode cX12_goesOn 144 = .ok (.aload_n 0, 1) := by decide +kernel
theorem dX12_goesOn_145 : decode cX12_goesOn 145 = .ok (.bipush 42, 2) := by decide +kernel
theorem dX12_goesOn_147 : decode cX12_goesOn 147 = .ok (.invokevirtual 305, 3) := by decide +kernel
theorem dX12_goesOn_150 : decode cX12_goesOn 150 = .ok (.ifCond .eq 8, 3) := by decide +kernel
theorem dX12_goesOn_153 : decode cX12_goesOn 153 = .ok (.bipush 12, 2) := by decide +kernel
theorem dX12_goesOn_155 : decode cX12_goesOn 155 = .ok (.goto 19, 3) := by decide +kernel
theorem dX12_goesOn_158 : decode cX12_goesOn 158 = .ok (.aload_n 0, 1) := by decide +kernel
theorem dX12_goesOn_159 : decode cX12_goesOn 159 = .ok (.bipush 47, 2) := by decide +kernel
theorem dX12_goesOn_161 : decode cX12_goesOn 161 = .ok (.invokevirtual 305, 3) := by decide +kernel
theorem dX12_goesOn_164 : decode cX12_goesOn 164 = .ok (.ifCond .eq 8, 3) := by decide +kernel
theorem dX12_goesOn_167 : decode cX12_goesOn 167 = .ok (.bipush 13, 2) := by decide +kernel
theorem dX12_goesOn_169 : decode cX12_goesOn 169 = .ok (.goto 5, 3) := by decide +kernel
theorem dX12_goesOn_172 : decode cX12_goesOn 172 = .ok (.bipush 14, 2) := by decide +kernel
theorem dX12_goesOn_174 : decode cX12_goesOn 174 = .ok (.invokevirtual 388, 3) := by decide +kernel
theorem dX12_goesOn_177 : decode cX12_goesOn 177 = .ok (.aload_n 0, 1) := by decide +kernel
theorem dX12_goesOn_178 : decode cX12_goesOn 178 = .ok (.invokevirtual 308, 3) := by decide +kernel
theorem dX12_goesOn_181 : decode cX12_goesOn 181 = .ok (.aload_n 0, 1) := by decide +kernel
theorem dX12_goesOn_182 : decode cX12_goesOn 182 = .ok (.iconst 0, 1) := by decide +kernel
theorem dX12_goesOn_183 : decode cX12_goesOn 183 = .ok (.putfield 164, 3) := by decide +kernel
theorem dX12_goesOn_186 : decode cX12_goesOn 186 = .ok (.iconst 1, 1) := by decide +kernel
theorem dX12_goesOn_187 : decode cX12_goesOn 187 = .ok (.ireturn, 1) := by decide +kernel
theorem dX12_goesOn_188 : decode cX12_goesOn 188 = .ok (.iload_n 3, 1) := by decide +kernel
theorem dX12_goesOn_189 : decode cX12_goesOn 189 = .ok (.ifCond .eq 96, 3) := by decide +kernel
theorem dX12_goesOn_192 : decode cX12_goesOn 192 = .ok (.aload_n 0, 1) := by decide +kernel
theorem dX12_goesOn_193 : decode cX12_goesOn 193 = .ok (.getfield 139, 3) := by decide +kernel
theorem dX12_goesOn_196 : decode cX12_goesOn 196 = .ok (.iload_n 1, 1) := by decide +kernel
theorem dX12_goesOn_197 : decode cX12_goesOn 197 = .ok (.iaload, 1) := by decide +kernel
theorem dX12_goesOn_198 : decode cX12_goesOn 198 = .ok (.ifCond .ne 87, 3) := by decide +kernel
theorem dX12_goesOn_201 : decode cX12_goesOn 201 = .ok (.aload_n 0, 1) := by decide +kernel
theorem dX12_goesOn_202 : decode cX12_goesOn 202 = .ok (.bipush 60, 2) := by decide +kernel
theorem dX12_goesOn_204 : decode cX12_goesOn 204 = .ok (.invokevirtual 305, 3) := by decide +kernel
theorem dX12_goesOn_207 : decode cX12_goesOn 207 = .ok (.ifCond .ne 21, 3) := by decide +kernel
theorem dX12_goesOn_210 : decode cX12_goesOn 210 = .ok (.aload_n 0, 1) := by decide +kernel
theorem dX12_goesOn_211 : decode cX12_goesOn 211 = .ok (.bipush 62, 2) := by decide +kernel
theorem dX12_goesOn_213 : decode cX12_goesOn 213 = .ok (.invokevirtual 305, 3) := by decide +kernel
theorem dX12_goesOn_216 : decode cX12_goesOn 216 = .ok (.ifCond .ne 12, 3) := by decide +kernel
theorem dX12_goesOn_219 : decode cX12_goesOn 219 = .ok (.aload_n 0, 1) := by decide +kernel
theorem dX12_goesOn_220 : decode cX12_goesOn 220 = .ok (.bipush 61, 2) := by decide +kernel
theorem dX12_goesOn_222 : decode cX12_goesOn 222 = .ok (.invokevirtual 305, 3) := by decide +kernel
theorem dX12_goesOn_225 : decode cX12_goesOn 225 = .ok (.ifCond .eq 60, 3) := by decide +kernel
theorem dX12_goesOn_228 : decode cX12_goesOn 228 = .ok (.aload_n 0, 1) := by decide +kernel
theorem dX12_goesOn_229 : decode cX12_goesOn 229 = .ok (.iconst 5, 1) := by decide +kernel
theorem dX12_goesOn_230 : decode cX12_goesOn 230 = .ok (.invokevirtual 394, 3) := by decide +kernel
theorem dX12_goesOn_233 : decode cX12_goesOn 233 = .ok (.aload_n 0, 1) := by decide +kernel
theorem dX12_goesOn_234 : decode cX12_goesOn 234 = .ok (.aload_n 0, 1) := by decide +kernel
theorem dX12_goesOn_235 : decode cX12_goesOn 235 = .ok (.bipush 60, 2) := by decide +kernel
theorem dX12_goesOn_237 : decode cX12_goesOn 237 = .ok (.invokevirtual 305, 3) := by decide +kernel
theorem dX12_goesOn_240 : decode cX12_goesOn 240 = .ok (.ifCond .eq 8, 3) := by decide +kernel
theorem dX12_goesOn_243 : decode cX12_goesOn 243 = .ok (.bipush 17, 2) := by decide +kernel
theorem dX12_goesOn_245 : decode cX12_goesOn 245 = .ok (.goto 19, 3) := by decide +kernel
theorem dX12_goesOn_248 : decode cX12_goesOn 248 = .ok (.aload_n 0, 1) := by decide +kernel
theorem dX12_goesOn_249 : decode cX12_goesOn 249 = .ok (.bipush 62, 2) := by decide +kernel
theorem dX12_goesOn_251 : decode cX12_goesOn 251 = .ok (.invokevirtual 305, 3) := by decide +kernel
theorem dX12_goesOn_254 : decode cX12_goesOn 254 = .ok (.ifCond .eq 8, 3) := by decide +kernel
theorem dX12_goesOn_257 : decode cX12_goesOn 257 = .ok (.bipush 18, 2) := by decide +kernel
theorem dX12_goesOn_259 : decode cX12_goesOn 259 = .ok (.goto 5, 3) := by decide +kernel
theorem dX12_goesOn_262 : decode cX12_goesOn 262 = .ok (.bipush 19, 2) := by decide +kernel
theorem dX12_goesOn_264 : decode cX12_goesOn 264 = .ok (.invokevirtual 388, 3) := by decide +kernel
theorem dX12_goesOn_267 : decode cX12_goesOn 267 = .ok (.aload_n 0, 1) := by decide +kernel
theorem dX12_goesOn_268 : decode cX12_goesOn 268 = .ok (.getfield 139, 3) := by decide +kernel
theorem dX12_goesOn_271 : decode cX12_goesOn 271 = .ok (.iload_n 1, 1) := by decide +kernel
theorem dX12_goesOn_272 : decode cX12_goesOn 272 = .ok (.iconst 1, 1) := by decide +kernel
theorem dX12_goesOn_273 : decode cX12_goesOn 273 = .ok (.iastore, 1) := by decide +kernel
theorem dX12_goesOn_274 : decode cX12_goesOn 274 = .ok (.aload_n 0, 1) := by decide +kernel
theorem dX12_goesOn_275 : decode cX12_goesOn 275 = .ok (.invokevirtual 308, 3) := by decide +kernel
theorem dX12_goesOn_278 : decode cX12_goesOn 278 = .ok (.aload_n 0, 1) := by decide +kernel
theorem dX12_goesOn_279 : decode cX12_goesOn 279 = .ok (.iconst 0, 1) := by decide +kernel
theorem dX12_goesOn_280 : decode cX12_goesOn 280 = .ok (.putfield 164, 3) := by decide +kernel
theorem dX12_goesOn_283 : decode cX12_goesOn 283 = .ok (.iconst 1, 1) := by decide +kernel
theorem dX12_goesOn_284 : decode cX12_goesOn 284 = .ok (.ireturn, 1) := by decide +kernel
theorem dX12_goesOn_285 : decode cX12_goesOn 285 = .ok (.iload_n 3, 1) := by decide +kernel
theorem dX12_goesOn_286 : decode cX12_goesOn 286 = .ok (.ifCond .eq 114, 3) := by decide +kernel
theorem dX12_goesOn_289 : decode cX12_goesOn 289 = .ok (.aload_n 0, 1) := by decide +kernel
theorem dX12_goesOn_290 : decode cX12_goesOn 290 = .ok (.ldc2_w 351, 3) := by decide +kernel
theorem dX12_goesOn_293 : decode cX12_goesOn 293 = .ok (.invokevirtual 385, 3) := by decide +kernel
theorem dX12_goesOn_296 : decode cX12_goesOn 296 = .ok (.ifCond .ne 13, 3) := by decide +kernel
theorem dX12_goesOn_299 : decode cX12_goesOn 299 = .ok (.aload_n 0, 1) := by decide +kernel
theorem dX12_goesOn_300 : decode cX12_goesOn 300 = .ok (.ldc2_w 349, 3) := by decide +kernel
theorem dX12_goesOn_303 : decode cX12_goesOn 303 = .ok (.invokevirtual 385, 3) := by decide +kernel
theorem dX12_goesOn_306 : decode cX12_goesOn 306 = .ok (.ifCond .eq 94, 3) := by decide +kernel
theorem dX12_goesOn_309 : decode cX12_goesOn 309 = .ok (.aload_n 0, 1) := by decide +kernel
theorem dX12_goesOn_310 : decode cX12_goesOn 310 = .ok (.getfield 139, 3) := by decide +kernel
theorem dX12_goesOn_313 : decode cX12_goesOn 313 = .ok (.iload_n 1, 1) := by decide +kernel
theorem dX12_goesOn_314 : decode cX12_goesOn 314 = .ok (.iaload, 1) := by decide +kernel
theorem dX12_goesOn_315 : decode cX12_goesOn 315 = .ok (.ifCond .ne 12, 3) := by decide +kernel
theorem dX12_goesOn_318 : decode cX12_goesOn 318 = .ok (.aload_n 0, 1) := by decide +kernel
theorem dX12_goesOn_319 : decode cX12_goesOn 319 = .ok (.iconst 1, 1) := by decide +kernel
theorem dX12_goesOn_320 : decode cX12_goesOn 320 = .ok (.aload_n 0, 1) := by decide +kernel
theorem dX12_goesOn_321 : decode cX12_goesOn 321 = .ok (.getfield 23, 3) := by decide +kernel
theorem dX12_goesOn_324 : decode cX12_goesOn 324 = .ok (.invokevirtual 287, 3) := by decide +kernel
theorem dX12_goesOn_327 : decode cX12_goesOn 327 = .ok (.aload_n 0, 1) := by decide +kernel
theorem dX12_goesOn_328 : decode cX12_goesOn 328 = .ok (.getfield 36, 3) := by decide +kernel
theorem dX12_goesOn_331 : decode cX12_goesOn 331 = .ok (.ifCond .le 5, 3) := by decide +kernel
theorem dX12_goesOn_334 : decode cX12_goesOn 334 = .ok (.iconst 0, 1) := by decide +kernel
theorem dX12_goesOn_335 : decode cX12_goesOn 335 = .ok (.ireturn, 1) := by decide +kernel
theorem dX12_goesOn_336 : decode cX12_goesOn 336 = .ok (.aload_n 0, 1) := by decide +kernel
theorem dX12_goesOn_337 : decode cX12_goesOn 337 = .ok (.ldc2_w 351, 3) := by decide +kernel
theorem dX12_goesOn_340 : decode cX12_goesOn 340 = .ok (.invokevirtual 385, 3) := by decide +kernel
theorem dX12_goesOn_343 : decode cX12_goesOn 343 = .ok (.istore 4, 2) := by decide +kernel
theorem dX12_goesOn_345 : decode cX12_goesOn 345 = .ok (.aload_n 0, 1) := by decide +kernel
theorem dX12_goesOn_346 : decode cX12_goesOn 346 = .ok (.iload 4, 2) := by decide +kernel
theorem dX12_goesOn_348 : decode cX12_goesOn 348 = .ok (.ifCond .eq 7, 3) := by decide +kernel
theorem dX12_goesOn_351 : decode cX12_goesOn 351 = .ok (.iconst 2, 1) := by decide +kernel
theorem dX12_goesOn_352 : decode cX12_goesOn 352 = .ok (.goto 4, 3) := by decide +kernel
theorem dX12_goesOn_355 : decode cX12_goesOn 355 = .ok (.iconst 1, 1) := by decide +kernel
theorem dX12_goesOn_356 : decode cX12_goesOn 356 = .ok (.invokevirtual 394, 3) := by decide +kernel
theorem dX12_goesOn_359 : decode cX12_goesOn 359 = .ok (.aload_n 0, 1) := by decide +kernel
theorem dX12_goesOn_360 : decode cX12_goesOn 360 = .ok (.iload 4, 2) := by decide +kernel
theorem dX12_goesOn_362 : decode cX12_goesOn 362 = .ok (.ifCond .eq 8, 3) := by decide +kernel
theorem dX12_goesOn_365 : decode cX12_goesOn 365 = .ok (.bipush 20, 2) := by decide +kernel
theorem dX12_goesOn_367 : decode cX12_goesOn 367 = .ok (.goto 5, 3) := by decide +kernel
theorem dX12_goesOn_370 : decode cX12_goesOn 370 = .ok (.bipush 21, 2) := by decide +kernel
theorem dX12_goesOn_372 : decode cX12_goesOn 372 = .ok (.invokevirtual 388, 3) := by decide +kernel
theorem dX12_goesOn_375 : decode cX12_goesOn 375 = .ok (.aload_n 0, 1) := by decide +kernel
theorem dX12_goesOn_376 : decode cX12_goesOn 376 = .ok (.getfield 139, 3) := by decide +kernel
theorem dX12_goesOn_379 : decode cX12_goesOn 379 = .ok (.iload_n 1, 1) := by decide +kernel
theorem dX12_goesOn_380 : decode cX12_goesOn 380 = .ok (.iconst 0, 1) := by decide +kernel
theorem dX12_goesOn_381 : decode cX12_goesOn 381 = .ok (.iastore, 1) := by decide +kernel
theorem dX12_goesOn_382 : decode cX12_goesOn 382 = .ok (.aload_n 0, 1) := by decide +kernel
theorem dX12_goesOn_383 : decode cX12_goesOn 383 = .ok (.getfield 142, 3) := by decide +kernel
theorem dX12_goesOn_386 : decode cX12_goesOn 386 = .ok (.iload_n 1, 1) := by decide +kernel
theorem dX12_goesOn_387 : decode cX12_goesOn 387 = .ok (.iconst 1, 1) := by decide +kernel
theorem dX12_goesOn_388 : decode cX12_goesOn 388 = .ok (.bastore, 1) := by decide +kernel
theorem dX12_goesOn_389 : decode cX12_goesOn 389 = .ok (.aload_n 0, 1) := by decide +kernel
theorem dX12_goesOn_390 : decode cX12_goesOn 390 = .ok (.invokevirtual 308, 3) := by decide +kernel
theorem dX12_goesOn_393 : decode cX12_goesOn 393 = .ok (.aload_n 0, 1) := by decide +kernel
theorem dX12_goesOn_394 : decode cX12_goesOn 394 = .ok (.iconst 0, 1) := by decide +kernel
theorem dX12_goesOn_395 : decode cX12_goesOn 395 = .ok (.putfield 164, 3) := by decide +kernel
theorem dX12_goesOn_398 : decode cX12_goesOn 398 = .ok (.iconst 1, 1) := by decide +kernel
theorem dX12_goesOn_399 : decode cX12_goesOn 399 = .ok (.ireturn, 1) := by decide +kernel
theorem dX12_goesOn_400 : decode cX12_goesOn 400 = .ok (.iload_n 3, 1) := by decide +kernel
theorem dX12_goesOn_401 : decode cX12_goesOn 401 = .ok (.ifCond .eq 21, 3) := by decide +kernel
theorem dX12_goesOn_404 : decode cX12_goesOn 404 = .ok (.aload_n 0, 1) := by decide +kernel
theorem dX12_goesOn_405 : decode cX12_goesOn 405 = .ok (.getfield 139, 3) := by decide +kernel
theorem dX12_goesOn_408 : decode cX12_goesOn 408 = .ok (.iload_n 1, 1) := by decide +kernel
theorem dX12_goesOn_409 : decode cX12_goesOn 409 = .ok (.iaload, 1) := by decide +kernel
theorem dX12_goesOn_410 : decode cX12_goesOn 410 = .ok (.ifCond .ne 12, 3) := by decide +kernel
theorem dX12_goesOn_413 : decode cX12_goesOn 413 = .ok (.aload_n 0, 1) := by decide +kernel
theorem dX12_goesOn_414 : decode cX12_goesOn 414 = .ok (.iconst 1, 1) := by decide +kernel
theorem dX12_goesOn_415 : decode cX12_goesOn 415 = .ok (.aload_n 0, 1) := by decide +kernel
theorem dX12_goesOn_416 : decode cX12_goesOn 416 = .ok (.getfield 23, 3) := by decide +kernel
theorem dX12_goesOn_419 : decode cX12_goesOn 419 = .ok (.invokevirtual 287, 3) := by decide +kernel
theorem dX12_goesOn_422 : decode cX12_goesOn 422 = .ok (.iload_n 2, 1) := by decide +kernel
theorem dX12_goesOn_423 : decode cX12_goesOn 423 = .ok (.iconst 2, 1) := by decide +kernel
theorem dX12_goesOn_424 : decode cX12_goesOn 424 = .ok (.if_icmp .ge 17, 3) := by decide +kernel
theorem dX12_goesOn_427 : decode cX12_goesOn 427 = .ok (.aload_n 0, 1) := by decide +kernel
theorem dX12_goesOn_428 : decode cX12_goesOn 428 = .ok (.getfield 36, 3) := by decide +kernel
theorem dX12_goesOn_431 : decode cX12_goesOn 431 = .ok (.ifCond .ne 8, 3) := by decide +kernel
theorem dX12_goesOn_434 : decode cX12_goesOn 434 = .ok (.aload_n 0, 1) := by decide +kernel
theorem dX12_goesOn_435 : decode cX12_goesOn 435 = .ok (.iconst 1, 1) := by decide +kernel
theorem dX12_goesOn_436 : decode cX12_goesOn 436 = .ok (.invokevirtual 394, 3) := by decide +kernel
theorem dX12_goesOn_439 : decode cX12_goesOn 439 = .ok (.iconst 0, 1) := by decide +kernel
theorem dX12_goesOn_440 : decode cX12_goesOn 440 = .ok (.ireturn, 1) := by decide +kernel
theorem dX12_goesOn_441 : decode cX12_goesOn 441 = .ok (.iload_n 2, 1) := by decide +kernel
theorem dX12_goesOn_442 : decode cX12_goesOn 442 = .ok (.iconst 3, 1) := by decide +kernel
theorem dX12_goesOn_443 : decode cX12_goesOn 443 = .ok (.if_icmp .ne 53, 3) := by decide +kernel
theorem dX12_goesOn_446 : decode cX12_goesOn 446 = .ok (.aload_n 0, 1) := by decide +kernel
theorem dX12_goesOn_447 : decode cX12_goesOn 447 = .ok (.bipush 44, 2) := by decide +kernel
theorem dX12_goesOn_449 : decode cX12_goesOn 449 = .ok (.invokevirtual 305, 3) := by decide +kernel
theorem dX12_goesOn_452 : decode cX12_goesOn 452 = .ok (.ifCond .ne 12, 3) := by decide +kernel
theorem dX12_goesOn_455 : decode cX12_goesOn 455 = .ok (.aload_n 0, 1) := by decide +kernel
theorem dX12_goesOn_456 : decode cX12_goesOn 456 = .ok (.iconst 1, 1) := by decide +kernel
theorem dX12_goesOn_457 : decode cX12_goesOn 457 = .ok (.aload_n 0, 1) := by decide +kernel
theorem dX12_goesOn_458 : decode cX12_goesOn 458 = .ok (.getfield 23, 3) := by decide +kernel
theorem dX12_goesOn_461 : decode cX12_goesOn 461 = .ok (.invokevirtual 287, 3) := by decide +kernel
theorem dX12_goesOn_464 : decode cX12_goesOn 464 = .ok (.aload_n 0, 1) := by decide +kernel
theorem dX12_goesOn_465 : decode cX12_goesOn 465 = .ok (.getfield 36, 3) := by decide +kernel
theorem dX12_goesOn_468 : decode cX12_goesOn 468 = .ok (.ifCond .le 5, 3) := by decide +kernel
theorem dX12_goesOn_471 : decode cX12_goesOn 471 = .ok (.iconst 0, 1) := by decide +kernel
theorem dX12_goesOn_472 : decode cX12_goesOn 472 = .ok (.ireturn, 1) := by decide +kernel
theorem dX12_goesOn_473 : decode cX12_goesOn 473 = .ok (.aload_n 0, 1) := by decide +kernel
theorem dX12_goesOn_474 : decode cX12_goesOn 474 = .ok (.iconst 1, 1) := by decide +kernel
theorem dX12_goesOn_475 : decode cX12_goesOn 475 = .ok (.invokevirtual 394, 3) := by decide +kernel
theorem dX12_goesOn_478 : decode cX12_goesOn 478 = .ok (.aload_n 0, 1) := by decide +kernel
theorem dX12_goesOn_479 : decode cX12_goesOn 479 = .ok (.getfield 136, 3) := by decide +kernel
theorem dX12_goesOn_482 : decode cX12_goesOn 482 = .ok (.iload_n 1, 1) := by decide +kernel
theorem dX12_goesOn_483 : decode cX12_goesOn 483 = .ok (.iconst 4, 1) := by decide +kernel
theorem dX12_goesOn_484 : decode cX12_goesOn 484 = .ok (.iastore, 1) := by decide +kernel
theorem dX12_goesOn_485 : decode cX12_goesOn 485 = .ok (.aload_n 0, 1) := by decide +kernel
theorem dX12_goesOn_486 : decode cX12_goesOn 486 = .ok (.invokevirtual 308, 3) := by decide +kernel
theorem dX12_goesOn_489 : decode cX12_goesOn 489 = .ok (.aload_n 0, 1) := by decide +kernel
theorem dX12_goesOn_490 : decode cX12_goesOn 490 = .ok (.iconst 0, 1) := by decide +kernel
theorem dX12_goesOn_491 : decode cX12_goesOn 491 = .ok (.putfield 164, 3) := by decide +kernel
theorem dX12_goesOn_494 : decode cX12_goesOn 494 = .ok (.iconst 1, 1) := by decide +kernel
theorem dX12_goesOn_495 : decode cX12_goesOn 495 = .ok (.ireturn, 1) := by decide +kernel
theorem dX12_goesOn_496 : decode cX12_goesOn 496 = .ok (.aload_n 0, 1) := by decide +kernel
theorem dX12_goesOn_497 : decode cX12_goesOn 497 = .ok (.iload_n 2, 1) := by decide +kernel
theorem dX12_goesOn_498 : decode cX12_goesOn 498 = .ok (.iconst 5, 1) := by decide +kernel
theorem dX12_goesOn_499 : decode cX12_goesOn 499 = .ok (.if_icmp .ne 8, 3) := by decide +kernel
theorem dX12_goesOn_502 : decode cX12_goesOn 502 = .ok (.bipush 93, 2) := by decide +kernel
theorem dX12_goesOn_504 : decode cX12_goesOn 504 = .ok (.goto 5, 3) := by decide +kernel
theorem dX12_goesOn_507 : decode cX12_goesOn 507 = .ok (.bipush 41, 2) := by decide +kernel
theorem dX12_goesOn_509 : decode cX12_goesOn 509 = .ok (.invokevirtual 305, 3) := by decide +kernel
theorem dX12_goesOn_512 : decode cX12_goesOn 512 = .ok (.ifCond .ne 12, 3) := by decide +kernel
theorem dX12_goesOn_515 : decode cX12_goesOn 515 = .ok (.aload_n 0, 1) := by decide +kernel
theorem dX12_goesOn_516 : decode cX12_goesOn 516 = .ok (.iconst 1, 1) := by decide +kernel
theorem dX12_goesOn_517 : decode cX12_goesOn 517 = .ok (.aload_n 0, 1) := by decide +kernel
theorem dX12_goesOn_518 : decode cX12_goesOn 518 = .ok (.getfield 23, 3) := by decide +kernel
theorem dX12_goesOn_521 : decode cX12_goesOn 521 = .ok (.invokevirtual 287, 3) := by decide +kernel
theorem dX12_goesOn_524 : decode cX12_goesOn 524 = .ok (.aload_n 0, 1) := by decide +kernel
theorem dX12_goesOn_525 : decode cX12_goesOn 525 = .ok (.getfield 36, 3) := by decide +kernel
theorem dX12_goesOn_528 : decode cX12_goesOn 528 = .ok (.ifCond .le 5, 3) := by decide +kernel
theorem dX12_goesOn_531 : decode cX12_goesOn 531 = .ok (.iconst 0, 1) := by decide +kernel
theorem dX12_goesOn_532 : decode cX12_goesOn 532 = .ok (.ireturn, 1) := by decide +kernel
theorem dX12_goesOn_533 : decode cX12_goesOn 533 = .ok (.aload_n 0, 1) := by decide +kernel
theorem dX12_goesOn_534 : decode cX12_goesOn 534 = .ok (.iconst 1, 1) := by decide +kernel
theorem dX12_goesOn_535 : decode cX12_goesOn 535 = .ok (.invokevirtual 394, 3) := by decide +kernel
theorem dX12_goesOn_538 : decode cX12_goesOn 538 = .ok (.aload_n 0, 1) := by decide +kernel
theorem dX12_goesOn_539 : decode cX12_goesOn 539 = .ok (.dup, 1) := by decide +kernel
theorem dX12_goesOn_540 : decode cX12_goesOn 540 = .ok (.getfield 152, 3) := by decide +kernel
theorem dX12_goesOn_543 : decode cX12_goesOn 543 = .ok (.iconst 1, 1) := by decide +kernel
theorem dX12_goesOn_544 : decode cX12_goesOn 544 = .ok (.isub, 1) := by decide +kernel
theorem dX12_goesOn_545 : decode cX12_goesOn 545 = .ok (.putfield 152, 3) := by decide +kernel
theorem dX12_goesOn_548 : decode cX12_goesOn 548 = .ok (.aload_n 0, 1) := by decide +kernel
theorem dX12_goesOn_549 : decode cX12_goesOn 549 = .ok (.dup, 1) := by decide +kernel
theorem dX12_goesOn_550 : decode cX12_goesOn 550 = .ok (.getfield 155, 3) := by decide +kernel
theorem dX12_goesOn_553 : decode cX12_goesOn 553 = .ok (.iconst 1, 1) := by decide +kernel
theorem dX12_goesOn_554 : decode cX12_goesOn 554 = .ok (.isub, 1) := by decide +kernel
theorem dX12_goesOn_555 : decode cX12_goesOn 555 = .ok (.putfield 155, 3) := by decide +kernel
theorem dX12_goesOn_558 : decode cX12_goesOn 558 = .ok (.iload_n 2, 1) := by decide +kernel
theorem dX12_goesOn_559 : decode cX12_goesOn 559 = .ok (.iconst 4, 1) := by decide +kernel
theorem dX12_goesOn_560 : decode cX12_goesOn 560 = .ok (.if_icmp .ne 14, 3) := by decide +kernel
theorem dX12_goesOn_563 : decode cX12_goesOn 563 = .ok (.aload_n 0, 1) := by decide +kernel
theorem dX12_goesOn_564 : decode cX12_goesOn 564 = .ok (.aload_n 0, 1) := by decide +kernel
theorem dX12_goesOn_565 : decode cX12_goesOn 565 = .ok (.getfield 146, 3) := by decide +kernel
theorem dX12_goesOn_568 : decode cX12_goesOn 568 = .ok (.iload_n 1, 1) := by decide +kernel
theorem dX12_goesOn_569 : decode cX12_goesOn 569 = .ok (.iaload, 1) := by decide +kernel
theorem dX12_goesOn_570 : decode cX12_goesOn 570 = .ok (.iconst 0, 1) := by decide +kernel
theorem dX12_goesOn_571 : decode cX12_goesOn 571 = .ok (.invokevirtual 376, 3) := by decide +kernel
theorem dX12_goesOn_574 : decode cX12_goesOn 574 = .ok (.iload_n 2, 1) := by decide +kernel
theorem dX12_goesOn_575 : decode cX12_goesOn 575 = .ok (.iconst 5, 1) := by decide +kernel
theorem dX12_goesOn_576 : decode cX12_goesOn 576 = .ok (.if_icmp .ne 15, 3) := by decide +kernel
theorem dX12_goesOn_579 : decode cX12_goesOn 579 = .ok (.aload_n 0, 1) := by decide +kernel
theorem dX12_goesOn_580 : decode cX12_goesOn 580 = .ok (.getfield 139, 3) := by decide +kernel
theorem dX12_goesOn_583 : decode cX12_goesOn 583 = .ok (.aload_n 0, 1) := by decide +kernel
theorem dX12_goesOn_584 : decode cX12_goesOn 584 = .ok (.getfield 152, 3) := by decide +kernel
theorem dX12_goesOn_587 : decode cX12_goesOn 587 = .ok (.iconst 1, 1) := by decide +kernel
theorem dX12_goesOn_588 : decode cX12_goesOn 588 = .ok (.isub, 1) := by decide +kernel
theorem dX12_goesOn_589 : decode cX12_goesOn 589 = .ok (.iconst 2, 1) := by decide +kernel
theorem dX12_goesOn_590 : decode cX12_goesOn 590 = .ok (.iastore, 1) := by decide +kernel
theorem dX12_goesOn_591 : decode cX12_goesOn 591 = .ok (.aload_n 0, 1) := by decide +kernel
theorem dX12_goesOn_592 : decode cX12_goesOn 592 = .ok (.invokevirtual 308, 3) := by decide +kernel
theorem dX12_goesOn_595 : decode cX12_goesOn 595 = .ok (.iconst 1, 1) := by decide +kernel
theorem dX12_goesOn_596 : decode cX12_goesOn 596 = .ok (.ireturn, 1) := by decide +kernel
theorem dX12_reads_0 : decode cX12_reads 0 = .ok (.aload_n 0, 1) := by decide +kernel
theorem dX12_reads_1 : decode cX12_reads 1 = .ok (.getfield 36, 3) := by decide +kernel
theorem dX12_reads_4 : decode cX12_reads 4 = .ok (.ifCond .le 4, 3) := by decide +kernel
theorem dX12_reads_7 : decode cX12_reads 7 = .ok (.return_, 1) := by decide +kernel
theorem dX12_reads_8 : decode cX12_reads 8 = .ok (.aload_n 0, 1) := by decide +kernel
theorem dX12_reads_9 : decode cX12_reads 9 = .ok (.iconst 0, 1) := by decide +kernel
theorem dX12_reads_10 : decode cX12_reads 10 = .ok (.putfield 152, 3) := by decide +kernel
theorem dX12_reads_13 : decode cX12_reads 13 = .ok (.aload_n 0, 1) := by decide +kernel
theorem dX12_reads_14 : decode cX12_reads 14 = .ok (.iconst 0, 1) := by decide +kernel
theorem dX12_reads_15 : decode cX12_reads 15 = .ok (.putfield 155, 3) := by decide +kernel
theorem dX12_reads_18 : decode cX12_reads 18 = .ok (.aload_n 0, 1) := by decide +kernel
theorem dX12_reads_19 : decode cX12_reads 19 = .ok (.iconst 0, 1) := by decide +kernel
theorem dX12_reads_20 : decode cX12_reads 20 = .ok (.putfield 161, 3) := by decide +kernel
theorem dX12_reads_23 : decode cX12_reads 23 = .ok (.aload_n 0, 1) := by decide +kernel
theorem dX12_reads_24 : decode cX12_reads 24 = .ok (.iconst 0, 1) := by decide +kernel
theorem dX12_reads_25 : decode cX12_reads 25 = .ok (.putfield 164, 3) := by decide +kernel
theorem dX12_reads_28 : decode cX12_reads 28 = .ok (.aload_n 0, 1) := by decide +kernel
theorem dX12_reads_29 : decode cX12_reads 29 = .ok (.iload_n 1, 1) := by decide +kernel
theorem dX12_reads_30 : decode cX12_reads 30 = .ok (.ifCond .eq 7, 3) := by decide +kernel
theorem dX12_reads_33 : decode cX12_reads 33 = .ok (.iconst 1, 1) := by decide +kernel
theorem dX12_reads_34 : decode cX12_reads 34 = .ok (.goto 4, 3) := by decide +kernel
theorem dX12_reads_37 : decode cX12_reads 37 = .ok (.iconst 0, 1) := by decide +kernel
theorem dX12_reads_38 : decode cX12_reads 38 = .ok (.invokevirtual 379, 3) := by decide +kernel
theorem dX12_reads_41 : decode cX12_reads 41 = .ok (.iconst 1, 1) := by decide +kernel
theorem dX12_reads_42 : decode cX12_reads 42 = .ok (.istore_n 2, 1) := by decide +kernel
theorem dX12_reads_43 : decode cX12_reads 43 = .ok (.iload_n 2, 1) := by decide +kernel
theorem dX12_reads_44 : decode cX12_reads 44 = .ok (.ifCond .eq 46, 3) := by decide +kernel
theorem dX12_reads_47 : decode cX12_reads 47 = .ok (.aload_n 0, 1) := by decide +kernel
theorem dX12_reads_48 : decode cX12_reads 48 = .ok (.getfield 164, 3) := by decide +kernel
theorem dX12_reads_51 : decode cX12_reads 51 = .ok (.ifCond .ne 14, 3) := by decide +kernel
theorem dX12_reads_54 : decode cX12_reads 54 = .ok (.aload_n 0, 1) := by decide +kernel
theorem dX12_reads_55 : decode cX12_reads 55 = .ok (.aload_n 0, 1) := by decide +kernel
theorem dX12_reads_56 : decode cX12_reads 56 = .ok (.invokevirtual 397, 3) := by decide +kernel
theorem dX12_reads_59 : decode cX12_reads 59 = .ok (.putfield 164, 3) := by decide +kernel
theorem dX12_reads_62 : decode cX12_reads 62 = .ok (.goto 8, 3) := by decide +kernel
theorem dX12_reads_65 : decode cX12_reads 65 = .ok (.aload_n 0, 1) := by decide +kernel
theorem dX12_reads_66 : decode cX12_reads 66 = .ok (.invokevirtual 400, 3) := by decide +kernel
theorem dX12_reads_69 : decode cX12_reads 69 = .ok (.istore_n 2, 1) := by decide +kernel
theorem dX12_reads_70 : decode cX12_reads 70 = .ok (.iload_n 2, 1) := by decide +kernel
theorem dX12_reads_71 : decode cX12_reads 71 = .ok (.ifCond .eq 14, 3) := by decide +kernel
theorem dX12_reads_74 : decode cX12_reads 74 = .ok (.aload_n 0, 1) := by decide +kernel
theorem dX12_reads_75 : decode cX12_reads 75 = .ok (.getfield 36, 3) := by decide +kernel
theorem dX12_reads_78 : decode cX12_reads 78 = .ok (.ifCond .ne 7, 3) := by decide +kernel
theorem dX12_reads_81 : decode cX12_reads 81 = .ok (.iconst 1, 1) := by decide +kernel
theorem dX12_reads_82 : decode cX12_reads 82 = .ok (.goto 4, 3) := by decide +kernel
theorem dX12_reads_85 : decode cX12_reads 85 = .ok (.iconst 0, 1) := by decide +kernel
theorem dX12_reads_86 : decode cX12_reads 86 = .ok (.istore_n 2, 1) := by decide +kernel
theorem dX12_reads_87 : decode cX12_reads 87 = .ok (.goto (-44), 3) := by decide +kernel
theorem dX12_reads_90 : decode cX12_reads 90 = .ok (.return_, 1) := by decide +kernel
theorem dX12_counts_0 : decode cX12_counts 0 = .ok (.aload_n 0, 1) := by decide +kernel
theorem dX12_counts_1 : decode cX12_counts 1 = .ok (.getfield 36, 3) := by decide +kernel
theorem dX12_counts_4 : decode cX12_counts 4 = .ok (.ifCond .ne 17, 3) := by decide +kernel
theorem dX12_counts_7 : decode cX12_counts 7 = .ok (.iload_n 1, 1) := by decide +kernel
theorem dX12_counts_8 : decode cX12_counts 8 = .ok (.ifCond .eq 13, 3) := by decide +kernel
theorem dX12_counts_11 : decode cX12_counts 11 = .ok (.aload_n 0, 1) := by decide +kernel
theorem dX12_counts_12 : decode cX12_counts 12 = .ok (.bipush 6, 2) := by decide +kernel
theorem dX12_counts_14 : decode cX12_counts 14 = .ok (.aload_n 0, 1) := by decide +kernel
theorem dX12_counts_15 : decode cX12_counts 15 = .ok (.getfield 23, 3) := by decide +kernel
theorem dX12_counts_18 : decode cX12_counts 18 = .ok (.invokevirtual 287, 3) := by decide +kernel
theorem dX12_counts_21 : decode cX12_counts 21 = .ok (.aload_n 0, 1) := by decide +kernel
theorem dX12_counts_22 : decode cX12_counts 22 = .ok (.getfield 36, 3) := by decide +kernel
theorem dX12_counts_25 : decode cX12_counts 25 = .ok (.ifCond .ne 7, 3) := by decide +kernel
theorem dX12_counts_28 : decode cX12_counts 28 = .ok (.aload_n 0, 1) := by decide +kernel
theorem dX12_counts_29 : decode cX12_counts 29 = .ok (.invokevirtual 308, 3) := by decide +kernel
theorem dX12_counts_32 : decode cX12_counts 32 = .ok (.aload_n 0, 1) := by decide +kernel
theorem dX12_counts_33 : decode cX12_counts 33 = .ok (.getfield 36, 3) := by decide +kernel
theorem dX12_counts_36 : decode cX12_counts 36 = .ok (.ifCond .ne 7, 3) := by decide +kernel
theorem dX12_counts_39 : decode cX12_counts 39 = .ok (.iconst 1, 1) := by decide +kernel
theorem dX12_counts_40 : decode cX12_counts 40 = .ok (.goto 4, 3) := by decide +kernel
theorem dX12_counts_43 : decode cX12_counts 43 = .ok (.iconst 0, 1) := by decide +kernel
theorem dX12_counts_44 : decode cX12_counts 44 = .ok (.ireturn, 1) := by decide +kernel
theorem dX12_must__0 : decode cX12_must_ 0 = .ok (.aload_n 0, 1) := by decide +kernel
theorem dX12_must__1 : decode cX12_must_ 1 = .ok (.invokevirtual 302, 3) := by decide +kernel
theorem dX12_must__4 : decode cX12_must_ 4 = .ok (.aload_n 0, 1) := by decide +kernel
theorem dX12_must__5 : decode cX12_must_ 5 = .ok (.getfield 36, 3) := by decide +kernel
theorem dX12_must__8 : decode cX12_must_ 8 = .ok (.ifCond .le 4, 3) := by decide +kernel
theorem dX12_must__11 : decode cX12_must_ 11 = .ok (.return_, 1) := by decide +kernel
theorem dX12_must__12 : decode cX12_must_ 12 = .ok (.aload_n 0, 1) := by decide +kernel
theorem dX12_must__13 : decode cX12_must_ 13 = .ok (.lload_n 1, 1) := by decide +kernel
theorem dX12_must__14 : decode cX12_must_ 14 = .ok (.invokevirtual 385, 3) := by decide +kernel
theorem dX12_must__17 : decode cX12_must_ 17 = .ok (.ifCond .ne 12, 3) := by decide +kernel
theorem dX12_must__20 : decode cX12_must_ 20 = .ok (.aload_n 0, 1) := by decide +kernel
theorem dX12_must__21 : decode cX12_must_ 21 = .ok (.iconst 1, 1) := by decide +kernel
theorem dX12_must__22 : decode cX12_must_ 22 = .ok (.aload_n 0, 1) := by decide +kernel
theorem dX12_must__23 : decode cX12_must_ 23 = .ok (.getfield 23, 3) := by decide +kernel
theorem dX12_must__26 : decode cX12_must_ 26 = .ok (.invokevirtual 287, 3) := by decide +kernel
theorem dX12_must__29 : decode cX12_must_ 29 = .ok (.aload_n 0, 1) := by decide +kernel
theorem dX12_must__30 : decode cX12_must_ 30 = .ok (.getfield 36, 3) := by decide +kernel
theorem dX12_must__33 : decode cX12_must_ 33 = .ok (.ifCond .ne 7, 3) := by decide +kernel
theorem dX12_must__36 : decode cX12_must_ 36 = .ok (.aload_n 0, 1) := by decide +kernel
theorem dX12_must__37 : decode cX12_must_ 37 = .ok (.invokevirtual 308, 3) := by decide +kernel
theorem dX12_must__40 : decode cX12_must_ 40 = .ok (.return_, 1) := by decide +kernel
theorem dX12_fresh_0 : decode cX12_fresh 0 = .ok (.aload_n 0, 1) := by decide +kernel
theorem dX12_fresh_1 : decode cX12_fresh 1 = .ok (.invokevirtual 302, 3) := by decide +kernel
theorem dX12_fresh_4 : decode cX12_fresh 4 = .ok (.aload_n 0, 1) := by decide +kernel
theorem dX12_fresh_5 : decode cX12_fresh 5 = .ok (.getfield 36, 3) := by decide +kernel
theorem dX12_fresh_8 : decode cX12_fresh 8 = .ok (.ifCond .le 5, 3) := by decide +kernel
theorem dX12_fresh_11 : decode cX12_fresh 11 = .ok (.lconst 0, 1) := by decide +kernel
theorem dX12_fresh_12 : decode cX12_fresh 12 = .ok (.lreturn, 1) := by decide +kernel
theorem dX12_fresh_13 : decode cX12_fresh 13 = .ok (.aload_n 0, 1) := by decide +kernel
theorem dX12_fresh_14 : decode cX12_fresh 14 = .ok (.getfield 20, 3) := by decide +kernel
theorem dX12_fresh_17 : decode cX12_fresh 17 = .ok (.iconst 1, 1) := by decide +kernel
theorem dX12_fresh_18 : decode cX12_fresh 18 = .ok (.if_icmp .ne 14, 3) := by decide +kernel
theorem dX12_fresh_21 : decode cX12_fresh 21 = .ok (.aload_n 0, 1) := by decide +kernel
theorem dX12_fresh_22 : decode cX12_fresh 22 = .ok (.aload_n 0, 1) := by decide +kernel
theorem dX12_fresh_23 : decode cX12_fresh 23 = .ok (.getfield 32, 3) := by decide +kernel
theorem dX12_fresh_26 : decode cX12_fresh 26 = .ok (.invokevirtual 298, 3) := by decide +kernel
theorem dX12_fresh_29 : decode cX12_fresh 29 = .ok (.ifCond .eq 12, 3) := by decide +kernel
theorem dX12_fresh_32 : decode cX12_fresh 32 = .ok (.aload_n 0, 1) := by decide +kernel
theorem dX12_fresh_33 : decode cX12_fresh 33 = .ok (.iconst 1, 1) := by decide +kernel
theorem dX12_fresh_34 : decode cX12_fresh 34 = .ok (.aload_n 0, 1) := by decide +kernel
theorem dX12_fresh_35 : decode cX12_fresh 35 = .ok (.getfield 23, 3) := by decide +kernel
theorem dX12_fresh_38 : decode cX12_fresh 38 = .ok (.invokevirtual 287, 3) := by decide +kernel
theorem dX12_fresh_41 : decode cX12_fresh 41 = .ok (.iconst 0, 1) := by decide +kernel
theorem dX12_fresh_42 : decode cX12_fresh 42 = .ok (.istore_n 1, 1) := by decide +kernel
theorem dX12_fresh_43 : decode cX12_fresh 43 = .ok (.iload_n 1, 1) := by decide +kernel
theorem dX12_fresh_44 : decode cX12_fresh 44 = .ok (.iconst 3, 1) := by decide +kernel
theorem dX12_fresh_45 : decode cX12_fresh 45 = .ok (.if_icmp .gt 38, 3) := by decide +kernel
theorem dX12_fresh_48 : decode cX12_fresh 48 = .ok (.aload_n 0, 1) := by decide +kernel
theorem dX12_fresh_49 : decode cX12_fresh 49 = .ok (.getfield 36, 3) := by decide +kernel
theorem dX12_fresh_52 : decode cX12_fresh 52 = .ok (.ifCond .ne 31, 3) := by decide +kernel
theorem dX12_fresh_55 : decode cX12_fresh 55 = .ok (.aload_n 0, 1) := by decide +kernel
theorem dX12_fresh_56 : decode cX12_fresh 56 = .ok (.iload_n 1, 1) := by decide +kernel
theorem dX12_fresh_57 : decode cX12_fresh 57 = .ok (.aload_n 0, 1) := by decide +kernel
theorem dX12_fresh_58 : decode cX12_fresh 58 = .ok (.getfield 32, 3) := by decide +kernel
theorem dX12_fresh_61 : decode cX12_fresh 61 = .ok (.invokevirtual 403, 3) := by decide +kernel
theorem dX12_fresh_64 : decode cX12_fresh 64 = .ok (.iconst (-1), 1) := by decide +kernel
theorem dX12_fresh_65 : decode cX12_fresh 65 = .ok (.if_icmp .eq 12, 3) := by decide +kernel
theorem dX12_fresh_68 : decode cX12_fresh 68 = .ok (.aload_n 0, 1) := by decide +kernel
theorem dX12_fresh_69 : decode cX12_fresh 69 = .ok (.iconst 2, 1) := by decide +kernel
theorem dX12_fresh_70 : decode cX12_fresh 70 = .ok (.aload_n 0, 1) := by decide +kernel
theorem dX12_fresh_71 : decode cX12_fresh 71 = .ok (.getfield 23, 3) := by decide +kernel
theorem dX12_fresh_74 : decode cX12_fresh 74 = .ok (.invokevirtual 287, 3) := by decide +kernel
theorem dX12_fresh_77 : decode cX12_fresh 77 = .ok (.iinc 1 1, 3) := by decide +kernel
theorem dX12_fresh_80 : decode cX12_fresh 80 = .ok (.goto (-37), 3) := by decide +kernel
theorem dX12_fresh_83 : decode cX12_fresh 83 = .ok (.aload_n 0, 1) := by decide +kernel
theorem dX12_fresh_84 : decode cX12_fresh 84 = .ok (.getfield 32, 3) := by decide +kernel
theorem dX12_fresh_87 : decode cX12_fresh 87 = .ok (.lstore_n 1, 1) := by decide +kernel
theorem dX12_fresh_88 : decode cX12_fresh 88 = .ok (.aload_n 0, 1) := by decide +kernel
theorem dX12_fresh_89 : decode cX12_fresh 89 = .ok (.getfield 36, 3) := by decide +kernel
theorem dX12_fresh_92 : decode cX12_fresh 92 = .ok (.ifCond .ne 7, 3) := by decide +kernel
theorem dX12_fresh_95 : decode cX12_fresh 95 = .ok (.aload_n 0, 1) := by decide +kernel
theorem dX12_fresh_96 : decode cX12_fresh 96 = .ok (.invokevirtual 308, 3) := by decide +kernel
theorem dX12_fresh_99 : decode cX12_fresh 99 = .ok (.lload_n 1, 1) := by decide +kernel
theorem dX12_fresh_100 : decode cX12_fresh 100 = .ok (.lreturn, 1) := by decide +kernel
theorem dX12_looked_0 : decode cX12_looked 0 = .ok (.aload_n 0, 1) := by decide +kernel
theorem dX12_looked_1 : decode cX12_looked 1 = .ok (.invokevirtual 302, 3) := by decide +kernel
theorem dX12_looked_4 : decode cX12_looked 4 = .ok (.aload_n 0, 1) := by decide +kernel
theorem dX12_looked_5 : decode cX12_looked 5 = .ok (.getfield 36, 3) := by decide +kernel
theorem dX12_looked_8 : decode cX12_looked 8 = .ok (.ifCond .le 5, 3) := by decide +kernel
theorem dX12_looked_11 : decode cX12_looked 11 = .ok (.iconst 0, 1) := by decide +kernel
theorem dX12_looked_12 : decode cX12_looked 12 = .ok (.ireturn, 1) := by decide +kernel
theorem dX12_looked_13 : decode cX12_looked 13 = .ok (.aload_n 0, 1) := by decide +kernel
theorem dX12_looked_14 : decode cX12_looked 14 = .ok (.getfield 20, 3) := by decide +kernel
theorem dX12_looked_17 : decode cX12_looked 17 = .ok (.iconst 1, 1) := by decide +kernel
theorem dX12_looked_18 : decode cX12_looked 18 = .ok (.if_icmp .ne 14, 3) := by decide +kernel
theorem dX12_looked_21 : decode cX12_looked 21 = .ok (.aload_n 0, 1) := by decide +kernel
theorem dX12_looked_22 : decode cX12_looked 22 = .ok (.aload_n 0, 1) := by decide +kernel
theorem dX12_looked_23 : decode cX12_looked 23 = .ok (.getfield 32, 3) := by decide +kernel
theorem dX12_looked_26 : decode cX12_looked 26 = .ok (.invokevirtual 298, 3) := by decide +kernel
theorem dX12_looked_29 : decode cX12_looked 29 = .ok (.ifCond .eq 12, 3) := by decide +kernel
theorem dX12_looked_32 : decode cX12_looked 32 = .ok (.aload_n 0, 1) := by decide +kernel
theorem dX12_looked_33 : decode cX12_looked 33 = .ok (.iconst 1, 1) := by decide +kernel
theorem dX12_looked_34 : decode cX12_looked 34 = .ok (.aload_n 0, 1) := by decide +kernel
theorem dX12_looked_35 : decode cX12_looked 35 = .ok (.getfield 23, 3) := by decide +kernel
theorem dX12_looked_38 : decode cX12_looked 38 = .ok (.invokevirtual 287, 3) := by decide +kernel
theorem dX12_looked_41 : decode cX12_looked 41 = .ok (.aload_n 0, 1) := by decide +kernel
theorem dX12_looked_42 : decode cX12_looked 42 = .ok (.getfield 36, 3) := by decide +kernel
theorem dX12_looked_45 : decode cX12_looked 45 = .ok (.ifCond .le 7, 3) := by decide +kernel
theorem dX12_looked_48 : decode cX12_looked 48 = .ok (.iconst 0, 1) := by decide +kernel
theorem dX12_looked_49 : decode cX12_looked 49 = .ok (.goto 12, 3) := by decide +kernel
theorem dX12_looked_52 : decode cX12_looked 52 = .ok (.aload_n 0, 1) := by decide +kernel
theorem dX12_looked_53 : decode cX12_looked 53 = .ok (.iload_n 1, 1) := by decide +kernel
theorem dX12_looked_54 : decode cX12_looked 54 = .ok (.aload_n 0, 1) := by decide +kernel
theorem dX12_looked_55 : decode cX12_looked 55 = .ok (.getfield 32, 3) := by decide +kernel
theorem dX12_looked_58 : decode cX12_looked 58 = .ok (.invokevirtual 403, 3) := by decide +kernel
theorem dX12_looked_61 : decode cX12_looked 61 = .ok (.istore_n 2, 1) := by decide +kernel
theorem dX12_looked_62 : decode cX12_looked 62 = .ok (.aload_n 0, 1) := by decide +kernel
theorem dX12_looked_63 : decode cX12_looked 63 = .ok (.getfield 36, 3) := by decide +kernel
theorem dX12_looked_66 : decode cX12_looked 66 = .ok (.ifCond .ne 17, 3) := by decide +kernel
theorem dX12_looked_69 : decode cX12_looked 69 = .ok (.iload_n 2, 1) := by decide +kernel
theorem dX12_looked_70 : decode cX12_looked 70 = .ok (.iconst (-1), 1) := by decide +kernel
theorem dX12_looked_71 : decode cX12_looked 71 = .ok (.if_icmp .ne 12, 3) := by decide +kernel
theorem dX12_looked_74 : decode cX12_looked 74 = .ok (.aload_n 0, 1) := by decide +kernel
theorem dX12_looked_75 : decode cX12_looked 75 = .ok (.iconst 3, 1) := by decide +kernel
theorem dX12_looked_76 : decode cX12_looked 76 = .ok (.aload_n 0, 1) := by decide +kernel
theorem dX12_looked_77 : decode cX12_looked 77 = .ok (.getfield 23, 3) := by decide +kernel
theorem dX12_looked_80 : decode cX12_looked 80 = .ok (.invokevirtual 287, 3) := by decide +kernel
theorem dX12_looked_83 : decode cX12_looked 83 = .ok (.aload_n 0, 1) := by decide +kernel
theorem dX12_looked_84 : decode cX12_looked 84 = .ok (.getfield 36, 3) := by decide +kernel
theorem dX12_looked_87 : decode cX12_looked 87 = .ok (.ifCond .le 7, 3) := by decide +kernel
theorem dX12_looked_90 : decode cX12_looked 90 = .ok (.iconst 0, 1) := by decide +kernel
theorem dX12_looked_91 : decode cX12_looked 91 = .ok (.goto 4, 3) := by decide +kernel
theorem dX12_looked_94 : decode cX12_looked 94 = .ok (.iload_n 2, 1) := by decide +kernel
theorem dX12_looked_95 : decode cX12_looked 95 = .ok (.ireturn, 1) := by decide +kernel
theorem dX12_asked_0 : decode cX12_asked 0 = .ok (.aload_n 0, 1) := by decide +kernel
theorem dX12_asked_1 : decode cX12_asked 1 = .ok (.iload_n 1, 1) := by decide +kernel
theorem dX12_asked_2 : decode cX12_asked 2 = .ok (.invokevirtual 407, 3) := by decide +kernel
theorem dX12_asked_5 : decode cX12_asked 5 = .ok (.istore_n 2, 1) := by decide +kernel
theorem dX12_asked_6 : decode cX12_asked 6 = .ok (.aload_n 0, 1) := by decide +kernel
theorem dX12_asked_7 : decode cX12_asked 7 = .ok (.getfield 36, 3) := by decide +kernel
theorem dX12_asked_10 : decode cX12_asked 10 = .ok (.ifCond .ne 7, 3) := by decide +kernel
theorem dX12_asked_13 : decode cX12_asked 13 = .ok (.aload_n 0, 1) := by decide +kernel
theorem dX12_asked_14 : decode cX12_asked 14 = .ok (.invokevirtual 308, 3) := by decide +kernel
theorem dX12_asked_17 : decode cX12_asked 17 = .ok (.aload_n 0, 1) := by decide +kernel
theorem dX12_asked_18 : decode cX12_asked 18 = .ok (.getfield 36, 3) := by decide +kernel
theorem dX12_asked_21 : decode cX12_asked 21 = .ok (.ifCond .le 7, 3) := by decide +kernel
theorem dX12_asked_24 : decode cX12_asked 24 = .ok (.iconst 0, 1) := by decide +kernel
theorem dX12_asked_25 : decode cX12_asked 25 = .ok (.goto 4, 3) := by decide +kernel
theorem dX12_asked_28 : decode cX12_asked 28 = .ok (.iload_n 2, 1) := by decide +kernel
theorem dX12_asked_29 : decode cX12_asked 29 = .ok (.ireturn, 1) := by decide +kernel
theorem dX12_booking_0 : decode cX12_booking 0 = .ok (.aload_n 0, 1) := by decide +kernel
theorem dX12_booking_1 : decode cX12_booking 1 = .ok (.aload_n 0, 1) := by decide +kernel
theorem dX12_booking_2 : decode cX12_booking 2 = .ok (.getfield 54, 3) := by decide +kernel
theorem dX12_booking_5 : decode cX12_booking 5 = .ok (.aload_n 0, 1) := by decide +kernel
theorem dX12_booking_6 : decode cX12_booking 6 = .ok (.getfield 133, 3) := by decide +kernel
theorem dX12_booking_9 : decode cX12_booking 9 = .ok (.iaload, 1) := by decide +kernel
theorem dX12_booking_10 : decode cX12_booking 10 = .ok (.iconst 5, 1) := by decide +kernel
theorem dX12_booking_11 : decode cX12_booking 11 = .ok (.if_icmp .ne 7, 3) := by decide +kernel
theorem dX12_booking_14 : decode cX12_booking 14 = .ok (.iconst 1, 1) := by decide +kernel
theorem dX12_booking_15 : decode cX12_booking 15 = .ok (.goto 4, 3) := by decide +kernel
theorem dX12_booking_18 : decode cX12_booking 18 = .ok (.iconst 0, 1) := by decide +kernel
theorem dX12_booking_19 : decode cX12_booking 19 = .ok (.invokevirtual 410, 3) := by decide +kernel
theorem dX12_booking_22 : decode cX12_booking 22 = .ok (.ifCond .ne 4, 3) := by decide +kernel
theorem dX12_booking_25 : decode cX12_booking 25 = .ok (.return_, 1) := by decide +kernel
theorem dX12_booking_26 : decode cX12_booking 26 = .ok (.aload_n 0, 1) := by decide +kernel
theorem dX12_booking_27 : decode cX12_booking 27 = .ok (.getfield 117, 3) := by decide +kernel
theorem dX12_booking_30 : decode cX12_booking 30 = .ok (.iconst 5, 1) := by decide +kernel
theorem dX12_booking_31 : decode cX12_booking 31 = .ok (.aload_n 0, 1) := by decide +kernel
theorem dX12_booking_32 : decode cX12_booking 32 = .ok (.getfield 133, 3) := by decide +kernel
theorem dX12_booking_35 : decode cX12_booking 35 = .ok (.imul, 1) := by decide +kernel
theorem dX12_booking_36 : decode cX12_booking 36 = .ok (.aload_n 0, 1) := by decide +kernel
theorem dX12_booking_37 : decode cX12_booking 37 = .ok (.getfield 54, 3) := by decide +kernel
theorem dX12_booking_40 : decode cX12_booking 40 = .ok (.aload_n 0, 1) := by decide +kernel
theorem dX12_booking_41 : decode cX12_booking 41 = .ok (.getfield 133, 3) := by decide +kernel
theorem dX12_booking_44 : decode cX12_booking 44 = .ok (.iaload, 1) := by decide +kernel
theorem dX12_booking_45 : decode cX12_booking 45 = .ok (.iadd, 1) := by decide +kernel
theorem dX12_booking_46 : decode cX12_booking 46 = .ok (.aload_n 0, 1) := by decide +kernel
theorem dX12_booking_47 : decode cX12_booking 47 = .ok (.invokevirtual 414, 3) := by decide +kernel
theorem dX12_booking_50 : decode cX12_booking 50 = .ok (.lastore, 1) := by decide +kernel
theorem dX12_booking_51 : decode cX12_booking 51 = .ok (.aload_n 0, 1) := by decide +kernel
theorem dX12_booking_52 : decode cX12_booking 52 = .ok (.getfield 36, 3) := by decide +kernel
theorem dX12_booking_55 : decode cX12_booking 55 = .ok (.ifCond .ne 16, 3) := by decide +kernel
theorem dX12_booking_58 : decode cX12_booking 58 = .ok (.aload_n 0, 1) := by decide +kernel
theorem dX12_booking_59 : decode cX12_booking 59 = .ok (.getfield 54, 3) := by decide +kernel
theorem dX12_booking_62 : decode cX12_booking 62 = .ok (.aload_n 0, 1) := by decide +kernel
theorem dX12_booking_63 : decode cX12_booking 63 = .ok (.getfield 133, 3) := by decide +kernel
theorem dX12_booking_66 : decode cX12_booking 66 = .ok (.dup2, 1) := by decide +kernel
theorem dX12_booking_67 : decode cX12_booking 67 = .ok (.iaload, 1) := by decide +kernel
theorem dX12_booking_68 : decode cX12_booking 68 = .ok (.iconst 1, 1) := by decide +kernel
theorem dX12_booking_69 : decode cX12_booking 69 = .ok (.iadd, 1) := by decide +kernel
theorem dX12_booking_70 : decode cX12_booking 70 = .ok (.iastore, 1) := by decide +kernel
theorem dX12_booking_71 : decode cX12_booking 71 = .ok (.return_, 1) := by decide +kernel
theorem dX12_paging_0 : decode cX12_paging 0 = .ok (.aload_n 0, 1) := by decide +kernel
theorem dX12_paging_1 : decode cX12_paging 1 = .ok (.aload_n 0, 1) := by decide +kernel
theorem dX12_paging_2 : decode cX12_paging 2 = .ok (.getfield 57, 3) := by decide +kernel
theorem dX12_paging_5 : decode cX12_paging 5 = .ok (.aload_n 0, 1) := by decide +kernel
theorem dX12_paging_6 : decode cX12_paging 6 = .ok (.getfield 133, 3) := by decide +kernel
theorem dX12_paging_9 : decode cX12_paging 9 = .ok (.iaload, 1) := by decide +kernel
theorem dX12_paging_10 : decode cX12_paging 10 = .ok (.bipush 14, 2) := by decide +kernel
theorem dX12_paging_12 : decode cX12_paging 12 = .ok (.if_icmp .ne 7, 3) := by decide +kernel
theorem dX12_paging_15 : decode cX12_paging 15 = .ok (.iconst 1, 1) := by decide +kernel
theorem dX12_paging_16 : decode cX12_paging 16 = .ok (.goto 4, 3) := by decide +kernel
theorem dX12_paging_19 : decode cX12_paging 19 = .ok (.iconst 0, 1) := by decide +kernel
theorem dX12_paging_20 : decode cX12_paging 20 = .ok (.invokevirtual 410, 3) := by decide +kernel
theorem dX12_paging_23 : decode cX12_paging 23 = .ok (.ifCond .ne 4, 3) := by decide +kernel
theorem dX12_paging_26 : decode cX12_paging 26 = .ok (.return_, 1) := by decide +kernel
theorem dX12_paging_27 : decode cX12_paging 27 = .ok (.bipush 14, 2) := by decide +kernel
theorem dX12_paging_29 : decode cX12_paging 29 = .ok (.aload_n 0, 1) := by decide +kernel
theorem dX12_paging_30 : decode cX12_paging 30 = .ok (.getfield 133, 3) := by decide +kernel
theorem dX12_paging_33 : decode cX12_paging 33 = .ok (.imul, 1) := by decide +kernel
theorem dX12_paging_34 : decode cX12_paging 34 = .ok (.aload_n 0, 1) := by decide +kernel
theorem dX12_paging_35 : decode cX12_paging 35 = .ok (.getfield 57, 3) := by decide +kernel
theorem dX12_paging_38 : decode cX12_paging 38 = .ok (.aload_n 0, 1) := by decide +kernel
theorem dX12_paging_39 : decode cX12_paging 39 = .ok (.getfield 133, 3) := by decide +kernel
theorem dX12_paging_42 : decode cX12_paging 42 = .ok (.iaload, 1) := by decide +kernel
theorem dX12_paging_43 : decode cX12_paging 43 = .ok (.iadd, 1) := by decide +kernel
theorem dX12_paging_44 : decode cX12_paging 44 = .ok (.istore_n 1, 1) := by decide +kernel
theorem dX12_paging_45 : decode cX12_paging 45 = .ok (.aload_n 0, 1) := by decide +kernel
theorem dX12_paging_46 : decode cX12_paging 46 = .ok (.getfield 121, 3) := by decide +kernel
theorem dX12_paging_49 : decode cX12_paging 49 = .ok (.iload_n 1, 1) := by decide +kernel
theorem dX12_paging_50 : decode cX12_paging 50 = .ok (.aload_n 0, 1) := by decide +kernel
theorem dX12_paging_51 : decode cX12_paging 51 = .ok (.invokevirtual 414, 3) := by decide +kernel
theorem dX12_paging_54 : decode cX12_paging 54 = .ok (.lastore, 1) := by decide +kernel
theorem dX12_paging_55 : decode cX12_paging 55 = .ok (.aload_n 0, 1) := by decide +kernel
theorem dX12_paging_56 : decode cX12_paging 56 = .ok (.ldc2_w 315, 3) := by decide +kernel
theorem dX12_paging_59 : decode cX12_paging 59 = .ok (.invokevirtual 418, 3) := by decide +kernel
theorem dX12_paging_62 : decode cX12_paging 62 = .ok (.aload_n 0, 1) := by decide +kernel
theorem dX12_paging_63 : decode cX12_paging 63 = .ok (.getfield 60, 3) := by decide +kernel
theorem dX12_paging_66 : decode cX12_paging 66 = .ok (.iload_n 1, 1) := by decide +kernel
theorem dX12_paging_67 : decode cX12_paging 67 = .ok (.aload_n 0, 1) := by decide +kernel
theorem dX12_paging_68 : decode cX12_paging 68 = .ok (.iconst 0, 1) := by decide +kernel
theorem dX12_paging_69 : decode cX12_paging 69 = .ok (.invokevirtual 422, 3) := by decide +kernel
theorem dX12_paging_72 : decode cX12_paging 72 = .ok (.iastore, 1) := by decide +kernel
theorem dX12_paging_73 : decode cX12_paging 73 = .ok (.aload_n 0, 1) := by decide +kernel
theorem dX12_paging_74 : decode cX12_paging 74 = .ok (.ldc2_w 317, 3) := by decide +kernel
theorem dX12_paging_77 : decode cX12_paging 77 = .ok (.invokevirtual 418, 3) := by decide +kernel
theorem dX12_paging_80 : decode cX12_paging 80 = .ok (.aload_n 0, 1) := by decide +kernel
theorem dX12_paging_81 : decode cX12_paging 81 = .ok (.getfield 63, 3) := by decide +kernel
theorem dX12_paging_84 : decode cX12_paging 84 = .ok (.iload_n 1, 1) := by decide +kernel
theorem dX12_paging_85 : decode cX12_paging 85 = .ok (.aload_n 0, 1) := by decide +kernel
theorem dX12_paging_86 : decode cX12_paging 86 = .ok (.iconst 1, 1) := by decide +kernel
theorem dX12_paging_87 : decode cX12_paging 87 = .ok (.bipush 99, 2) := by decide +kernel
theorem dX12_paging_89 : decode cX12_paging 89 = .ok (.invokevirtual 425, 3) := by decide +kernel
theorem dX12_paging_92 : decode cX12_paging 92 = .ok (.iastore, 1) := by decide +kernel
theorem dX12_paging_93 : decode cX12_paging 93 = .ok (.aload_n 0, 1) := by decide +kernel
theorem dX12_paging_94 : decode cX12_paging 94 = .ok (.getfield 66, 3) := by decide +kernel
theorem dX12_paging_97 : decode cX12_paging 97 = .ok (.iload_n 1, 1) := by decide +kernel
theorem dX12_paging_98 : decode cX12_paging 98 = .ok (.iconst 0, 1) := by decide +kernel
theorem dX12_paging_99 : decode cX12_paging 99 = .ok (.iastore, 1) := by decide +kernel
theorem dX12_paging_100 : decode cX12_paging 100 = .ok (.aload_n 0, 1) := by decide +kernel
theorem dX12_paging_101 : decode cX12_paging 101 = .ok (.getfield 69, 3) := by decide +kernel
theorem dX12_paging_104 : decode cX12_paging 104 = .ok (.iload_n 1, 1) := by decide +kernel
theorem dX12_paging_105 : decode cX12_paging 105 = .ok (.iconst 0, 1) := by decide +kernel
theorem dX12_paging_106 : decode cX12_paging 106 = .ok (.iastore, 1) := by decide +kernel
theorem dX12_paging_107 : decode cX12_paging 107 = .ok (.aload_n 0, 1) := by decide +kernel
theorem dX12_paging_108 : decode cX12_paging 108 = .ok (.invokevirtual 302, 3) := by decide +kernel
theorem dX12_paging_111 : decode cX12_paging 111 = .ok (.aload_n 0, 1) := by decide +kernel
theorem dX12_paging_112 : decode cX12_paging 112 = .ok (.getfield 36, 3) := by decide +kernel
theorem dX12_paging_115 : decode cX12_paging 115 = .ok (.ifCond .le 4, 3) := by decide +kernel
theorem dX12_paging_118 : decode cX12_paging 118 = .ok (.return_, 1) := by decide +kernel
theorem dX12_paging_119 : decode cX12_paging 119 = .ok (.aload_n 0, 1) := by decide +kernel
theorem dX12_paging_120 : decode cX12_paging 120 = .ok (.ldc2_w 319, 3) := by decide +kernel
theorem dX12_paging_123 : decode cX12_paging 123 = .ok (.invokevirtual 385, 3) := by decide +kernel
theorem dX12_paging_126 : decode cX12_paging 126 = .ok (.ifCond .eq 14, 3) := by decide +kernel
theorem dX12_paging_129 : decode cX12_paging 129 = .ok (.aload_n 0, 1) := by decide +kernel
theorem dX12_paging_130 : decode cX12_paging 130 = .ok (.getfield 66, 3) := by decide +kernel
theorem dX12_paging_133 : decode cX12_paging 133 = .ok (.iload_n 1, 1) := by decide +kernel
theorem dX12_paging_134 : decode cX12_paging 134 = .ok (.iconst 1, 1) := by decide +kernel
theorem dX12_paging_135 : decode cX12_paging 135 = .ok (.iastore, 1) := by decide +kernel
theorem dX12_paging_136 : decode cX12_paging 136 = .ok (.aload_n 0, 1) := by decide +kernel
theorem dX12_paging_137 : decode cX12_paging 137 = .ok (.invokevirtual 308, 3) := by decide +kernel
theorem dX12_paging_140 : decode cX12_paging 140 = .ok (.aload_n 0, 1) := by decide +kernel
theorem dX12_paging_141 : decode cX12_paging 141 = .ok (.getfield 57, 3) := by decide +kernel
theorem dX12_paging_144 : decode cX12_paging 144 = .ok (.aload_n 0, 1) := by decide +kernel
theorem dX12_paging_145 : decode cX12_paging 145 = .ok (.getfield 133, 3) := by decide +kernel
theorem dX12_paging_148 : decode cX12_paging 148 = .ok (.dup2, 1) := by decide +kernel
theorem dX12_paging_149 : decode cX12_paging 149 = .ok (.iaload, 1) := by decide +kernel
theorem dX12_paging_150 : decode cX12_paging 150 = .ok (.iconst 1, 1) := by decide +kernel
theorem dX12_paging_151 : decode cX12_paging 151 = .ok (.iadd, 1) := by decide +kernel
theorem dX12_paging_152 : decode cX12_paging 152 = .ok (.iastore, 1) := by decide +kernel
theorem dX12_paging_153 : decode cX12_paging 153 = .ok (.return_, 1) := by decide +kernel
theorem dX12_needing_0 : decode cX12_needing 0 = .ok (.aload_n 0, 1) := by decide +kernel
theorem dX12_needing_1 : decode cX12_needing 1 = .ok (.aload_n 0, 1) := by decide +kernel
theorem dX12_needing_2 : decode cX12_needing 2 = .ok (.getfield 72, 3) := by decide +kernel
theorem dX12_needing_5 : decode cX12_needing 5 = .ok (.aload_n 0, 1) := by decide +kernel
theorem dX12_needing_6 : decode cX12_needing 6 = .ok (.getfield 133, 3) := by decide +kernel
theorem dX12_needing_9 : decode cX12_needing 9 = .ok (.iaload, 1) := by decide +kernel
theorem dX12_needing_10 : decode cX12_needing 10 = .ok (.bipush 20, 2) := by decide +kernel
theorem dX12_needing_12 : decode cX12_needing 12 = .ok (.if_icmp .ne 7, 3) := by decide +kernel
theorem dX12_needing_15 : decode cX12_needing 15 = .ok (.iconst 1, 1) := by decide +kernel
theorem dX12_needing_16 : decode cX12_needing 16 = .ok (.goto 4, 3) := by decide +kernel
theorem dX12_needing_19 : decode cX12_needing 19 = .ok (.iconst 0, 1) := by decide +kernel
theorem dX12_needing_20 : decode cX12_needing 20 = .ok (.invokevirtual 410, 3) := by decide +kernel
theorem dX12_needing_23 : decode cX12_needing 23 = .ok (.ifCond .ne 4, 3) := by decide +kernel
theorem dX12_needing_26 : decode cX12_needing 26 = .ok (.return_, 1) := by decide +kernel
theorem dX12_needing_27 : decode cX12_needing 27 = .ok (.aload_n 0, 1) := by decide +kernel
theorem dX12_needing_28 : decode cX12_needing 28 = .ok (.iconst 1, 1) := by decide +kernel
theorem dX12_needing_29 : decode cX12_needing 29 = .ok (.invokevirtual 422, 3) := by decide +kernel
theorem dX12_needing_32 : decode cX12_needing 32 = .ok (.istore_n 1, 1) := by decide +kernel
theorem dX12_needing_33 : decode cX12_needing 33 = .ok (.aload_n 0, 1) := by decide +kernel
theorem dX12_needing_34 : decode cX12_needing 34 = .ok (.iconst 1, 1) := by decide +kernel
theorem dX12_needing_35 : decode cX12_needing 35 = .ok (.invokevirtual 407, 3) := by decide +kernel
theorem dX12_needing_38 : decode cX12_needing 38 = .ok (.istore_n 2, 1) := by decide +kernel
theorem dX12_needing_39 : decode cX12_needing 39 = .ok (.aload_n 0, 1) := by decide +kernel
theorem dX12_needing_40 : decode cX12_needing 40 = .ok (.getfield 36, 3) := by decide +kernel
theorem dX12_needing_43 : decode cX12_needing 43 = .ok (.ifCond .ne 39, 3) := by decide +kernel
theorem dX12_needing_46 : decode cX12_needing 46 = .ok (.iload_n 2, 1) := by decide +kernel
theorem dX12_needing_47 : decode cX12_needing 47 = .ok (.iload_n 1, 1) := by decide +kernel
theorem dX12_needing_48 : decode cX12_needing 48 = .ok (.if_icmp .ge 25, 3) := by decide +kernel
theorem dX12_needing_51 : decode cX12_needing 51 = .ok (.aload_n 0, 1) := by decide +kernel
theorem dX12_needing_52 : decode cX12_needing 52 = .ok (.getfield 69, 3) := by decide +kernel
theorem dX12_needing_55 : decode cX12_needing 55 = .ok (.bipush 14, 2) := by decide +kernel
theorem dX12_needing_57 : decode cX12_needing 57 = .ok (.aload_n 0, 1) := by decide +kernel
theorem dX12_needing_58 : decode cX12_needing 58 = .ok (.getfield 133, 3) := by decide +kernel
theorem dX12_needing_61 : decode cX12_needing 61 = .ok (.imul, 1) := by decide +kernel
theorem dX12_needing_62 : decode cX12_needing 62 = .ok (.iload_n 1, 1) := by decide +kernel
theorem dX12_needing_63 : decode cX12_needing 63 = .ok (.iadd, 1) := by decide +kernel
theorem dX12_needing_64 : decode cX12_needing 64 = .ok (.iaload, 1) := by decide +kernel
theorem dX12_needing_65 : decode cX12_needing 65 = .ok (.iload_n 2, 1) := by decide +kernel
theorem dX12_needing_66 : decode cX12_needing 66 = .ok (.ishr, 1) := by decide +kernel
theorem dX12_needing_67 : decode cX12_needing 67 = .ok (.iconst 1, 1) := by decide +kernel
theorem dX12_needing_68 : decode cX12_needing 68 = .ok (.iand, 1) := by decide +kernel
theorem dX12_needing_69 : decode cX12_needing 69 = .ok (.iconst 1, 1) := by decide +kernel
theorem dX12_needing_70 : decode cX12_needing 70 = .ok (.if_icmp .ne 12, 3) := by decide +kernel
theorem dX12_needing_73 : decode cX12_needing 73 = .ok (.aload_n 0, 1) := by decide +kernel
theorem dX12_needing_74 : decode cX12_needing 74 = .ok (.iconst 3, 1) := by decide +kernel
theorem dX12_needing_75 : decode cX12_needing 75 = .ok (.aload_n 0, 1) := by decide +kernel
theorem dX12_needing_76 : decode cX12_needing 76 = .ok (.getfield 23, 3) := by decide +kernel
theorem dX12_needing_79 : decode cX12_needing 79 = .ok (.invokevirtual 287, 3) := by decide +kernel
theorem dX12_needing_82 : decode cX12_needing 82 = .ok (.aload_n 0, 1) := by decide +kernel
theorem dX12_needing_83 : decode cX12_needing 83 = .ok (.getfield 36, 3) := by decide +kernel
theorem dX12_needing_86 : decode cX12_needing 86 = .ok (.ifCond .le 4, 3) := by decide +kernel
theorem dX12_needing_89 : decode cX12_needing 89 = .ok (.return_, 1) := by decide +kernel
theorem dX12_needing_90 : decode cX12_needing 90 = .ok (.aload_n 0, 1) := by decide +kernel
theorem dX12_needing_91 : decode cX12_needing 91 = .ok (.invokevirtual 308, 3) := by decide +kernel
theorem dX12_needing_94 : decode cX12_needing 94 = .ok (.aload_n 0, 1) := by decide +kernel
theorem dX12_needing_95 : decode cX12_needing 95 = .ok (.getfield 69, 3) := by decide +kernel
theorem dX12_needing_98 : decode cX12_needing 98 = .ok (.bipush 14, 2) := by decide +kernel
theorem dX12_needing_100 : decode cX12_needing 100 = .ok (.aload_n 0, 1) := by decide +kernel
theorem dX12_needing_101 : decode cX12_needing 101 = .ok (.getfield 133, 3) := by decide +kernel
theorem dX12_needing_104 : decode cX12_needing 104 = .ok (.imul, 1) := by decide +kernel
theorem dX12_needing_105 : decode cX12_needing 105 = .ok (.iload_n 1, 1) := by decide +kernel
theorem dX12_needing_106 : decode cX12_needing 106 = .ok (.iadd, 1) := by decide +kernel
theorem dX12_needing_107 : decode cX12_needing 107 = .ok (.dup2, 1) := by decide +kernel
theorem dX12_needing_108 : decode cX12_needing 108 = .ok (.iaload, 1) := by decide +kernel
theorem dX12_needing_109 : decode cX12_needing 109 = .ok (.iconst 1, 1) := by decide +kernel
theorem dX12_needing_110 : decode cX12_needing 110 = .ok (.iload_n 2, 1) := by decide +kernel
theorem dX12_needing_111 : decode cX12_needing 111 = .ok (.ishl, 1) := by decide +kernel
theorem dX12_needing_112 : decode cX12_needing 112 = .ok (.ior, 1) := by decide +kernel
theorem dX12_needing_113 : decode cX12_needing 113 = .ok (.iastore, 1) := by decide +kernel
theorem dX12_needing_114 : decode cX12_needing 114 = .ok (.aload_n 0, 1) := by decide +kernel
theorem dX12_needing_115 : decode cX12_needing 115 = .ok (.getfield 72, 3) := by decide +kernel
theorem dX12_needing_118 : decode cX12_needing 118 = .ok (.aload_n 0, 1) := by decide +kernel
theorem dX12_needing_119 : decode cX12_needing 119 = .ok (.getfield 133, 3) := by decide +kernel
theorem dX12_needing_122 : decode cX12_needing 122 = .ok (.dup2, 1) := by decide +kernel
theorem dX12_needing_123 : decode cX12_needing 123 = .ok (.iaload, 1) := by decide +kernel
theorem dX12_needing_124 : decode cX12_needing 124 = .ok (.iconst 1, 1) := by decide +kernel
theorem dX12_needing_125 : decode cX12_needing 125 = .ok (.iadd, 1) := by decide +kernel
theorem dX12_needing_126 : decode cX12_needing 126 = .ok (.iastore, 1) := by decide +kernel
theorem dX12_needing_127 : decode cX12_needing 127 = .ok (.return_, 1) := by decide +kernel
theorem dX12_readering_0 : decode cX12_readering 0 = .ok (.aload_n 0, 1) := by decide +kernel
theorem dX12_readering_1 : decode cX12_readering 1 = .ok (.aload_n 0, 1) := by decide +kernel
theorem dX12_readering_2 : decode cX12_readering 2 = .ok (.getfield 75, 3) := by decide +kernel
theorem dX12_readering_5 : decode cX12_readering 5 = .ok (.aload_n 0, 1) := by decide +kernel
theorem dX12_readering_6 : decode cX12_readering 6 = .ok (.getfield 133, 3) := by decide +kernel
theorem dX12_readering_9 : decode cX12_readering 9 = .ok (.iaload, 1) := by decide +kernel
theorem dX12_readering_10 : decode cX12_readering 10 = .ok (.bipush 6, 2) := by decide +kernel
theorem dX12_readering_12 : decode cX12_readering 12 = .ok (.if_icmp .ne 7, 3) := by decide +kernel
theorem dX12_readering_15 : decode cX12_readering 15 = .ok (.iconst 1, 1) := by decide +kernel
theorem dX12_readering_16 : decode cX12_readering 16 = .ok (.goto 4, 3) := by decide +kernel
theorem dX12_readering_19 : decode cX12_readering 19 = .ok (.iconst 0, 1) := by decide +kernel
theorem dX12_readering_20 : decode cX12_readering 20 = .ok (.invokevirtual 410, 3) := by decide +kernel
theorem dX12_readering_23 : decode cX12_readering 23 = .ok (.ifCond .ne 4, 3) := by decide +kernel
theorem dX12_readering_26 : decode cX12_readering 26 = .ok (.return_, 1) := by decide +kernel
theorem dX12_readering_27 : decode cX12_readering 27 = .ok (.bipush 6, 2) := by decide +kernel
theorem dX12_readering_29 : decode cX12_readering 29 = .ok (.aload_n 0, 1) := by decide +kernel
theorem dX12_readering_30 : decode cX12_readering 30 = .ok (.getfield 133, 3) := by decide +kernel
theorem dX12_readering_33 : decode cX12_readering 33 = .ok (.imul, 1) := by decide +kernel
theorem dX12_readering_34 : decode cX12_readering 34 = .ok (.aload_n 0, 1) := by decide +kernel
theorem dX12_readering_35 : decode cX12_readering 35 = .ok (.getfield 75, 3) := by decide +kernel
theorem dX12_readering_38 : decode cX12_readering 38 = .ok (.aload_n 0, 1) := by decide +kernel
theorem dX12_readering_39 : decode cX12_readering 39 = .ok (.getfield 133, 3) := by decide +kernel
theorem dX12_readering_42 : decode cX12_readering 42 = .ok (.iaload, 1) := by decide +kernel
theorem dX12_readering_43 : decode cX12_readering 43 = .ok (.iadd, 1) := by decide +kernel
theorem dX12_readering_44 : decode cX12_readering 44 = .ok (.istore_n 1, 1) := by decide +kernel
theorem dX12_readering_45 : decode cX12_readering 45 = .ok (.aload_n 0, 1) := by decide +kernel
theorem dX12_readering_46 : decode cX12_readering 46 = .ok (.getfield 124, 3) := by decide +kernel
theorem dX12_readering_49 : decode cX12_readering 49 = .ok (.iload_n 1, 1) := by decide +kernel
theorem dX12_readering_50 : decode cX12_readering 50 = .ok (.aload_n 0, 1) := by decide +kernel
theorem dX12_readering_51 : decode cX12_readering 51 = .ok (.invokevirtual 414, 3) := by decide +kernel
theorem dX12_readering_54 : decode cX12_readering 54 = .ok (.lastore, 1) := by decide +kernel
theorem dX12_readering_55 : decode cX12_readering 55 = .ok (.aload_n 0, 1) := by decide +kernel
theorem dX12_readering_56 : decode cX12_readering 56 = .ok (.ldc2_w 325, 3) := by decide +kernel
theorem dX12_readering_59 : decode cX12_readering 59 = .ok (.invokevirtual 418, 3) := by decide +kernel
theorem dX12_readering_62 : decode cX12_readering 62 = .ok (.aload_n 0, 1) := by decide +kernel
theorem dX12_readering_63 : decode cX12_readering 63 = .ok (.getfield 78, 3) := by decide +kernel
theorem dX12_readering_66 : decode cX12_readering 66 = .ok (.iload_n 1, 1) := by decide +kernel
theorem dX12_readering_67 : decode cX12_readering 67 = .ok (.aload_n 0, 1) := by decide +kernel
theorem dX12_readering_68 : decode cX12_readering 68 = .ok (.iconst 1, 1) := by decide +kernel
theorem dX12_readering_69 : decode cX12_readering 69 = .ok (.bipush 9, 2) := by decide +kernel
theorem dX12_readering_71 : decode cX12_readering 71 = .ok (.invokevirtual 425, 3) := by decide +kernel
theorem dX12_readering_74 : decode cX12_readering 74 = .ok (.iastore, 1) := by decide +kernel
theorem dX12_readering_75 : decode cX12_readering 75 = .ok (.aload_n 0, 1) := by decide +kernel
theorem dX12_readering_76 : decode cX12_readering 76 = .ok (.ldc2_w 327, 3) := by decide +kernel
theorem dX12_readering_79 : decode cX12_readering 79 = .ok (.invokevirtual 418, 3) := by decide +kernel
theorem dX12_readering_82 : decode cX12_readering 82 = .ok (.aload_n 0, 1) := by decide +kernel
theorem dX12_readering_83 : decode cX12_readering 83 = .ok (.getfield 81, 3) := by decide +kernel
theorem dX12_readering_86 : decode cX12_readering 86 = .ok (.iload_n 1, 1) := by decide +kernel
theorem dX12_readering_87 : decode cX12_readering 87 = .ok (.aload_n 0, 1) := by decide +kernel
theorem dX12_readering_88 : decode cX12_readering 88 = .ok (.iconst 0, 1) := by decide +kernel
theorem dX12_readering_89 : decode cX12_readering 89 = .ok (.bipush 9, 2) := by decide +kernel
theorem dX12_readering_91 : decode cX12_readering 91 = .ok (.invokevirtual 425, 3) := by decide +kernel
theorem dX12_readering_94 : decode cX12_readering 94 = .ok (.iastore, 1) := by decide +kernel
theorem dX12_readering_95 : decode cX12_readering 95 = .ok (.aload_n 0, 1) := by decide +kernel
theorem dX12_readering_96 : decode cX12_readering 96 = .ok (.getfield 36, 3) := by decide +kernel
theorem dX12_readering_99 : decode cX12_readering 99 = .ok (.ifCond .ne 16, 3) := by decide +kernel
theorem dX12_readering_102 : decode cX12_readering 102 = .ok (.aload_n 0, 1) := by decide +kernel
theorem dX12_readering_103 : decode cX12_readering 103 = .ok (.getfield 75, 3) := by decide +kernel
theorem dX12_readering_106 : decode cX12_readering 106 = .ok (.aload_n 0, 1) := by decide +kernel
theorem dX12_readering_107 : decode cX12_readering 107 = .ok (.getfield 133, 3) := by decide +kernel
theorem dX12_readering_110 : decode cX12_readering 110 = .ok (.dup2, 1) := by decide +kernel
theorem dX12_readering_111 : decode cX12_readering 111 = .ok (.iaload, 1) := by decide +kernel
theorem dX12_readering_112 : decode cX12_readering 112 = .ok (.iconst 1, 1) := by decide +kernel
theorem dX12_readering_113 : decode cX12_readering 113 = .ok (.iadd, 1) := by decide +kernel
theorem dX12_readering_114 : decode cX12_readering 114 = .ok (.iastore, 1) := by decide +kernel
theorem dX12_readering_115 : decode cX12_readering 115 = .ok (.return_, 1) := by decide +kernel
theorem dX12_tabling_0 : decode cX12_tabling 0 = .ok (.aload_n 0, 1) := by decide +kernel
theorem dX12_tabling_1 : decode cX12_tabling 1 = .ok (.aload_n 0, 1) := by decide +kernel
theorem dX12_tabling_2 : decode cX12_tabling 2 = .ok (.getfield 84, 3) := by decide +kernel
theorem dX12_tabling_5 : decode cX12_tabling 5 = .ok (.aload_n 0, 1) := by decide +kernel
theorem dX12_tabling_6 : decode cX12_tabling 6 = .ok (.getfield 133, 3) := by decide +kernel
theorem dX12_tabling_9 : decode cX12_tabling 9 = .ok (.iaload, 1) := by decide +kernel
theorem dX12_tabling_10 : decode cX12_tabling 10 = .ok (.iconst 5, 1) := by decide +kernel
theorem dX12_tabling_11 : decode cX12_tabling 11 = .ok (.if_icmp .ne 7, 3) := by decide +kernel
theorem dX12_tabling_14 : decode cX12_tabling 14 = .ok (.iconst 1, 1) := by decide +kernel
theorem dX12_tabling_15 : decode cX12_tabling 15 = .ok (.goto 4, 3) := by decide +kernel
theorem dX12_tabling_18 : decode cX12_tabling 18 = .ok (.iconst 0, 1) := by decide +kernel
theorem dX12_tabling_19 : decode cX12_tabling 19 = .ok (.invokevirtual 410, 3) := by decide +kernel
theorem dX12_tabling_22 : decode cX12_tabling 22 = .ok (.ifCond .ne 4, 3) := by decide +kernel
theorem dX12_tabling_25 : decode cX12_tabling 25 = .ok (.return_, 1) := by decide +kernel
theorem dX12_tabling_26 : decode cX12_tabling 26 = .ok (.iconst 5, 1) := by decide +kernel
theorem dX12_tabling_27 : decode cX12_tabling 27 = .ok (.aload_n 0, 1) := by decide +kernel
theorem dX12_tabling_28 : decode cX12_tabling 28 = .ok (.getfield 133, 3) := by decide +kernel
theorem dX12_tabling_31 : decode cX12_tabling 31 = .ok (.imul, 1) := by decide +kernel
theorem dX12_tabling_32 : decode cX12_tabling 32 = .ok (.aload_n 0, 1) := by decide +kernel
theorem dX12_tabling_33 : decode cX12_tabling 33 = .ok (.getfield 84, 3) := by decide +kernel
theorem dX12_tabling_36 : decode cX12_tabling 36 = .ok (.aload_n 0, 1) := by decide +kernel
theorem dX12_tabling_37 : decode cX12_tabling 37 = .ok (.getfield 133, 3) := by decide +kernel
theorem dX12_tabling_40 : decode cX12_tabling 40 = .ok (.iaload, 1) := by decide +kernel
theorem dX12_tabling_41 : decode cX12_tabling 41 = .ok (.iadd, 1) := by decide +kernel
theorem dX12_tabling_42 : decode cX12_tabling 42 = .ok (.istore_n 1, 1) := by decide +kernel
theorem dX12_tabling_43 : decode cX12_tabling 43 = .ok (.aload_n 0, 1) := by decide +kernel
theorem dX12_tabling_44 : decode cX12_tabling 44 = .ok (.getfield 127, 3) := by decide +kernel
theorem dX12_tabling_47 : decode cX12_tabling 47 = .ok (.iload_n 1, 1) := by decide +kernel
theorem dX12_tabling_48 : decode cX12_tabling 48 = .ok (.aload_n 0, 1) := by decide +kernel
theorem dX12_tabling_49 : decode cX12_tabling 49 = .ok (.invokevirtual 414, 3) := by decide +kernel
theorem dX12_tabling_52 : decode cX12_tabling 52 = .ok (.lastore, 1) := by decide +kernel
theorem dX12_tabling_53 : decode cX12_tabling 53 = .ok (.aload_n 0, 1) := by decide +kernel
theorem dX12_tabling_54 : decode cX12_tabling 54 = .ok (.ldc2_w 331, 3) := by decide +kernel
theorem dX12_tabling_57 : decode cX12_tabling 57 = .ok (.invokevirtual 418, 3) := by decide +kernel
theorem dX12_tabling_60 : decode cX12_tabling 60 = .ok (.aload_n 0, 1) := by decide +kernel
theorem dX12_tabling_61 : decode cX12_tabling 61 = .ok (.getfield 87, 3) := by decide +kernel
theorem dX12_tabling_64 : decode cX12_tabling 64 = .ok (.iload_n 1, 1) := by decide +kernel
theorem dX12_tabling_65 : decode cX12_tabling 65 = .ok (.aload_n 0, 1) := by decide +kernel
theorem dX12_tabling_66 : decode cX12_tabling 66 = .ok (.iconst 0, 1) := by decide +kernel
theorem dX12_tabling_67 : decode cX12_tabling 67 = .ok (.bipush 9, 2) := by decide +kernel
theorem dX12_tabling_69 : decode cX12_tabling 69 = .ok (.invokevirtual 425, 3) := by decide +kernel
theorem dX12_tabling_72 : decode cX12_tabling 72 = .ok (.iastore, 1) := by decide +kernel
theorem dX12_tabling_73 : decode cX12_tabling 73 = .ok (.aload_n 0, 1) := by decide +kernel
theorem dX12_tabling_74 : decode cX12_tabling 74 = .ok (.getfield 36, 3) := by decide +kernel
theorem dX12_tabling_77 : decode cX12_tabling 77 = .ok (.ifCond .ne 16, 3) := by decide +kernel
theorem dX12_tabling_80 : decode cX12_tabling 80 = .ok (.aload_n 0, 1) := by decide +kernel
theorem dX12_tabling_81 : decode cX12_tabling 81 = .ok (.getfield 84, 3) := by decide +kernel
theorem dX12_tabling_84 : decode cX12_tabling 84 = .ok (.aload_n 0, 1) := by decide +kernel
theorem dX12_tabling_85 : decode cX12_tabling 85 = .ok (.getfield 133, 3) := by decide +kernel
theorem dX12_tabling_88 : decode cX12_tabling 88 = .ok (.dup2, 1) := by decide +kernel
theorem dX12_tabling_89 : decode cX12_tabling 89 = .ok (.iaload, 1) := by decide +kernel
theorem dX12_tabling_90 : decode cX12_tabling 90 = .ok (.iconst 1, 1) := by decide +kernel
theorem dX12_tabling_91 : decode cX12_tabling 91 = .ok (.iadd, 1) := by decide +kernel
theorem dX12_tabling_92 : decode cX12_tabling 92 = .ok (.iastore, 1) := by decide +kernel
theorem dX12_tabling_93 : decode cX12_tabling 93 = .ok (.return_, 1) := by decide +kernel
theorem dX12_inching_0 : decode cX12_inching 0 = .ok (.aload_n 0, 1) := by decide +kernel
theorem dX12_inching_1 : decode cX12_inching 1 = .ok (.iconst 0, 1) := by decide +kernel
theorem dX12_inching_2 : decode cX12_inching 2 = .ok (.invokevirtual 410, 3) := by decide +kernel
theorem dX12_inching_5 : decode cX12_inching 5 = .ok (.ifCond .ne 4, 3) := by decide +kernel
theorem dX12_inching_8 : decode cX12_inching 8 = .ok (.return_, 1) := by decide +kernel
theorem dX12_inching_9 : decode cX12_inching 9 = .ok (.aload_n 0, 1) := by decide +kernel
theorem dX12_inching_10 : decode cX12_inching 10 = .ok (.bipush 10, 2) := by decide +kernel
theorem dX12_inching_12 : decode cX12_inching 12 = .ok (.bipush 120, 2) := by decide +kernel
theorem dX12_inching_14 : decode cX12_inching 14 = .ok (.invokevirtual 425, 3) := by decide +kernel
theorem dX12_inching_17 : decode cX12_inching 17 = .ok (.istore_n 1, 1) := by decide +kernel
theorem dX12_inching_18 : decode cX12_inching 18 = .ok (.aload_n 0, 1) := by decide +kernel
theorem dX12_inching_19 : decode cX12_inching 19 = .ok (.getfield 36, 3) := by decide +kernel
theorem dX12_inching_22 : decode cX12_inching 22 = .ok (.ifCond .ne 13, 3) := by decide +kernel
theorem dX12_inching_25 : decode cX12_inching 25 = .ok (.aload_n 0, 1) := by decide +kernel
theorem dX12_inching_26 : decode cX12_inching 26 = .ok (.getfield 90, 3) := by decide +kernel
theorem dX12_inching_29 : decode cX12_inching 29 = .ok (.aload_n 0, 1) := by decide +kernel
theorem dX12_inching_30 : decode cX12_inching 30 = .ok (.getfield 133, 3) := by decide +kernel
theorem dX12_inching_33 : decode cX12_inching 33 = .ok (.iload_n 1, 1) := by decide +kernel
theorem dX12_inching_34 : decode cX12_inching 34 = .ok (.iastore, 1) := by decide +kernel
theorem dX12_inching_35 : decode cX12_inching 35 = .ok (.return_, 1) := by decide +kernel
theorem dX12_burning_0 : decode cX12_burning 0 = .ok (.aload_n 0, 1) := by decide +kernel
theorem dX12_burning_1 : decode cX12_burning 1 = .ok (.aload_n 0, 1) := by decide +kernel
theorem dX12_burning_2 : decode cX12_burning 2 = .ok (.getfield 93, 3) := by decide +kernel
theorem dX12_burning_5 : decode cX12_burning 5 = .ok (.aload_n 0, 1) := by decide +kernel
theorem dX12_burning_6 : decode cX12_burning 6 = .ok (.getfield 133, 3) := by decide +kernel
theorem dX12_burning_9 : decode cX12_burning 9 = .ok (.iaload, 1) := by decide +kernel
theorem dX12_burning_10 : decode cX12_burning 10 = .ok (.iconst (-1), 1) := by decide +kernel
theorem dX12_burning_11 : decode cX12_burning 11 = .ok (.if_icmp .eq 7, 3) := by decide +kernel
theorem dX12_burning_14 : decode cX12_burning 14 = .ok (.iconst 1, 1) := by decide +kernel
theorem dX12_burning_15 : decode cX12_burning 15 = .ok (.goto 4, 3) := by decide +kernel
theorem dX12_burning_18 : decode cX12_burning 18 = .ok (.iconst 0, 1) := by decide +kernel
theorem dX12_burning_19 : decode cX12_burning 19 = .ok (.invokevirtual 410, 3) := by decide +kernel
theorem dX12_burning_22 : decode cX12_burning 22 = .ok (.ifCond .ne 4, 3) := by decide +kernel
theorem dX12_burning_25 : decode cX12_burning 25 = .ok (.return_, 1) := by decide +kernel
theorem dX12_burning_26 : decode cX12_burning 26 = .ok (.aload_n 0, 1) := by decide +kernel
theorem dX12_burning_27 : decode cX12_burning 27 = .ok (.getfield 93, 3) := by decide +kernel
theorem dX12_burning_30 : decode cX12_burning 30 = .ok (.aload_n 0, 1) := by decide +kernel
theorem dX12_burning_31 : decode cX12_burning 31 = .ok (.getfield 133, 3) := by decide +kernel
theorem dX12_burning_34 : decode cX12_burning 34 = .ok (.aload_n 0, 1) := by decide +kernel
theorem dX12_burning_35 : decode cX12_burning 35 = .ok (.getfield 130, 3) := by decide +kernel
theorem dX12_burning_38 : decode cX12_burning 38 = .ok (.iastore, 1) := by decide +kernel
theorem dX12_burning_39 : decode cX12_burning 39 = .ok (.aload_n 0, 1) := by decide +kernel
theorem dX12_burning_40 : decode cX12_burning 40 = .ok (.iconst 0, 1) := by decide +kernel
theorem dX12_burning_41 : decode cX12_burning 41 = .ok (.invokevirtual 428, 3) := by decide +kernel
theorem dX12_burning_44 : decode cX12_burning 44 = .ok (.aload_n 0, 1) := by decide +kernel
theorem dX12_burning_45 : decode cX12_burning 45 = .ok (.getfield 96, 3) := by decide +kernel
theorem dX12_burning_48 : decode cX12_burning 48 = .ok (.aload_n 0, 1) := by decide +kernel
theorem dX12_burning_49 : decode cX12_burning 49 = .ok (.getfield 133, 3) := by decide +kernel
theorem dX12_burning_52 : decode cX12_burning 52 = .ok (.aload_n 0, 1) := by decide +kernel
theorem dX12_burning_53 : decode cX12_burning 53 = .ok (.getfield 130, 3) := by decide +kernel
theorem dX12_burning_56 : decode cX12_burning 56 = .ok (.iastore, 1) := by decide +kernel
theorem dX12_burning_57 : decode cX12_burning 57 = .ok (.return_, 1) := by decide +kernel
theorem dX12_taking_0 : decode cX12_taking 0 = .ok (.aload_n 0, 1) := by decide +kernel
theorem dX12_taking_1 : decode cX12_taking 1 = .ok (.aload_n 0, 1) := by decide +kernel
theorem dX12_taking_2 : decode cX12_taking 2 = .ok (.getfield 99, 3) := by decide +kernel
theorem dX12_taking_5 : decode cX12_taking 5 = .ok (.aload_n 0, 1) := by decide +kernel
theorem dX12_taking_6 : decode cX12_taking 6 = .ok (.getfield 133, 3) := by decide +kernel
theorem dX12_taking_9 : decode cX12_taking 9 = .ok (.iaload, 1) := by decide +kernel
theorem dX12_taking_10 : decode cX12_taking 10 = .ok (.iconst (-1), 1) := by decide +kernel
theorem dX12_taking_11 : decode cX12_taking 11 = .ok (.if_icmp .eq 7, 3) := by decide +kernel
theorem dX12_taking_14 : decode cX12_taking 14 = .ok (.iconst 1, 1) := by decide +kernel
theorem dX12_taking_15 : decode cX12_taking 15 = .ok (.goto 4, 3) := by decide +kernel
theorem dX12_taking_18 : decode cX12_taking 18 = .ok (.iconst 0, 1) := by decide +kernel
theorem dX12_taking_19 : decode cX12_taking 19 = .ok (.invokevirtual 410, 3) := by decide +kernel
theorem dX12_taking_22 : decode cX12_taking 22 = .ok (.ifCond .ne 4, 3) := by decide +kernel
theorem dX12_taking_25 : decode cX12_taking 25 = .ok (.return_, 1) := by decide +kernel
theorem dX12_taking_26 : decode cX12_taking 26 = .ok (.aload_n 0, 1) := by decide +kernel
theorem dX12_taking_27 : decode cX12_taking 27 = .ok (.getfield 99, 3) := by decide +kernel
theorem dX12_taking_30 : decode cX12_taking 30 = .ok (.aload_n 0, 1) := by decide +kernel
theorem dX12_taking_31 : decode cX12_taking 31 = .ok (.getfield 133, 3) := by decide +kernel
theorem dX12_taking_34 : decode cX12_taking 34 = .ok (.aload_n 0, 1) := by decide +kernel
theorem dX12_taking_35 : decode cX12_taking 35 = .ok (.getfield 130, 3) := by decide +kernel
theorem dX12_taking_38 : decode cX12_taking 38 = .ok (.iastore, 1) := by decide +kernel
theorem dX12_taking_39 : decode cX12_taking 39 = .ok (.aload_n 0, 1) := by decide +kernel
theorem dX12_taking_40 : decode cX12_taking 40 = .ok (.iconst 0, 1) := by decide +kernel
theorem dX12_taking_41 : decode cX12_taking 41 = .ok (.invokevirtual 428, 3) := by decide +kernel
theorem dX12_taking_44 : decode cX12_taking 44 = .ok (.aload_n 0, 1) := by decide +kernel
theorem dX12_taking_45 : decode cX12_taking 45 = .ok (.getfield 102, 3) := by decide +kernel
theorem dX12_taking_48 : decode cX12_taking 48 = .ok (.aload_n 0, 1) := by decide +kernel
theorem dX12_taking_49 : decode cX12_taking 49 = .ok (.getfield 133, 3) := by decide +kernel
theorem dX12_taking_52 : decode cX12_taking 52 = .ok (.aload_n 0, 1) := by decide +kernel
theorem dX12_taking_53 : decode cX12_taking 53 = .ok (.getfield 130, 3) := by decide +kernel
theorem dX12_taking_56 : decode cX12_taking 56 = .ok (.iastore, 1) := by decide +kernel
theorem dX12_taking_57 : decode cX12_taking 57 = .ok (.return_, 1) := by decide +kernel
theorem dX12_telling_0 : decode cX12_telling 0 = .ok (.aload_n 0, 1) := by decide +kernel
theorem dX12_telling_1 : decode cX12_telling 1 = .ok (.aload_n 0, 1) := by decide +kernel
theorem dX12_telling_2 : decode cX12_telling 2 = .ok (.getfield 105, 3) := by decide +kernel
theorem dX12_telling_5 : decode cX12_telling 5 = .ok (.aload_n 0, 1) := by decide +kernel
theorem dX12_telling_6 : decode cX12_telling 6 = .ok (.getfield 133, 3) := by decide +kernel
theorem dX12_telling_9 : decode cX12_telling 9 = .ok (.iaload, 1) := by decide +kernel
theorem dX12_telling_10 : decode cX12_telling 10 = .ok (.iconst (-1), 1) := by decide +kernel
theorem dX12_telling_11 : decode cX12_telling 11 = .ok (.if_icmp .eq 7, 3) := by decide +kernel
theorem dX12_telling_14 : decode cX12_telling 14 = .ok (.iconst 1, 1) := by decide +kernel
theorem dX12_telling_15 : decode cX12_telling 15 = .ok (.goto 4, 3) := by decide +kernel
theorem dX12_telling_18 : decode cX12_telling 18 = .ok (.iconst 0, 1) := by decide +kernel
theorem dX12_telling_19 : decode cX12_telling 19 = .ok (.invokevirtual 410, 3) := by decide +kernel
theorem dX12_telling_22 : decode cX12_telling 22 = .ok (.ifCond .ne 4, 3) := by decide +kernel
theorem dX12_telling_25 : decode cX12_telling 25 = .ok (.return_, 1) := by decide +kernel
theorem dX12_telling_26 : decode cX12_telling 26 = .ok (.aload_n 0, 1) := by decide +kernel
theorem dX12_telling_27 : decode cX12_telling 27 = .ok (.getfield 105, 3) := by decide +kernel
theorem dX12_telling_30 : decode cX12_telling 30 = .ok (.aload_n 0, 1) := by decide +kernel
theorem dX12_telling_31 : decode cX12_telling 31 = .ok (.getfield 133, 3) := by decide +kernel
theorem dX12_telling_34 : decode cX12_telling 34 = .ok (.aload_n 0, 1) := by decide +kernel
theorem dX12_telling_35 : decode cX12_telling 35 = .ok (.getfield 130, 3) := by decide +kernel
theorem dX12_telling_38 : decode cX12_telling 38 = .ok (.iastore, 1) := by decide +kernel
theorem dX12_telling_39 : decode cX12_telling 39 = .ok (.aload_n 0, 1) := by decide +kernel
theorem dX12_telling_40 : decode cX12_telling 40 = .ok (.iconst 1, 1) := by decide +kernel
theorem dX12_telling_41 : decode cX12_telling 41 = .ok (.invokevirtual 428, 3) := by decide +kernel
theorem dX12_telling_44 : decode cX12_telling 44 = .ok (.aload_n 0, 1) := by decide +kernel
theorem dX12_telling_45 : decode cX12_telling 45 = .ok (.getfield 108, 3) := by decide +kernel
theorem dX12_telling_48 : decode cX12_telling 48 = .ok (.aload_n 0, 1) := by decide +kernel
theorem dX12_telling_49 : decode cX12_telling 49 = .ok (.getfield 133, 3) := by decide +kernel
theorem dX12_telling_52 : decode cX12_telling 52 = .ok (.aload_n 0, 1) := by decide +kernel
theorem dX12_telling_53 : decode cX12_telling 53 = .ok (.getfield 130, 3) := by decide +kernel
theorem dX12_telling_56 : decode cX12_telling 56 = .ok (.iastore, 1) := by decide +kernel
theorem dX12_telling_57 : decode cX12_telling 57 = .ok (.return_, 1) := by decide +kernel
theorem dX12_statement_0 : decode cX12_statement 0 = .ok (.aload_n 0, 1) := by decide +kernel
theorem dX12_statement_1 : decode cX12_statement 1 = .ok (.invokevirtual 302, 3) := by decide +kernel
theorem dX12_statement_4 : decode cX12_statement 4 = .ok (.aload_n 0, 1) := by decide +kernel
theorem dX12_statement_5 : decode cX12_statement 5 = .ok (.getfield 36, 3) := by decide +kernel
theorem dX12_statement_8 : decode cX12_statement 8 = .ok (.ifCond .le 4, 3) := by decide +kernel
theorem dX12_statement_11 : decode cX12_statement 11 = .ok (.return_, 1) := by decide +kernel
theorem dX12_statement_12 : decode cX12_statement 12 = .ok (.aload_n 0, 1) := by decide +kernel
theorem dX12_statement_13 : decode cX12_statement 13 = .ok (.ldc2_w 311, 3) := by decide +kernel
theorem dX12_statement_16 : decode cX12_statement 16 = .ok (.invokevirtual 385, 3) := by decide +kernel
theorem dX12_statement_19 : decode cX12_statement 19 = .ok (.ifCond .eq 10, 3) := by decide +kernel
theorem dX12_statement_22 : decode cX12_statement 22 = .ok (.aload_n 0, 1) := by decide +kernel
theorem dX12_statement_23 : decode cX12_statement 23 = .ok (.invokevirtual 432, 3) := by decide +kernel
theorem dX12_statement_26 : decode cX12_statement 26 = .ok (.goto 148, 3) := by decide +kernel
theorem dX12_statement_29 : decode cX12_statement 29 = .ok (.aload_n 0, 1) := by decide +kernel
theorem dX12_statement_30 : decode cX12_statement 30 = .ok (.ldc2_w 313, 3) := by decide +kernel
theorem dX12_statement_33 : decode cX12_statement 33 = .ok (.invokevirtual 385, 3) := by decide +kernel
theorem dX12_statement_36 : decode cX12_statement 36 = .ok (.ifCond .eq 10, 3) := by decide +kernel
theorem dX12_statement_39 : decode cX12_statement 39 = .ok (.aload_n 0, 1) := by decide +kernel
theorem dX12_statement_40 : decode cX12_statement 40 = .ok (.invokevirtual 435, 3) := by decide +kernel
theorem dX12_statement_43 : decode cX12_statement 43 = .ok (.goto 131, 3) := by decide +kernel
theorem dX12_statement_46 : decode cX12_statement 46 = .ok (.aload_n 0, 1) := by decide +kernel
theorem dX12_statement_47 : decode cX12_statement 47 = .ok (.ldc2_w 321, 3) := by decide +kernel
theorem dX12_statement_50 : decode cX12_statement 50 = .ok (.invokevirtual 385, 3) := by decide +kernel
theorem dX12_statement_53 : decode cX12_statement 53 = .ok (.ifCond .eq 10, 3) := by decide +kernel
theorem dX12_statement_56 : decode cX12_statement 56 = .ok (.aload_n 0, 1) := by decide +kernel
theorem dX12_statement_57 : decode cX12_statement 57 = .ok (.invokevirtual 438, 3) := by decide +kernel
theorem dX12_statement_60 : decode cX12_statement 60 = .ok (.goto 114, 3) := by decide +kernel
theorem dX12_statement_63 : decode cX12_statement 63 = .ok (.aload_n 0, 1) := by decide +kernel
theorem dX12_statement_64 : decode cX12_statement 64 = .ok (.ldc2_w 323, 3) := by decide +kernel
theorem dX12_statement_67 : decode cX12_statement 67 = .ok (.invokevirtual 385, 3) := by decide +kernel
theorem dX12_statement_70 : decode cX12_statement 70 = .ok (.ifCond .eq 10, 3) := by decide +kernel
theorem dX12_statement_73 : decode cX12_statement 73 = .ok (.aload_n 0, 1) := by decide +kernel
theorem dX12_statement_74 : decode cX12_statement 74 = .ok (.invokevirtual 441, 3) := by decide +kernel
theorem dX12_statement_77 : decode cX12_statement 77 = .ok (.goto 97, 3) := by decide +kernel
theorem dX12_statement_80 : decode cX12_statement 80 = .ok (.aload_n 0, 1) := by decide +kernel
theorem dX12_statement_81 : decode cX12_statement 81 = .ok (.ldc2_w 329, 3) := by decide +kernel
theorem dX12_statement_84 : decode cX12_statement 84 = .ok (.invokevirtual 385, 3) := by decide +kernel
theorem dX12_statement_87 : decode cX12_statement 87 = .ok (.ifCond .eq 10, 3) := by decide +kernel
theorem dX12_statement_90 : decode cX12_statement 90 = .ok (.aload_n 0, 1) := by decide +kernel
theorem dX12_statement_91 : decode cX12_statement 91 = .ok (.invokevirtual 444, 3) := by decide +kernel
theorem dX12_statement_94 : decode cX12_statement 94 = .ok (.goto 80, 3) := by decide +kernel
theorem dX12_statement_97 : decode cX12_statement 97 = .ok (.aload_n 0, 1) := by decide +kernel
theorem dX12_statement_98 : decode cX12_statement 98 = .ok (.ldc2_w 333, 3) := by decide +kernel
theorem dX12_statement_101 : decode cX12_statement 101 = .ok (.invokevirtual 385, 3) := by decide +kernel
theorem dX12_statement_104 : decode cX12_statement 104 = .ok (.ifCond .eq 10, 3) := by decide +kernel
theorem dX12_statement_107 : decode cX12_statement 107 = .ok (.aload_n 0, 1) := by decide +kernel
theorem dX12_statement_108 : decode cX12_statement 108 = .ok (.invokevirtual 447, 3) := by decide +kernel
theorem dX12_statement_111 : decode cX12_statement 111 = .ok (.goto 63, 3) := by decide +kernel
theorem dX12_statement_114 : decode cX12_statement 114 = .ok (.aload_n 0, 1) := by decide +kernel
theorem dX12_statement_115 : decode cX12_statement 115 = .ok (.ldc2_w 335, 3) := by decide +kernel
theorem dX12_statement_118 : decode cX12_statement 118 = .ok (.invokevirtual 385, 3) := by decide +kernel
theorem dX12_statement_121 : decode cX12_statement 121 = .ok (.ifCond .eq 10, 3) := by decide +kernel
theorem dX12_statement_124 : decode cX12_statement 124 = .ok (.aload_n 0, 1) := by decide +kernel
theorem dX12_statement_125 : decode cX12_statement 125 = .ok (.invokevirtual 450, 3) := by decide +kernel
theorem dX12_statement_128 : decode cX12_statement 128 = .ok (.goto 46, 3) := by decide +kernel
theorem dX12_statement_131 : decode cX12_statement 131 = .ok (.aload_n 0, 1) := by decide +kernel
theorem dX12_statement_132 : decode cX12_statement 132 = .ok (.ldc2_w 337, 3) := by decide +kernel
theorem dX12_statement_135 : decode cX12_statement 135 = .ok (.invokevirtual 385, 3) := by decide +kernel
theorem dX12_statement_138 : decode cX12_statement 138 = .ok (.ifCond .eq 10, 3) := by decide +kernel
theorem dX12_statement_141 : decode cX12_statement 141 = .ok (.aload_n 0, 1) := by decide +kernel
theorem dX12_statement_142 : decode cX12_statement 142 = .ok (.invokevirtual 453, 3) := by decide +kernel
theorem dX12_statement_145 : decode cX12_statement 145 = .ok (.goto 29, 3) := by decide +kernel
theorem dX12_statement_148 : decode cX12_statement 148 = .ok (.aload_n 0, 1) := by decide +kernel
theorem dX12_statement_149 : decode cX12_statement 149 = .ok (.ldc2_w 339, 3) := by decide +kernel
theorem dX12_statement_152 : decode cX12_statement 152 = .ok (.invokevirtual 385, 3) := by decide +kernel
theorem dX12_statement_155 : decode cX12_statement 155 = .ok (.ifCond .eq 10, 3) := by decide +kernel
theorem dX12_statement_158 : decode cX12_statement 158 = .ok (.aload_n 0, 1) := by decide +kernel
theorem dX12_statement_159 : decode cX12_statement 159 = .ok (.invokevirtual 456, 3) := by decide +kernel
theorem dX12_statement_162 : decode cX12_statement 162 = .ok (.goto 12, 3) := by decide +kernel
theorem dX12_statement_165 : decode cX12_statement 165 = .ok (.aload_n 0, 1) := by decide +kernel
theorem dX12_statement_166 : decode cX12_statement 166 = .ok (.iconst 1, 1) := by decide +kernel
theorem dX12_statement_167 : decode cX12_statement 167 = .ok (.aload_n 0, 1) := by decide +kernel
theorem dX12_statement_168 : decode cX12_statement 168 = .ok (.getfield 23, 3) := by decide +kernel
theorem dX12_statement_171 : decode cX12_statement 171 = .ok (.invokevirtual 287, 3) := by decide +kernel
theorem dX12_statement_174 : decode cX12_statement 174 = .ok (.return_, 1) := by decide +kernel
theorem dX12_finishes_0 : decode cX12_finishes 0 = .ok (.aload_n 0, 1) := by decide +kernel
theorem dX12_finishes_1 : decode cX12_finishes 1 = .ok (.invokevirtual 302, 3) := by decide +kernel
theorem dX12_finishes_4 : decode cX12_finishes 4 = .ok (.aload_n 0, 1) := by decide +kernel
theorem dX12_finishes_5 : decode cX12_finishes 5 = .ok (.getfield 36, 3) := by decide +kernel
theorem dX12_finishes_8 : decode cX12_finishes 8 = .ok (.ifCond .le 4, 3) := by decide +kernel
theorem dX12_finishes_11 : decode cX12_finishes 11 = .ok (.return_, 1) := by decide +kernel
theorem dX12_finishes_12 : decode cX12_finishes 12 = .ok (.aload_n 0, 1) := by decide +kernel
theorem dX12_finishes_13 : decode cX12_finishes 13 = .ok (.getfield 26, 3) := by decide +kernel
theorem dX12_finishes_16 : decode cX12_finishes 16 = .ok (.istore_n 2, 1) := by decide +kernel
theorem dX12_finishes_17 : decode cX12_finishes 17 = .ok (.iload_n 2, 1) := by decide +kernel
theorem dX12_finishes_18 : decode cX12_finishes 18 = .ok (.aload_n 0, 1) := by decide +kernel
theorem dX12_finishes_19 : decode cX12_finishes 19 = .ok (.getfield 17, 3) := by decide +kernel
theorem dX12_finishes_22 : decode cX12_finishes 22 = .ok (.if_icmp .ge 31, 3) := by decide +kernel
theorem dX12_finishes_25 : decode cX12_finishes 25 = .ok (.aload_n 0, 1) := by decide +kernel
theorem dX12_finishes_26 : decode cX12_finishes 26 = .ok (.getfield 7, 3) := by decide +kernel
theorem dX12_finishes_29 : decode cX12_finishes 29 = .ok (.iload_n 2, 1) := by decide +kernel
theorem dX12_finishes_30 : decode cX12_finishes 30 = .ok (.iaload, 1) := by decide +kernel
theorem dX12_finishes_31 : decode cX12_finishes 31 = .ok (.bipush 32, 2) := by decide +kernel
theorem dX12_finishes_33 : decode cX12_finishes 33 = .ok (.if_icmp .eq 14, 3) := by decide +kernel
theorem dX12_finishes_36 : decode cX12_finishes 36 = .ok (.aload_n 0, 1) := by decide +kernel
theorem dX12_finishes_37 : decode cX12_finishes 37 = .ok (.getfield 7, 3) := by decide +kernel
theorem dX12_finishes_40 : decode cX12_finishes 40 = .ok (.iload_n 2, 1) := by decide +kernel
theorem dX12_finishes_41 : decode cX12_finishes 41 = .ok (.iaload, 1) := by decide +kernel
theorem dX12_finishes_42 : decode cX12_finishes 42 = .ok (.bipush 10, 2) := by decide +kernel
theorem dX12_finishes_44 : decode cX12_finishes 44 = .ok (.if_icmp .ne 9, 3) := by decide +kernel
theorem dX12_finishes_47 : decode cX12_finishes 47 = .ok (.iinc 2 1, 3) := by decide +kernel
theorem dX12_finishes_50 : decode cX12_finishes 50 = .ok (.goto (-33), 3) := by decide +kernel
theorem dX12_finishes_53 : decode cX12_finishes 53 = .ok (.aload_n 0, 1) := by decide +kernel
theorem dX12_finishes_54 : decode cX12_finishes 54 = .ok (.bipush 59, 2) := by decide +kernel
theorem dX12_finishes_56 : decode cX12_finishes 56 = .ok (.invokevirtual 305, 3) := by decide +kernel
theorem dX12_finishes_59 : decode cX12_finishes 59 = .ok (.ifCond .eq 24, 3) := by decide +kernel
theorem dX12_finishes_62 : decode cX12_finishes 62 = .ok (.iload_n 1, 1) := by decide +kernel
theorem dX12_finishes_63 : decode cX12_finishes 63 = .ok (.bipush 80, 2) := by decide +kernel
theorem dX12_finishes_65 : decode cX12_finishes 65 = .ok (.if_icmp .ne 18, 3) := by decide +kernel
theorem dX12_finishes_68 : decode cX12_finishes 68 = .ok (.iload_n 2, 1) := by decide +kernel
theorem dX12_finishes_69 : decode cX12_finishes 69 = .ok (.aload_n 0, 1) := by decide +kernel
theorem dX12_finishes_70 : decode cX12_finishes 70 = .ok (.getfield 17, 3) := by decide +kernel
theorem dX12_finishes_73 : decode cX12_finishes 73 = .ok (.if_icmp .ge 10, 3) := by decide +kernel
theorem dX12_finishes_76 : decode cX12_finishes 76 = .ok (.aload_n 0, 1) := by decide +kernel
theorem dX12_finishes_77 : decode cX12_finishes 77 = .ok (.bipush 6, 2) := by decide +kernel
theorem dX12_finishes_79 : decode cX12_finishes 79 = .ok (.iload_n 2, 1) := by decide +kernel
theorem dX12_finishes_80 : decode cX12_finishes 80 = .ok (.invokevirtual 287, 3) := by decide +kernel
theorem dX12_finishes_83 : decode cX12_finishes 83 = .ok (.aload_n 0, 1) := by decide +kernel
theorem dX12_finishes_84 : decode cX12_finishes 84 = .ok (.bipush 59, 2) := by decide +kernel
theorem dX12_finishes_86 : decode cX12_finishes 86 = .ok (.invokevirtual 459, 3) := by decide +kernel
theorem dX12_finishes_89 : decode cX12_finishes 89 = .ok (.return_, 1) := by decide +kernel
theorem dX12_library_0 : decode cX12_library 0 = .ok (.aload_n 0, 1) := by decide +kernel
theorem dX12_library_1 : decode cX12_library 1 = .ok (.aload_n 0, 1) := by decide +kernel
theorem dX12_library_2 : decode cX12_library 2 = .ok (.getfield 13, 3) := by decide +kernel
theorem dX12_library_5 : decode cX12_library 5 = .ok (.putfield 17, 3) := by decide +kernel
theorem dX12_library_8 : decode cX12_library 8 = .ok (.aload_n 0, 1) := by decide +kernel
theorem dX12_library_9 : decode cX12_library 9 = .ok (.iconst 0, 1) := by decide +kernel
theorem dX12_library_10 : decode cX12_library 10 = .ok (.putfield 13, 3) := by decide +kernel
theorem dX12_library_13 : decode cX12_library 13 = .ok (.aload_n 0, 1) := by decide +kernel
theorem dX12_library_14 : decode cX12_library 14 = .ok (.iconst 0, 1) := by decide +kernel
theorem dX12_library_15 : decode cX12_library 15 = .ok (.putfield 26, 3) := by decide +kernel
theorem dX12_library_18 : decode cX12_library 18 = .ok (.aload_n 0, 1) := by decide +kernel
theorem dX12_library_19 : decode cX12_library 19 = .ok (.iconst 0, 1) := by decide +kernel
theorem dX12_library_20 : decode cX12_library 20 = .ok (.putfield 36, 3) := by decide +kernel
theorem dX12_library_23 : decode cX12_library 23 = .ok (.aload_n 0, 1) := by decide +kernel
theorem dX12_library_24 : decode cX12_library 24 = .ok (.iconst (-1), 1) := by decide +kernel
theorem dX12_library_25 : decode cX12_library 25 = .ok (.putfield 39, 3) := by decide +kernel
theorem dX12_library_28 : decode cX12_library 28 = .ok (.aload_n 0, 1) := by decide +kernel
theorem dX12_library_29 : decode cX12_library 29 = .ok (.iconst 1, 1) := by decide +kernel
theorem dX12_library_30 : decode cX12_library 30 = .ok (.aload_n 0, 1) := by decide +kernel
theorem dX12_library_31 : decode cX12_library 31 = .ok (.getfield 51, 3) := by decide +kernel
theorem dX12_library_34 : decode cX12_library 34 = .ok (.isub, 1) := by decide +kernel
theorem dX12_library_35 : decode cX12_library 35 = .ok (.putfield 133, 3) := by decide +kernel
theorem dX12_library_38 : decode cX12_library 38 = .ok (.aload_n 0, 1) := by decide +kernel
theorem dX12_library_39 : decode cX12_library 39 = .ok (.getfield 54, 3) := by decide +kernel
theorem dX12_library_42 : decode cX12_library 42 = .ok (.aload_n 0, 1) := by decide +kernel
theorem dX12_library_43 : decode cX12_library 43 = .ok (.getfield 133, 3) := by decide +kernel
theorem dX12_library_46 : decode cX12_library 46 = .ok (.iconst 0, 1) := by decide +kernel
theorem dX12_library_47 : decode cX12_library 47 = .ok (.iastore, 1) := by decide +kernel
theorem dX12_library_48 : decode cX12_library 48 = .ok (.aload_n 0, 1) := by decide +kernel
theorem dX12_library_49 : decode cX12_library 49 = .ok (.getfield 57, 3) := by decide +kernel
theorem dX12_library_52 : decode cX12_library 52 = .ok (.aload_n 0, 1) := by decide +kernel
theorem dX12_library_53 : decode cX12_library 53 = .ok (.getfield 133, 3) := by decide +kernel
theorem dX12_library_56 : decode cX12_library 56 = .ok (.iconst 0, 1) := by decide +kernel
theorem dX12_library_57 : decode cX12_library 57 = .ok (.iastore, 1) := by decide +kernel
theorem dX12_library_58 : decode cX12_library 58 = .ok (.aload_n 0, 1) := by decide +kernel
theorem dX12_library_59 : decode cX12_library 59 = .ok (.getfield 72, 3) := by decide +kernel
theorem dX12_library_62 : decode cX12_library 62 = .ok (.aload_n 0, 1) := by decide +kernel
theorem dX12_library_63 : decode cX12_library 63 = .ok (.getfield 133, 3) := by decide +kernel
theorem dX12_library_66 : decode cX12_library 66 = .ok (.iconst 0, 1) := by decide +kernel
theorem dX12_library_67 : decode cX12_library 67 = .ok (.iastore, 1) := by decide +kernel
theorem dX12_library_68 : decode cX12_library 68 = .ok (.aload_n 0, 1) := by decide +kernel
theorem dX12_library_69 : decode cX12_library 69 = .ok (.getfield 75, 3) := by decide +kernel
theorem dX12_library_72 : decode cX12_library 72 = .ok (.aload_n 0, 1) := by decide +kernel
theorem dX12_library_73 : decode cX12_library 73 = .ok (.getfield 133, 3) := by decide +kernel
theorem dX12_library_76 : decode cX12_library 76 = .ok (.iconst 0, 1) := by decide +kernel
theorem dX12_library_77 : decode cX12_library 77 = .ok (.iastore, 1) := by decide +kernel
theorem dX12_library_78 : decode cX12_library 78 = .ok (.aload_n 0, 1) := by decide +kernel
theorem dX12_library_79 : decode cX12_library 79 = .ok (.getfield 84, 3) := by decide +kernel
theorem dX12_library_82 : decode cX12_library 82 = .ok (.aload_n 0, 1) := by decide +kernel
theorem dX12_library_83 : decode cX12_library 83 = .ok (.getfield 133, 3) := by decide +kernel
theorem dX12_library_86 : decode cX12_library 86 = .ok (.iconst 0, 1) := by decide +kernel
theorem dX12_library_87 : decode cX12_library 87 = .ok (.iastore, 1) := by decide +kernel
theorem dX12_library_88 : decode cX12_library 88 = .ok (.aload_n 0, 1) := by decide +kernel
theorem dX12_library_89 : decode cX12_library 89 = .ok (.getfield 90, 3) := by decide +kernel
theorem dX12_library_92 : decode cX12_library 92 = .ok (.aload_n 0, 1) := by decide +kernel
theorem dX12_library_93 : decode cX12_library 93 = .ok (.getfield 133, 3) := by decide +kernel
theorem dX12_library_96 : decode cX12_library 96 = .ok (.bipush 60, 2) := by decide +kernel
theorem dX12_library_98 : decode cX12_library 98 = .ok (.iastore, 1) := by decide +kernel
theorem dX12_library_99 : decode cX12_library 99 = .ok (.aload_n 0, 1) := by decide +kernel
theorem dX12_library_100 : decode cX12_library 100 = .ok (.getfield 93, 3) := by decide +kernel
theorem dX12_library_103 : decode cX12_library 103 = .ok (.aload_n 0, 1) := by decide +kernel
theorem dX12_library_104 : decode cX12_library 104 = .ok (.getfield 133, 3) := by decide +kernel
theorem dX12_library_107 : decode cX12_library 107 = .ok (.iconst (-1), 1) := by decide +kernel
theorem dX12_library_108 : decode cX12_library 108 = .ok (.iastore, 1) := by decide +kernel
theorem dX12_library_109 : decode cX12_library 109 = .ok (.aload_n 0, 1) := by decide +kernel
theorem dX12_library_110 : decode cX12_library 110 = .ok (.getfield 99, 3) := by decide +kernel
theorem dX12_library_113 : decode cX12_library 113 = .ok (.aload_n 0, 1) := by decide +kernel
theorem dX12_library_114 : decode cX12_library 114 = .ok (.getfield 133, 3) := by decide +kernel
theorem dX12_library_117 : decode cX12_library 117 = .ok (.iconst (-1), 1) := by decide +kernel
theorem dX12_library_118 : decode cX12_library 118 = .ok (.iastore, 1) := by decide +kernel
theorem dX12_library_119 : decode cX12_library 119 = .ok (.aload_n 0, 1) := by decide +kernel
theorem dX12_library_120 : decode cX12_library 120 = .ok (.getfield 105, 3) := by decide +kernel
theorem dX12_library_123 : decode cX12_library 123 = .ok (.aload_n 0, 1) := by decide +kernel
theorem dX12_library_124 : decode cX12_library 124 = .ok (.getfield 133, 3) := by decide +kernel
theorem dX12_library_127 : decode cX12_library 127 = .ok (.iconst (-1), 1) := by decide +kernel
theorem dX12_library_128 : decode cX12_library 128 = .ok (.iastore, 1) := by decide +kernel
theorem dX12_library_129 : decode cX12_library 129 = .ok (.aload_n 0, 1) := by decide +kernel
theorem dX12_library_130 : decode cX12_library 130 = .ok (.iconst 0, 1) := by decide +kernel
theorem dX12_library_131 : decode cX12_library 131 = .ok (.putfield 130, 3) := by decide +kernel
theorem dX12_library_134 : decode cX12_library 134 = .ok (.iconst 0, 1) := by decide +kernel
theorem dX12_library_135 : decode cX12_library 135 = .ok (.istore_n 1, 1) := by decide +kernel
theorem dX12_library_136 : decode cX12_library 136 = .ok (.aload_n 0, 1) := by decide +kernel
theorem dX12_library_137 : decode cX12_library 137 = .ok (.invokevirtual 308, 3) := by decide +kernel
theorem dX12_library_140 : decode cX12_library 140 = .ok (.aload_n 0, 1) := by decide +kernel
theorem dX12_library_141 : decode cX12_library 141 = .ok (.getfield 36, 3) := by decide +kernel
theorem dX12_library_144 : decode cX12_library 144 = .ok (.ifCond .ne 25, 3) := by decide +kernel
theorem dX12_library_147 : decode cX12_library 147 = .ok (.aload_n 0, 1) := by decide +kernel
theorem dX12_library_148 : decode cX12_library 148 = .ok (.getfield 20, 3) := by decide +kernel
theorem dX12_library_151 : decode cX12_library 151 = .ok (.ifCond .eq 18, 3) := by decide +kernel
theorem dX12_library_154 : decode cX12_library 154 = .ok (.aload_n 0, 1) := by decide +kernel
theorem dX12_library_155 : decode cX12_library 155 = .ok (.invokevirtual 461, 3) := by decide +kernel
theorem dX12_library_158 : decode cX12_library 158 = .ok (.iinc 1 1, 3) := by decide +kernel
theorem dX12_library_161 : decode cX12_library 161 = .ok (.aload_n 0, 1) := by decide +kernel
theorem dX12_library_162 : decode cX12_library 162 = .ok (.iload_n 1, 1) := by decide +kernel
theorem dX12_library_163 : decode cX12_library 163 = .ok (.invokevirtual 464, 3) := by decide +kernel
theorem dX12_library_166 : decode cX12_library 166 = .ok (.goto (-26), 3) := by decide +kernel
theorem dX12_library_169 : decode cX12_library 169 = .ok (.aload_n 0, 1) := by decide +kernel
theorem dX12_library_170 : decode cX12_library 170 = .ok (.getfield 36, 3) := by decide +kernel
theorem dX12_library_173 : decode cX12_library 173 = .ok (.ifCond .ne 36, 3) := by decide +kernel
theorem dX12_library_176 : decode cX12_library 176 = .ok (.aload_n 0, 1) := by decide +kernel
theorem dX12_library_177 : decode cX12_library 177 = .ok (.getfield 75, 3) := by decide +kernel
theorem dX12_library_180 : decode cX12_library 180 = .ok (.aload_n 0, 1) := by decide +kernel
theorem dX12_library_181 : decode cX12_library 181 = .ok (.getfield 133, 3) := by decide +kernel
theorem dX12_library_184 : decode cX12_library 184 = .ok (.iaload, 1) := by decide +kernel
theorem dX12_library_185 : decode cX12_library 185 = .ok (.ifCond .le 24, 3) := by decide +kernel
theorem dX12_library_188 : decode cX12_library 188 = .ok (.aload_n 0, 1) := by decide +kernel
theorem dX12_library_189 : decode cX12_library 189 = .ok (.getfield 84, 3) := by decide +kernel
theorem dX12_library_192 : decode cX12_library 192 = .ok (.aload_n 0, 1) := by decide +kernel
theorem dX12_library_193 : decode cX12_library 193 = .ok (.getfield 133, 3) := by decide +kernel
theorem dX12_library_196 : decode cX12_library 196 = .ok (.iaload, 1) := by decide +kernel
theorem dX12_library_197 : decode cX12_library 197 = .ok (.ifCond .ne 12, 3) := by decide +kernel
theorem dX12_library_200 : decode cX12_library 200 = .ok (.aload_n 0, 1) := by decide +kernel
theorem dX12_library_201 : decode cX12_library 201 = .ok (.iconst 1, 1) := by decide +kernel
theorem dX12_library_202 : decode cX12_library 202 = .ok (.aload_n 0, 1) := by decide +kernel
theorem dX12_library_203 : decode cX12_library 203 = .ok (.getfield 17, 3) := by decide +kernel
theorem dX12_library_206 : decode cX12_library 206 = .ok (.invokevirtual 287, 3) := by decide +kernel
theorem dX12_library_209 : decode cX12_library 209 = .ok (.aload_n 0, 1) := by decide +kernel
theorem dX12_library_210 : decode cX12_library 210 = .ok (.aload_n 0, 1) := by decide +kernel
theorem dX12_library_211 : decode cX12_library 211 = .ok (.getfield 36, 3) := by decide +kernel
theorem dX12_library_214 : decode cX12_library 214 = .ok (.putfield 42, 3) := by decide +kernel
theorem dX12_library_217 : decode cX12_library 217 = .ok (.aload_n 0, 1) := by decide +kernel
theorem dX12_library_218 : decode cX12_library 218 = .ok (.aload_n 0, 1) := by decide +kernel
theorem dX12_library_219 : decode cX12_library 219 = .ok (.getfield 39, 3) := by decide +kernel
theorem dX12_library_222 : decode cX12_library 222 = .ok (.putfield 45, 3) := by decide +kernel
theorem dX12_library_225 : decode cX12_library 225 = .ok (.aload_n 0, 1) := by decide +kernel
theorem dX12_library_226 : decode cX12_library 226 = .ok (.getfield 36, 3) := by decide +kernel
theorem dX12_library_229 : decode cX12_library 229 = .ok (.ifCond .le 9, 3) := by decide +kernel
theorem dX12_library_232 : decode cX12_library 232 = .ok (.aload_n 0, 1) := by decide +kernel
theorem dX12_library_233 : decode cX12_library 233 = .ok (.iconst 1, 1) := by decide +kernel
theorem dX12_library_234 : decode cX12_library 234 = .ok (.invokevirtual 279, 3) := by decide +kernel
theorem dX12_library_237 : decode cX12_library 237 = .ok (.ireturn, 1) := by decide +kernel
theorem dX12_library_238 : decode cX12_library 238 = .ok (.aload_n 0, 1) := by decide +kernel
theorem dX12_library_239 : decode cX12_library 239 = .ok (.aload_n 0, 1) := by decide +kernel
theorem dX12_library_240 : decode cX12_library 240 = .ok (.getfield 133, 3) := by decide +kernel
theorem dX12_library_243 : decode cX12_library 243 = .ok (.putfield 51, 3) := by decide +kernel
theorem dX12_library_246 : decode cX12_library 246 = .ok (.aload_n 0, 1) := by decide +kernel
theorem dX12_library_247 : decode cX12_library 247 = .ok (.invokevirtual 467, 3) := by decide +kernel
theorem dX12_library_250 : decode cX12_library 250 = .ok (.iload_n 1, 1) := by decide +kernel
theorem dX12_library_251 : decode cX12_library 251 = .ok (.ireturn, 1) := by decide +kernel
theorem dX12_fault_0 : decode cX12_fault 0 = .ok (.iload_n 1, 1) := by decide +kernel
theorem dX12_fault_1 : decode cX12_fault 1 = .ok (.ifCond .ne 10, 3) := by decide +kernel
theorem dX12_fault_4 : decode cX12_fault 4 = .ok (.aload_n 0, 1) := by decide +kernel
theorem dX12_fault_5 : decode cX12_fault 5 = .ok (.getfield 42, 3) := by decide +kernel
theorem dX12_fault_8 : decode cX12_fault 8 = .ok (.goto 16, 3) := by decide +kernel
theorem dX12_fault_11 : decode cX12_fault 11 = .ok (.iload_n 1, 1) := by decide +kernel
theorem dX12_fault_12 : decode cX12_fault 12 = .ok (.iconst 1, 1) := by decide +kernel
theorem dX12_fault_13 : decode cX12_fault 13 = .ok (.if_icmp .ne 10, 3) := by decide +kernel
theorem dX12_fault_16 : decode cX12_fault 16 = .ok (.aload_n 0, 1) := by decide +kernel
theorem dX12_fault_17 : decode cX12_fault 17 = .ok (.getfield 45, 3) := by decide +kernel
theorem dX12_fault_20 : decode cX12_fault 20 = .ok (.goto 4, 3) := by decide +kernel
theorem dX12_fault_23 : decode cX12_fault 23 = .ok (.iconst (-1), 1) := by decide +kernel
theorem dX12_fault_24 : decode cX12_fault 24 = .ok (.ireturn, 1) := by decide +kernel
theorem dX12_refuses_0 : decode cX12_refuses 0 = .ok (.aload_n 0, 1) := by decide +kernel
theorem dX12_refuses_1 : decode cX12_refuses 1 = .ok (.getfield 168, 3) := by decide +kernel
theorem dX12_refuses_4 : decode cX12_refuses 4 = .ok (.iload_n 1, 1) := by decide +kernel
theorem dX12_refuses_5 : decode cX12_refuses 5 = .ok (.dup2, 1) := by decide +kernel
theorem dX12_refuses_6 : decode cX12_refuses 6 = .ok (.iaload, 1) := by decide +kernel
theorem dX12_refuses_7 : decode cX12_refuses 7 = .ok (.iconst 1, 1) := by decide +kernel
theorem dX12_refuses_8 : decode cX12_refuses 8 = .ok (.iadd, 1) := by decide +kernel
theorem dX12_refuses_9 : decode cX12_refuses 9 = .ok (.iastore, 1) := by decide +kernel
theorem dX12_refuses_10 : decode cX12_refuses 10 = .ok (.iconst (-1), 1) := by decide +kernel
theorem dX12_refuses_11 : decode cX12_refuses 11 = .ok (.ireturn, 1) := by decide +kernel
theorem dX12_status_0 : decode cX12_status 0 = .ok (.iload_n 1, 1) := by decide +kernel
theorem dX12_status_1 : decode cX12_status 1 = .ok (.iconst 0, 1) := by decide +kernel
theorem dX12_status_2 : decode cX12_status 2 = .ok (.iconst 5, 1) := by decide +kernel
theorem dX12_status_3 : decode cX12_status 3 = .ok (.invokestatic 369, 3) := by decide +kernel
theorem dX12_status_6 : decode cX12_status 6 = .ok (.ifCond .eq 12, 3) := by decide +kernel
theorem dX12_status_9 : decode cX12_status 9 = .ok (.aload_n 0, 1) := by decide +kernel
theorem dX12_status_10 : decode cX12_status 10 = .ok (.getfield 168, 3) := by decide +kernel
theorem dX12_status_13 : decode cX12_status 13 = .ok (.iload_n 1, 1) := by decide +kernel
theorem dX12_status_14 : decode cX12_status 14 = .ok (.iaload, 1) := by decide +kernel
theorem dX12_status_15 : decode cX12_status 15 = .ok (.goto 4, 3) := by decide +kernel
theorem dX12_status_18 : decode cX12_status 18 = .ok (.iconst (-1), 1) := by decide +kernel
theorem dX12_status_19 : decode cX12_status 19 = .ok (.ireturn, 1) := by decide +kernel
theorem dX12_isPage_0 : decode cX12_isPage 0 = .ok (.iload_n 1, 1) := by decide +kernel
theorem dX12_isPage_1 : decode cX12_isPage 1 = .ok (.ifCond .lt 20, 3) := by decide +kernel
theorem dX12_isPage_4 : decode cX12_isPage 4 = .ok (.iload_n 1, 1) := by decide +kernel
theorem dX12_isPage_5 : decode cX12_isPage 5 = .ok (.aload_n 0, 1) := by decide +kernel
theorem dX12_isPage_6 : decode cX12_isPage 6 = .ok (.getfield 57, 3) := by decide +kernel
theorem dX12_isPage_9 : decode cX12_isPage 9 = .ok (.aload_n 0, 1) := by decide +kernel
theorem dX12_isPage_10 : decode cX12_isPage 10 = .ok (.getfield 51, 3) := by decide +kernel
theorem dX12_isPage_13 : decode cX12_isPage 13 = .ok (.iaload, 1) := by decide +kernel
theorem dX12_isPage_14 : decode cX12_isPage 14 = .ok (.if_icmp .ge 7, 3) := by decide +kernel
theorem dX12_isPage_17 : decode cX12_isPage 17 = .ok (.iconst 1, 1) := by decide +kernel
theorem dX12_isPage_18 : decode cX12_isPage 18 = .ok (.goto 4, 3) := by decide +kernel
theorem dX12_isPage_21 : decode cX12_isPage 21 = .ok (.iconst 0, 1) := by decide +kernel
theorem dX12_isPage_22 : decode cX12_isPage 22 = .ok (.ireturn, 1) := by decide +kernel
theorem dX12_isReader_0 : decode cX12_isReader 0 = .ok (.iload_n 1, 1) := by decide +kernel
theorem dX12_isReader_1 : decode cX12_isReader 1 = .ok (.ifCond .lt 20, 3) := by decide +kernel
theorem dX12_isReader_4 : decode cX12_isReader 4 = .ok (.iload_n 1, 1) := by decide +kernel
theorem dX12_isReader_5 : decode cX12_isReader 5 = .ok (.aload_n 0, 1) := by decide +kernel
theorem dX12_isReader_6 : decode cX12_isReader 6 = .ok (.getfield 75, 3) := by decide +kernel
theorem dX12_isReader_9 : decode cX12_isReader 9 = .ok (.aload_n 0, 1) := by decide +kernel
theorem dX12_isReader_10 : decode cX12_isReader 10 = .ok (.getfield 51, 3) := by decide +kernel
theorem dX12_isReader_13 : decode cX12_isReader 13 = .ok (.iaload, 1) := by decide +kernel
theorem dX12_isReader_14 : decode cX12_isReader 14 = .ok (.if_icmp .ge 7, 3) := by decide +kernel
theorem dX12_isReader_17 : decode cX12_isReader 17 = .ok (.iconst 1, 1) := by decide +kernel
theorem dX12_isReader_18 : decode cX12_isReader 18 = .ok (.goto 4, 3) := by decide +kernel
theorem dX12_isReader_21 : decode cX12_isReader 21 = .ok (.iconst 0, 1) := by decide +kernel
theorem dX12_isReader_22 : decode cX12_isReader 22 = .ok (.ireturn, 1) := by decide +kernel
theorem dX12_isTable_0 : decode cX12_isTable 0 = .ok (.iload_n 1, 1) := by decide +kernel
theorem dX12_isTable_1 : decode cX12_isTable 1 = .ok (.ifCond .lt 20, 3) := by decide +kernel
theorem dX12_isTable_4 : decode cX12_isTable 4 = .ok (.iload_n 1, 1) := by decide +kernel
theorem dX12_isTable_5 : decode cX12_isTable 5 = .ok (.aload_n 0, 1) := by decide +kernel
theorem dX12_isTable_6 : decode cX12_isTable 6 = .ok (.getfield 84, 3) := by decide +kernel
theorem dX12_isTable_9 : decode cX12_isTable 9 = .ok (.aload_n 0, 1) := by decide +kernel
theorem dX12_isTable_10 : decode cX12_isTable 10 = .ok (.getfield 51, 3) := by decide +kernel
theorem dX12_isTable_13 : decode cX12_isTable 13 = .ok (.iaload, 1) := by decide +kernel
theorem dX12_isTable_14 : decode cX12_isTable 14 = .ok (.if_icmp .ge 7, 3) := by decide +kernel
theorem dX12_isTable_17 : decode cX12_isTable 17 = .ok (.iconst 1, 1) := by decide +kernel
theorem dX12_isTable_18 : decode cX12_isTable 18 = .ok (.goto 4, 3) := by decide +kernel
theorem dX12_isTable_21 : decode cX12_isTable 21 = .ok (.iconst 0, 1) := by decide +kernel
theorem dX12_isTable_22 : decode cX12_isTable 22 = .ok (.ireturn, 1) := by decide +kernel
theorem dX12_bits_0 : decode cX12_bits 0 = .ok (.iconst 0, 1) := by decide +kernel
theorem dX12_bits_1 : decode cX12_bits 1 = .ok (.istore_n 1, 1) := by decide +kernel
theorem dX12_bits_2 : decode cX12_bits 2 = .ok (.iload_n 0, 1) := by decide +kernel
theorem dX12_bits_3 : decode cX12_bits 3 = .ok (.istore_n 2, 1) := by decide +kernel
theorem dX12_bits_4 : decode cX12_bits 4 = .ok (.iload_n 2, 1) := by decide +kernel
theorem dX12_bits_5 : decode cX12_bits 5 = .ok (.ifCond .eq 15, 3) := by decide +kernel
theorem dX12_bits_8 : decode cX12_bits 8 = .ok (.iinc 1 1, 3) := by decide +kernel
theorem dX12_bits_11 : decode cX12_bits 11 = .ok (.iload_n 2, 1) := by decide +kernel
theorem dX12_bits_12 : decode cX12_bits 12 = .ok (.iload_n 2, 1) := by decide +kernel
theorem dX12_bits_13 : decode cX12_bits 13 = .ok (.iconst 1, 1) := by decide +kernel
theorem dX12_bits_14 : decode cX12_bits 14 = .ok (.isub, 1) := by decide +kernel
theorem dX12_bits_15 : decode cX12_bits 15 = .ok (.iand, 1) := by decide +kernel
theorem dX12_bits_16 : decode cX12_bits 16 = .ok (.istore_n 2, 1) := by decide +kernel
theorem dX12_bits_17 : decode cX12_bits 17 = .ok (.goto (-13), 3) := by decide +kernel
theorem dX12_bits_20 : decode cX12_bits 20 = .ok (.iload_n 1, 1) := by decide +kernel
theorem dX12_bits_21 : decode cX12_bits 21 = .ok (.ireturn, 1) := by decide +kernel
theorem dX12_has_0 : decode cX12_has 0 = .ok (.iload_n 0, 1) := by decide +kernel
theorem dX12_has_1 : decode cX12_has 1 = .ok (.iload_n 1, 1) := by decide +kernel
theorem dX12_has_2 : decode cX12_has 2 = .ok (.ishr, 1) := by decide +kernel
theorem dX12_has_3 : decode cX12_has 3 = .ok (.iconst 1, 1) := by decide +kernel
theorem dX12_has_4 : decode cX12_has 4 = .ok (.iand, 1) := by decide +kernel
theorem dX12_has_5 : decode cX12_has 5 = .ok (.iconst 1, 1) := by decide +kernel
theorem dX12_has_6 : decode cX12_has 6 = .ok (.if_icmp .ne 7, 3) := by decide +kernel
theorem dX12_has_9 : decode cX12_has 9 = .ok (.iconst 1, 1) := by decide +kernel
theorem dX12_has_10 : decode cX12_has 10 = .ok (.goto 4, 3) := by decide +kernel
theorem dX12_has_13 : decode cX12_has 13 = .ok (.iconst 0, 1) := by decide +kernel
theorem dX12_has_14 : decode cX12_has 14 = .ok (.ireturn, 1) := by decide +kernel
theorem dX12_needsOf_0 : decode cX12_needsOf 0 = .ok (.aload_n 0, 1) := by decide +kernel
theorem dX12_needsOf_1 : decode cX12_needsOf 1 = .ok (.getfield 69, 3) := by decide +kernel
theorem dX12_needsOf_4 : decode cX12_needsOf 4 = .ok (.bipush 14, 2) := by decide +kernel
theorem dX12_needsOf_6 : decode cX12_needsOf 6 = .ok (.aload_n 0, 1) := by decide +kernel
theorem dX12_needsOf_7 : decode cX12_needsOf 7 = .ok (.getfield 51, 3) := by decide +kernel
theorem dX12_needsOf_10 : decode cX12_needsOf 10 = .ok (.imul, 1) := by decide +kernel
theorem dX12_needsOf_11 : decode cX12_needsOf 11 = .ok (.iload_n 1, 1) := by decide +kernel
theorem dX12_needsOf_12 : decode cX12_needsOf 12 = .ok (.iadd, 1) := by decide +kernel
theorem dX12_needsOf_13 : decode cX12_needsOf 13 = .ok (.iaload, 1) := by decide +kernel
theorem dX12_needsOf_14 : decode cX12_needsOf 14 = .ok (.ireturn, 1) := by decide +kernel
theorem dX12_known_0 : decode cX12_known 0 = .ok (.aload_n 0, 1) := by decide +kernel
theorem dX12_known_1 : decode cX12_known 1 = .ok (.getfield 180, 3) := by decide +kernel
theorem dX12_known_4 : decode cX12_known 4 = .ok (.bipush 6, 2) := by decide +kernel
theorem dX12_known_6 : decode cX12_known 6 = .ok (.iload_n 1, 1) := by decide +kernel
theorem dX12_known_7 : decode cX12_known 7 = .ok (.imul, 1) := by decide +kernel
theorem dX12_known_8 : decode cX12_known 8 = .ok (.iload_n 2, 1) := by decide +kernel
theorem dX12_known_9 : decode cX12_known 9 = .ok (.iadd, 1) := by decide +kernel
theorem dX12_known_10 : decode cX12_known 10 = .ok (.iaload, 1) := by decide +kernel
theorem dX12_known_11 : decode cX12_known 11 = .ok (.aload_n 0, 1) := by decide +kernel
theorem dX12_known_12 : decode cX12_known 12 = .ok (.getfield 183, 3) := by decide +kernel
theorem dX12_known_15 : decode cX12_known 15 = .ok (.bipush 6, 2) := by decide +kernel
theorem dX12_known_17 : decode cX12_known 17 = .ok (.iload_n 1, 1) := by decide +kernel
theorem dX12_known_18 : decode cX12_known 18 = .ok (.imul, 1) := by decide +kernel
theorem dX12_known_19 : decode cX12_known 19 = .ok (.iload_n 2, 1) := by decide +kernel
theorem dX12_known_20 : decode cX12_known 20 = .ok (.iadd, 1) := by decide +kernel
theorem dX12_known_21 : decode cX12_known 21 = .ok (.iaload, 1) := by decide +kernel
theorem dX12_known_22 : decode cX12_known 22 = .ok (.ior, 1) := by decide +kernel
theorem dX12_known_23 : decode cX12_known 23 = .ok (.ireturn, 1) := by decide +kernel
theorem dX12_mayRead_0 : decode cX12_mayRead 0 = .ok (.aload_n 0, 1) := by decide +kernel
theorem dX12_mayRead_1 : decode cX12_mayRead 1 = .ok (.iload_n 3, 1) := by decide +kernel
theorem dX12_mayRead_2 : decode cX12_mayRead 2 = .ok (.invokevirtual 470, 3) := by decide +kernel
theorem dX12_mayRead_5 : decode cX12_mayRead 5 = .ok (.aload_n 0, 1) := by decide +kernel
theorem dX12_mayRead_6 : decode cX12_mayRead 6 = .ok (.iload_n 1, 1) := by decide +kernel
theorem dX12_mayRead_7 : decode cX12_mayRead 7 = .ok (.iload_n 2, 1) := by decide +kernel
theorem dX12_mayRead_8 : decode cX12_mayRead 8 = .ok (.invokevirtual 473, 3) := by decide +kernel
theorem dX12_mayRead_11 : decode cX12_mayRead 11 = .ok (.iconst (-1), 1) := by decide +kernel
theorem dX12_mayRead_12 : decode cX12_mayRead 12 = .ok (.ixor, 1) := by decide +kernel
theorem dX12_mayRead_13 : decode cX12_mayRead 13 = .ok (.iand, 1) := by decide +kernel
theorem dX12_mayRead_14 : decode cX12_mayRead 14 = .ok (.ifCond .ne 7, 3) := by decide +kernel
theorem dX12_mayRead_17 : decode cX12_mayRead 17 = .ok (.iconst 1, 1) := by decide +kernel
theorem dX12_mayRead_18 : decode cX12_mayRead 18 = .ok (.goto 4, 3) := by decide +kernel
theorem dX12_mayRead_21 : decode cX12_mayRead 21 = .ok (.iconst 0, 1) := by decide +kernel
theorem dX12_mayRead_22 : decode cX12_mayRead 22 = .ok (.ireturn, 1) := by decide +kernel
theorem dX12_copies_0 : decode cX12_copies 0 = .ok (.aload_n 0, 1) := by decide +kernel
theorem dX12_copies_1 : decode cX12_copies 1 = .ok (.getfield 171, 3) := by decide +kernel
theorem dX12_copies_4 : decode cX12_copies 4 = .ok (.iload_n 1, 1) := by decide +kernel
theorem dX12_copies_5 : decode cX12_copies 5 = .ok (.aload_n 0, 1) := by decide +kernel
theorem dX12_copies_6 : decode cX12_copies 6 = .ok (.getfield 171, 3) := by decide +kernel
theorem dX12_copies_9 : decode cX12_copies 9 = .ok (.iload_n 2, 1) := by decide +kernel
theorem dX12_copies_10 : decode cX12_copies 10 = .ok (.iaload, 1) := by decide +kernel
theorem dX12_copies_11 : decode cX12_copies 11 = .ok (.iastore, 1) := by decide +kernel
theorem dX12_copies_12 : decode cX12_copies 12 = .ok (.aload_n 0, 1) := by decide +kernel
theorem dX12_copies_13 : decode cX12_copies 13 = .ok (.getfield 174, 3) := by decide +kernel
theorem dX12_copies_16 : decode cX12_copies 16 = .ok (.iload_n 1, 1) := by decide +kernel
theorem dX12_copies_17 : decode cX12_copies 17 = .ok (.aload_n 0, 1) := by decide +kernel
theorem dX12_copies_18 : decode cX12_copies 18 = .ok (.getfield 174, 3) := by decide +kernel
theorem dX12_copies_21 : decode cX12_copies 21 = .ok (.iload_n 2, 1) := by decide +kernel
theorem dX12_copies_22 : decode cX12_copies 22 = .ok (.iaload, 1) := by decide +kernel
theorem dX12_copies_23 : decode cX12_copies 23 = .ok (.iastore, 1) := by decide +kernel
theorem dX12_copies_24 : decode cX12_copies 24 = .ok (.iconst 0, 1) := by decide +kernel
theorem dX12_copies_25 : decode cX12_copies 25 = .ok (.istore_n 3, 1) := by decide +kernel
theorem dX12_copies_26 : decode cX12_copies 26 = .ok (.iload_n 3, 1) := by decide +kernel
theorem dX12_copies_27 : decode cX12_copies 27 = .ok (.bipush 6, 2) := by decide +kernel
theorem dX12_copies_29 : decode cX12_copies 29 = .ok (.if_icmp .ge 151, 3) := by decide +kernel
theorem dX12_copies_32 : decode cX12_copies 32 = .ok (.bipush 6, 2) := by decide +kernel
theorem dX12_copies_34 : decode cX12_copies 34 = .ok (.iload_n 1, 1) := by decide +kernel
theorem dX12_copies_35 : decode cX12_copies 35 = .ok (.imul, 1) := by decide +kernel
theorem dX12_copies_36 : decode cX12_copies 36 = .ok (.iload_n 3, 1) := by decide +kernel
theorem dX12_copies_37 : decode cX12_copies 37 = .ok (.iadd, 1) := by decide +kernel
theorem dX12_copies_38 : decode cX12_copies 38 = .ok (.istore 4, 2) := by decide +kernel
theorem dX12_copies_40 : decode cX12_copies 40 = .ok (.bipush 6, 2) := by decide +kernel
theorem dX12_copies_42 : decode cX12_copies 42 = .ok (.iload_n 2, 1) := by decide +kernel
theorem dX12_copies_43 : decode cX12_copies 43 = .ok (.imul, 1) := by decide +kernel
theorem dX12_copies_44 : decode cX12_copies 44 = .ok (.iload_n 3, 1) := by decide +kernel
theorem dX12_copies_45 : decode cX12_copies 45 = .ok (.iadd, 1) := by decide +kernel
theorem dX12_copies_46 : decode cX12_copies 46 = .ok (.istore 5, 2) := by decide +kernel
theorem dX12_copies_48 : decode cX12_copies 48 = .ok (.aload_n 0, 1) := by decide +kernel
theorem dX12_copies_49 : decode cX12_copies 49 = .ok (.getfield 177, 3) := by decide +kernel
theorem dX12_copies_52 : decode cX12_copies 52 = .ok (.iload 4, 2) := by decide +kernel
theorem dX12_copies_54 : decode cX12_copies 54 = .ok (.aload_n 0, 1) := by decide +kernel
theorem dX12_copies_55 : decode cX12_copies 55 = .ok (.getfield 177, 3) := by decide +kernel
theorem dX12_copies_58 : decode cX12_copies 58 = .ok (.iload 5, 2) := by decide +kernel
theorem dX12_copies_60 : decode cX12_copies 60 = .ok (.iaload, 1) := by decide +kernel
theorem dX12_copies_61 : decode cX12_copies 61 = .ok (.iastore, 1) := by decide +kernel
theorem dX12_copies_62 : decode cX12_copies 62 = .ok (.aload_n 0, 1) := by decide +kernel
theorem dX12_copies_63 : decode cX12_copies 63 = .ok (.getfield 180, 3) := by decide +kernel
theorem dX12_copies_66 : decode cX12_copies 66 = .ok (.iload 4, 2) := by decide +kernel
theorem dX12_copies_68 : decode cX12_copies 68 = .ok (.aload_n 0, 1) := by decide +kernel
theorem dX12_copies_69 : decode cX12_copies 69 = .ok (.getfield 180, 3) := by decide +kernel
theorem dX12_copies_72 : decode cX12_copies 72 = .ok (.iload 5, 2) := by decide +kernel
theorem dX12_copies_74 : decode cX12_copies 74 = .ok (.iaload, 1) := by decide +kernel
theorem dX12_copies_75 : decode cX12_copies 75 = .ok (.iastore, 1) := by decide +kernel
theorem dX12_copies_76 : decode cX12_copies 76 = .ok (.aload_n 0, 1) := by decide +kernel
theorem dX12_copies_77 : decode cX12_copies 77 = .ok (.getfield 183, 3) := by decide +kernel
theorem dX12_copies_80 : decode cX12_copies 80 = .ok (.iload 4, 2) := by decide +kernel
theorem dX12_copies_82 : decode cX12_copies 82 = .ok (.aload_n 0, 1) := by decide +kernel
theorem dX12_copies_83 : decode cX12_copies 83 = .ok (.getfield 183, 3) := by decide +kernel
theorem dX12_copies_86 : decode cX12_copies 86 = .ok (.iload 5, 2) := by decide +kernel
theorem dX12_copies_88 : decode cX12_copies 88 = .ok (.iaload, 1) := by decide +kernel
theorem dX12_copies_89 : decode cX12_copies 89 = .ok (.iastore, 1) := by decide +kernel
theorem dX12_copies_90 : decode cX12_copies 90 = .ok (.aload_n 0, 1) := by decide +kernel
theorem dX12_copies_91 : decode cX12_copies 91 = .ok (.getfield 186, 3) := by decide +kernel
theorem dX12_copies_94 : decode cX12_copies 94 = .ok (.iload 4, 2) := by decide +kernel
theorem dX12_copies_96 : decode cX12_copies 96 = .ok (.aload_n 0, 1) := by decide +kernel
theorem dX12_copies_97 : decode cX12_copies 97 = .ok (.getfield 186, 3) := by decide +kernel
theorem dX12_copies_100 : decode cX12_copies 100 = .ok (.iload 5, 2) := by decide +kernel
theorem dX12_copies_102 : decode cX12_copies 102 = .ok (.iaload, 1) := by decide +kernel
theorem dX12_copies_103 : decode cX12_copies 103 = .ok (.iastore, 1) := by decide +kernel
theorem dX12_copies_104 : decode cX12_copies 104 = .ok (.aload_n 0, 1) := by decide +kernel
theorem dX12_copies_105 : decode cX12_copies 105 = .ok (.getfield 189, 3) := by decide +kernel
theorem dX12_copies_108 : decode cX12_copies 108 = .ok (.iload 4, 2) := by decide +kernel
theorem dX12_copies_110 : decode cX12_copies 110 = .ok (.aload_n 0, 1) := by decide +kernel
theorem dX12_copies_111 : decode cX12_copies 111 = .ok (.getfield 189, 3) := by decide +kernel
theorem dX12_copies_114 : decode cX12_copies 114 = .ok (.iload 5, 2) := by decide +kernel
theorem dX12_copies_116 : decode cX12_copies 116 = .ok (.iaload, 1) := by decide +kernel
theorem dX12_copies_117 : decode cX12_copies 117 = .ok (.iastore, 1) := by decide +kernel
theorem dX12_copies_118 : decode cX12_copies 118 = .ok (.aload_n 0, 1) := by decide +kernel
theorem dX12_copies_119 : decode cX12_copies 119 = .ok (.getfield 192, 3) := by decide +kernel
theorem dX12_copies_122 : decode cX12_copies 122 = .ok (.iload 4, 2) := by decide +kernel
theorem dX12_copies_124 : decode cX12_copies 124 = .ok (.aload_n 0, 1) := by decide +kernel
theorem dX12_copies_125 : decode cX12_copies 125 = .ok (.getfield 192, 3) := by decide +kernel
theorem dX12_copies_128 : decode cX12_copies 128 = .ok (.iload 5, 2) := by decide +kernel
theorem dX12_copies_130 : decode cX12_copies 130 = .ok (.iaload, 1) := by decide +kernel
theorem dX12_copies_131 : decode cX12_copies 131 = .ok (.iastore, 1) := by decide +kernel
theorem dX12_copies_132 : decode cX12_copies 132 = .ok (.iconst 0, 1) := by decide +kernel
theorem dX12_copies_133 : decode cX12_copies 133 = .ok (.istore 6, 2) := by decide +kernel
theorem dX12_copies_135 : decode cX12_copies 135 = .ok (.iload 6, 2) := by decide +kernel
theorem dX12_copies_137 : decode cX12_copies 137 = .ok (.bipush 8, 2) := by decide +kernel
theorem dX12_copies_139 : decode cX12_copies 139 = .ok (.if_icmp .ge 35, 3) := by decide +kernel
theorem dX12_copies_142 : decode cX12_copies 142 = .ok (.aload_n 0, 1) := by decide +kernel
theorem dX12_copies_143 : decode cX12_copies 143 = .ok (.getfield 195, 3) := by decide +kernel
theorem dX12_copies_146 : decode cX12_copies 146 = .ok (.bipush 8, 2) := by decide +kernel
theorem dX12_copies_148 : decode cX12_copies 148 = .ok (.iload 4, 2) := by decide +kernel
theorem dX12_copies_150 : decode cX12_copies 150 = .ok (.imul, 1) := by decide +kernel
theorem dX12_copies_151 : decode cX12_copies 151 = .ok (.iload 6, 2) := by decide +kernel
theorem dX12_copies_153 : decode cX12_copies 153 = .ok (.iadd, 1) := by decide +kernel
theorem dX12_copies_154 : decode cX12_copies 154 = .ok (.aload_n 0, 1) := by decide +kernel
theorem dX12_copies_155 : decode cX12_copies 155 = .ok (.getfield 195, 3) := by decide +kernel
theorem dX12_copies_158 : decode cX12_copies 158 = .ok (.bipush 8, 2) := by decide +kernel
theorem dX12_copies_160 : decode cX12_copies 160 = .ok (.iload 5, 2) := by decide +kernel
theorem dX12_copies_162 : decode cX12_copies 162 = .ok (.imul, 1) := by decide +kernel
theorem dX12_copies_163 : decode cX12_copies 163 = .ok (.iload 6, 2) := by decide +kernel
theorem dX12_copies_165 : decode cX12_copies 165 = .ok (.iadd, 1) := by decide +kernel
theorem dX12_copies_166 : decode cX12_copies 166 = .ok (.iaload, 1) := by decide +kernel
theorem dX12_copies_167 : decode cX12_copies 167 = .ok (.iastore, 1) := by decide +kernel
theorem dX12_copies_168 : decode cX12_copies 168 = .ok (.iinc 6 1, 3) := by decide +kernel
theorem dX12_copies_171 : decode cX12_copies 171 = .ok (.goto (-36), 3) := by decide +kernel
theorem dX12_copies_174 : decode cX12_copies 174 = .ok (.iinc 3 1, 3) := by decide +kernel
theorem dX12_copies_177 : decode cX12_copies 177 = .ok (.goto (-151), 3) := by decide +kernel
theorem dX12_copies_180 : decode cX12_copies 180 = .ok (.aload_n 0, 1) := by decide +kernel
theorem dX12_copies_181 : decode cX12_copies 181 = .ok (.getfield 198, 3) := by decide +kernel
theorem dX12_copies_184 : decode cX12_copies 184 = .ok (.iload_n 1, 1) := by decide +kernel
theorem dX12_copies_185 : decode cX12_copies 185 = .ok (.aload_n 0, 1) := by decide +kernel
theorem dX12_copies_186 : decode cX12_copies 186 = .ok (.getfield 198, 3) := by decide +kernel
theorem dX12_copies_189 : decode cX12_copies 189 = .ok (.iload_n 2, 1) := by decide +kernel
theorem dX12_copies_190 : decode cX12_copies 190 = .ok (.iaload, 1) := by decide +kernel
theorem dX12_copies_191 : decode cX12_copies 191 = .ok (.iastore, 1) := by decide +kernel
theorem dX12_copies_192 : decode cX12_copies 192 = .ok (.iconst 0, 1) := by decide +kernel
theorem dX12_copies_193 : decode cX12_copies 193 = .ok (.istore_n 3, 1) := by decide +kernel
theorem dX12_copies_194 : decode cX12_copies 194 = .ok (.iload_n 3, 1) := by decide +kernel
theorem dX12_copies_195 : decode cX12_copies 195 = .ok (.bipush 60, 2) := by decide +kernel
theorem dX12_copies_197 : decode cX12_copies 197 = .ok (.if_icmp .ge 75, 3) := by decide +kernel
theorem dX12_copies_200 : decode cX12_copies 200 = .ok (.aload_n 0, 1) := by decide +kernel
theorem dX12_copies_201 : decode cX12_copies 201 = .ok (.getfield 201, 3) := by decide +kernel
theorem dX12_copies_204 : decode cX12_copies 204 = .ok (.bipush 60, 2) := by decide +kernel
theorem dX12_copies_206 : decode cX12_copies 206 = .ok (.iload_n 1, 1) := by decide +kernel
theorem dX12_copies_207 : decode cX12_copies 207 = .ok (.imul, 1) := by decide +kernel
theorem dX12_copies_208 : decode cX12_copies 208 = .ok (.iload_n 3, 1) := by decide +kernel
theorem dX12_copies_209 : decode cX12_copies 209 = .ok (.iadd, 1) := by decide +kernel
theorem dX12_copies_210 : decode cX12_copies 210 = .ok (.aload_n 0, 1) := by decide +kernel
theorem dX12_copies_211 : decode cX12_copies 211 = .ok (.getfield 201, 3) := by decide +kernel
theorem dX12_copies_214 : decode cX12_copies 214 = .ok (.bipush 60, 2) := by decide +kernel
theorem dX12_copies_216 : decode cX12_copies 216 = .ok (.iload_n 2, 1) := by decide +kernel
theorem dX12_copies_217 : decode cX12_copies 217 = .ok (.imul, 1) := by decide +kernel
theorem dX12_copies_218 : decode cX12_copies 218 = .ok (.iload_n 3, 1) := by decide +kernel
theorem dX12_copies_219 : decode cX12_copies 219 = .ok (.iadd, 1) := by decide +kernel
theorem dX12_copies_220 : decode cX12_copies 220 = .ok (.iaload, 1) := by decide +kernel
theorem dX12_copies_221 : decode cX12_copies 221 = .ok (.iastore, 1) := by decide +kernel
theorem dX12_copies_222 : decode cX12_copies 222 = .ok (.aload_n 0, 1) := by decide +kernel
theorem dX12_copies_223 : decode cX12_copies 223 = .ok (.getfield 204, 3) := by decide +kernel
theorem dX12_copies_226 : decode cX12_copies 226 = .ok (.bipush 60, 2) := by decide +kernel
theorem dX12_copies_228 : decode cX12_copies 228 = .ok (.iload_n 1, 1) := by decide +kernel
theorem dX12_copies_229 : decode cX12_copies 229 = .ok (.imul, 1) := by decide +kernel
theorem dX12_copies_230 : decode cX12_copies 230 = .ok (.iload_n 3, 1) := by decide +kernel
theorem dX12_copies_231 : decode cX12_copies 231 = .ok (.iadd, 1) := by decide +kernel
theorem dX12_copies_232 : decode cX12_copies 232 = .ok (.aload_n 0, 1) := by decide +kernel
theorem dX12_copies_233 : decode cX12_copies 233 = .ok (.getfield 204, 3) := by decide +kernel
theorem dX12_copies_236 : decode cX12_copies 236 = .ok (.bipush 60, 2) := by decide +kernel
theorem dX12_copies_238 : decode cX12_copies 238 = .ok (.iload_n 2, 1) := by decide +kernel
theorem dX12_copies_239 : decode cX12_copies 239 = .ok (.imul, 1) := by decide +kernel
theorem dX12_copies_240 : decode cX12_copies 240 = .ok (.iload_n 3, 1) := by decide +kernel
theorem dX12_copies_241 : decode cX12_copies 241 = .ok (.iadd, 1) := by decide +kernel
theorem dX12_copies_242 : decode cX12_copies 242 = .ok (.iaload, 1) := by decide +kernel
theorem dX12_copies_243 : decode cX12_copies 243 = .ok (.iastore, 1) := by decide +kernel
theorem dX12_copies_244 : decode cX12_copies 244 = .ok (.aload_n 0, 1) := by decide +kernel
theorem dX12_copies_245 : decode cX12_copies 245 = .ok (.getfield 207, 3) := by decide +kernel
theorem dX12_copies_248 : decode cX12_copies 248 = .ok (.bipush 60, 2) := by decide +kernel
theorem dX12_copies_250 : decode cX12_copies 250 = .ok (.iload_n 1, 1) := by decide +kernel
theorem dX12_copies_251 : decode cX12_copies 251 = .ok (.imul, 1) := by decide +kernel
theorem dX12_copies_252 : decode cX12_copies 252 = .ok (.iload_n 3, 1) := by decide +kernel
theorem dX12_copies_253 : decode cX12_copies 253 = .ok (.iadd, 1) := by decide +kernel
theorem dX12_copies_254 : decode cX12_copies 254 = .ok (.aload_n 0, 1) := by decide +kernel
theorem dX12_copies_255 : decode cX12_copies 255 = .ok (.getfield 207, 3) := by decide +kernel
theorem dX12_copies_258 : decode cX12_copies 258 = .ok (.bipush 60, 2) := by decide +kernel
theorem dX12_copies_260 : decode cX12_copies 260 = .ok (.iload_n 2, 1) := by decide +kernel
theorem dX12_copies_261 : decode cX12_copies 261 = .ok (.imul, 1) := by decide +kernel
theorem dX12_copies_262 : decode cX12_copies 262 = .ok (.iload_n 3, 1) := by decide +kernel
theorem dX12_copies_263 : decode cX12_copies 263 = .ok (.iadd, 1) := by decide +kernel
theorem dX12_copies_264 : decode cX12_copies 264 = .ok (.iaload, 1) := by decide +kernel
theorem dX12_copies_265 : decode cX12_copies 265 = .ok (.iastore, 1) := by decide +kernel
theorem dX12_copies_266 : decode cX12_copies 266 = .ok (.iinc 3 1, 3) := by decide +kernel
theorem dX12_copies_269 : decode cX12_copies 269 = .ok (.goto (-75), 3) := by decide +kernel
theorem dX12_copies_272 : decode cX12_copies 272 = .ok (.return_, 1) := by decide +kernel
theorem dX12_begin_0 : decode cX12_begin 0 = .ok (.aload_n 0, 1) := by decide +kernel
theorem dX12_begin_1 : decode cX12_begin 1 = .ok (.getfield 171, 3) := by decide +kernel
theorem dX12_begin_4 : decode cX12_begin 4 = .ok (.iconst 0, 1) := by decide +kernel
theorem dX12_begin_5 : decode cX12_begin 5 = .ok (.iconst 0, 1) := by decide +kernel
theorem dX12_begin_6 : decode cX12_begin 6 = .ok (.iastore, 1) := by decide +kernel
theorem dX12_begin_7 : decode cX12_begin 7 = .ok (.aload_n 0, 1) := by decide +kernel
theorem dX12_begin_8 : decode cX12_begin 8 = .ok (.getfield 174, 3) := by decide +kernel
theorem dX12_begin_11 : decode cX12_begin 11 = .ok (.iconst 0, 1) := by decide +kernel
theorem dX12_begin_12 : decode cX12_begin 12 = .ok (.iconst 0, 1) := by decide +kernel
theorem dX12_begin_13 : decode cX12_begin 13 = .ok (.iastore, 1) := by decide +kernel
theorem dX12_begin_14 : decode cX12_begin 14 = .ok (.aload_n 0, 1) := by decide +kernel
theorem dX12_begin_15 : decode cX12_begin 15 = .ok (.getfield 198, 3) := by decide +kernel
theorem dX12_begin_18 : decode cX12_begin 18 = .ok (.iconst 0, 1) := by decide +kernel
theorem dX12_begin_19 : decode cX12_begin 19 = .ok (.iconst 0, 1) := by decide +kernel
theorem dX12_begin_20 : decode cX12_begin 20 = .ok (.iastore, 1) := by decide +kernel
theorem dX12_begin_21 : decode cX12_begin 21 = .ok (.aload_n 0, 1) := by decide +kernel
theorem dX12_begin_22 : decode cX12_begin 22 = .ok (.iconst 0, 1) := by decide +kernel
theorem dX12_begin_23 : decode cX12_begin 23 = .ok (.putfield 213, 3) := by decide +kernel
theorem dX12_begin_26 : decode cX12_begin 26 = .ok (.iconst 0, 1) := by decide +kernel
theorem dX12_begin_27 : decode cX12_begin 27 = .ok (.istore_n 1, 1) := by decide +kernel
theorem dX12_begin_28 : decode cX12_begin 28 = .ok (.iload_n 1, 1) := by decide +kernel
theorem dX12_begin_29 : decode cX12_begin 29 = .ok (.bipush 6, 2) := by decide +kernel
theorem dX12_begin_31 : decode cX12_begin 31 = .ok (.if_icmp .ge 51, 3) := by decide +kernel
theorem dX12_begin_34 : decode cX12_begin 34 = .ok (.aload_n 0, 1) := by decide +kernel
theorem dX12_begin_35 : decode cX12_begin 35 = .ok (.getfield 177, 3) := by decide +kernel
theorem dX12_begin_38 : decode cX12_begin 38 = .ok (.iload_n 1, 1) := by decide +kernel
theorem dX12_begin_39 : decode cX12_begin 39 = .ok (.iconst 0, 1) := by decide +kernel
theorem dX12_begin_40 : decode cX12_begin 40 = .ok (.iastore, 1) := by decide +kernel
theorem dX12_begin_41 : decode cX12_begin 41 = .ok (.aload_n 0, 1) := by decide +kernel
theorem dX12_begin_42 : decode cX12_begin 42 = .ok (.getfield 180, 3) := by decide +kernel
theorem dX12_begin_45 : decode cX12_begin 45 = .ok (.iload_n 1, 1) := by decide +kernel
theorem dX12_begin_46 : decode cX12_begin 46 = .ok (.iconst 0, 1) := by decide +kernel
theorem dX12_begin_47 : decode cX12_begin 47 = .ok (.iastore, 1) := by decide +kernel
theorem dX12_begin_48 : decode cX12_begin 48 = .ok (.aload_n 0, 1) := by decide +kernel
theorem dX12_begin_49 : decode cX12_begin 49 = .ok (.getfield 183, 3) := by decide +kernel
theorem dX12_begin_52 : decode cX12_begin 52 = .ok (.iload_n 1, 1) := by decide +kernel
theorem dX12_begin_53 : decode cX12_begin 53 = .ok (.iconst 0, 1) := by decide +kernel
theorem dX12_begin_54 : decode cX12_begin 54 = .ok (.iastore, 1) := by decide +kernel
theorem dX12_begin_55 : decode cX12_begin 55 = .ok (.aload_n 0, 1) := by decide +kernel
theorem dX12_begin_56 : decode cX12_begin 56 = .ok (.getfield 186, 3) := by decide +kernel
theorem dX12_begin_59 : decode cX12_begin 59 = .ok (.iload_n 1, 1) := by decide +kernel
theorem dX12_begin_60 : decode cX12_begin 60 = .ok (.iconst (-1), 1) := by decide +kernel
theorem dX12_begin_61 : decode cX12_begin 61 = .ok (.iastore, 1) := by decide +kernel
theorem dX12_begin_62 : decode cX12_begin 62 = .ok (.aload_n 0, 1) := by decide +kernel
theorem dX12_begin_63 : decode cX12_begin 63 = .ok (.getfield 189, 3) := by decide +kernel
theorem dX12_begin_66 : decode cX12_begin 66 = .ok (.iload_n 1, 1) := by decide +kernel
theorem dX12_begin_67 : decode cX12_begin 67 = .ok (.iconst 0, 1) := by decide +kernel
theorem dX12_begin_68 : decode cX12_begin 68 = .ok (.iastore, 1) := by decide +kernel
theorem dX12_begin_69 : decode cX12_begin 69 = .ok (.aload_n 0, 1) := by decide +kernel
theorem dX12_begin_70 : decode cX12_begin 70 = .ok (.getfield 192, 3) := by decide +kernel
theorem dX12_begin_73 : decode cX12_begin 73 = .ok (.iload_n 1, 1) := by decide +kernel
theorem dX12_begin_74 : decode cX12_begin 74 = .ok (.iconst 0, 1) := by decide +kernel
theorem dX12_begin_75 : decode cX12_begin 75 = .ok (.iastore, 1) := by decide +kernel
theorem dX12_begin_76 : decode cX12_begin 76 = .ok (.iinc 1 1, 3) := by decide +kernel
theorem dX12_begin_79 : decode cX12_begin 79 = .ok (.goto (-51), 3) := by decide +kernel
theorem dX12_begin_82 : decode cX12_begin 82 = .ok (.return_, 1) := by decide +kernel
theorem dX12_ring_0 : decode cX12_ring 0 = .ok (.iconst 2, 1) := by decide +kernel
theorem dX12_ring_1 : decode cX12_ring 1 = .ok (.aload_n 0, 1) := by decide +kernel
theorem dX12_ring_2 : decode cX12_ring 2 = .ok (.getfield 210, 3) := by decide +kernel
theorem dX12_ring_5 : decode cX12_ring 5 = .ok (.iload_n 1, 1) := by decide +kernel
theorem dX12_ring_6 : decode cX12_ring 6 = .ok (.iadd, 1) := by decide +kernel
theorem dX12_ring_7 : decode cX12_ring 7 = .ok (.bipush 20, 2) := by decide +kernel
theorem dX12_ring_9 : decode cX12_ring 9 = .ok (.irem, 1) := by decide +kernel
theorem dX12_ring_10 : decode cX12_ring 10 = .ok (.iadd, 1) := by decide +kernel
theorem dX12_ring_11 : decode cX12_ring 11 = .ok (.ireturn, 1) := by decide +kernel
theorem dX12_keeps_0 : decode cX12_keeps 0 = .ok (.aload_n 0, 1) := by decide +kernel
theorem dX12_keeps_1 : decode cX12_keeps 1 = .ok (.getfield 213, 3) := by decide +kernel
theorem dX12_keeps_4 : decode cX12_keeps 4 = .ok (.bipush 20, 2) := by decide +kernel
theorem dX12_keeps_6 : decode cX12_keeps 6 = .ok (.if_icmp .ne 26, 3) := by decide +kernel
theorem dX12_keeps_9 : decode cX12_keeps 9 = .ok (.aload_n 0, 1) := by decide +kernel
theorem dX12_keeps_10 : decode cX12_keeps 10 = .ok (.aload_n 0, 1) := by decide +kernel
theorem dX12_keeps_11 : decode cX12_keeps 11 = .ok (.getfield 210, 3) := by decide +kernel
theorem dX12_keeps_14 : decode cX12_keeps 14 = .ok (.iconst 1, 1) := by decide +kernel
theorem dX12_keeps_15 : decode cX12_keeps 15 = .ok (.iadd, 1) := by decide +kernel
theorem dX12_keeps_16 : decode cX12_keeps 16 = .ok (.bipush 20, 2) := by decide +kernel
theorem dX12_keeps_18 : decode cX12_keeps 18 = .ok (.irem, 1) := by decide +kernel
theorem dX12_keeps_19 : decode cX12_keeps 19 = .ok (.putfield 210, 3) := by decide +kernel
theorem dX12_keeps_22 : decode cX12_keeps 22 = .ok (.aload_n 0, 1) := by decide +kernel
theorem dX12_keeps_23 : decode cX12_keeps 23 = .ok (.dup, 1) := by decide +kernel
theorem dX12_keeps_24 : decode cX12_keeps 24 = .ok (.getfield 213, 3) := by decide +kernel
theorem dX12_keeps_27 : decode cX12_keeps 27 = .ok (.iconst 1, 1) := by decide +kernel
theorem dX12_keeps_28 : decode cX12_keeps 28 = .ok (.isub, 1) := by decide +kernel
theorem dX12_keeps_29 : decode cX12_keeps 29 = .ok (.putfield 213, 3) := by decide +kernel
theorem dX12_keeps_32 : decode cX12_keeps 32 = .ok (.aload_n 0, 1) := by decide +kernel
theorem dX12_keeps_33 : decode cX12_keeps 33 = .ok (.aload_n 0, 1) := by decide +kernel
theorem dX12_keeps_34 : decode cX12_keeps 34 = .ok (.aload_n 0, 1) := by decide +kernel
theorem dX12_keeps_35 : decode cX12_keeps 35 = .ok (.getfield 213, 3) := by decide +kernel
theorem dX12_keeps_38 : decode cX12_keeps 38 = .ok (.invokevirtual 476, 3) := by decide +kernel
theorem dX12_keeps_41 : decode cX12_keeps 41 = .ok (.iconst 0, 1) := by decide +kernel
theorem dX12_keeps_42 : decode cX12_keeps 42 = .ok (.invokevirtual 479, 3) := by decide +kernel
theorem dX12_keeps_45 : decode cX12_keeps 45 = .ok (.aload_n 0, 1) := by decide +kernel
theorem dX12_keeps_46 : decode cX12_keeps 46 = .ok (.dup, 1) := by decide +kernel
theorem dX12_keeps_47 : decode cX12_keeps 47 = .ok (.getfield 213, 3) := by decide +kernel
theorem dX12_keeps_50 : decode cX12_keeps 50 = .ok (.iconst 1, 1) := by decide +kernel
theorem dX12_keeps_51 : decode cX12_keeps 51 = .ok (.iadd, 1) := by decide +kernel
theorem dX12_keeps_52 : decode cX12_keeps 52 = .ok (.putfield 213, 3) := by decide +kernel
theorem dX12_keeps_55 : decode cX12_keeps 55 = .ok (.return_, 1) := by decide +kernel
theorem dX12_undo_0 : decode cX12_undo 0 = .ok (.aload_n 0, 1) := by decide +kernel
theorem dX12_undo_1 : decode cX12_undo 1 = .ok (.getfield 213, 3) := by decide +kernel
theorem dX12_undo_4 : decode cX12_undo 4 = .ok (.ifCond .ne 17, 3) := by decide +kernel
theorem dX12_undo_7 : decode cX12_undo 7 = .ok (.aload_n 0, 1) := by decide +kernel
theorem dX12_undo_8 : decode cX12_undo 8 = .ok (.iconst 4, 1) := by decide +kernel
theorem dX12_undo_9 : decode cX12_undo 9 = .ok (.invokevirtual 279, 3) := by decide +kernel
theorem dX12_undo_12 : decode cX12_undo 12 = .ok (.ifCond .lt 7, 3) := by decide +kernel
theorem dX12_undo_15 : decode cX12_undo 15 = .ok (.iconst 1, 1) := by decide +kernel
theorem dX12_undo_16 : decode cX12_undo 16 = .ok (.goto 4, 3) := by decide +kernel
theorem dX12_undo_19 : decode cX12_undo 19 = .ok (.iconst 0, 1) := by decide +kernel
theorem dX12_undo_20 : decode cX12_undo 20 = .ok (.ireturn, 1) := by decide +kernel
theorem dX12_undo_21 : decode cX12_undo 21 = .ok (.aload_n 0, 1) := by decide +kernel
theorem dX12_undo_22 : decode cX12_undo 22 = .ok (.dup, 1) := by decide +kernel
theorem dX12_undo_23 : decode cX12_undo 23 = .ok (.getfield 213, 3) := by decide +kernel
theorem dX12_undo_26 : decode cX12_undo 26 = .ok (.iconst 1, 1) := by decide +kernel
theorem dX12_undo_27 : decode cX12_undo 27 = .ok (.isub, 1) := by decide +kernel
theorem dX12_undo_28 : decode cX12_undo 28 = .ok (.putfield 213, 3) := by decide +kernel
theorem dX12_undo_31 : decode cX12_undo 31 = .ok (.aload_n 0, 1) := by decide +kernel
theorem dX12_undo_32 : decode cX12_undo 32 = .ok (.iconst 0, 1) := by decide +kernel
theorem dX12_undo_33 : decode cX12_undo 33 = .ok (.aload_n 0, 1) := by decide +kernel
theorem dX12_undo_34 : decode cX12_undo 34 = .ok (.aload_n 0, 1) := by decide +kernel
theorem dX12_undo_35 : decode cX12_undo 35 = .ok (.getfield 213, 3) := by decide +kernel
theorem dX12_undo_38 : decode cX12_undo 38 = .ok (.invokevirtual 476, 3) := by decide +kernel
theorem dX12_undo_41 : decode cX12_undo 41 = .ok (.invokevirtual 479, 3) := by decide +kernel
theorem dX12_undo_44 : decode cX12_undo 44 = .ok (.iconst 1, 1) := by decide +kernel
theorem dX12_undo_45 : decode cX12_undo 45 = .ok (.ireturn, 1) := by decide +kernel
theorem dX12_sitting_0 : decode cX12_sitting 0 = .ok (.iconst 0, 1) := by decide +kernel
theorem dX12_sitting_1 : decode cX12_sitting 1 = .ok (.istore_n 3, 1) := by decide +kernel
theorem dX12_sitting_2 : decode cX12_sitting 2 = .ok (.iconst 0, 1) := by decide +kernel
theorem dX12_sitting_3 : decode cX12_sitting 3 = .ok (.istore 4, 2) := by decide +kernel
theorem dX12_sitting_5 : decode cX12_sitting 5 = .ok (.iload 4, 2) := by decide +kernel
theorem dX12_sitting_7 : decode cX12_sitting 7 = .ok (.aload_n 0, 1) := by decide +kernel
theorem dX12_sitting_8 : decode cX12_sitting 8 = .ok (.getfield 75, 3) := by decide +kernel
theorem dX12_sitting_11 : decode cX12_sitting 11 = .ok (.aload_n 0, 1) := by decide +kernel
theorem dX12_sitting_12 : decode cX12_sitting 12 = .ok (.getfield 51, 3) := by decide +kernel
theorem dX12_sitting_15 : decode cX12_sitting 15 = .ok (.iaload, 1) := by decide +kernel
theorem dX12_sitting_16 : decode cX12_sitting 16 = .ok (.if_icmp .ge 33, 3) := by decide +kernel
theorem dX12_sitting_19 : decode cX12_sitting 19 = .ok (.iload_n 3, 1) := by decide +kernel
theorem dX12_sitting_20 : decode cX12_sitting 20 = .ok (.aload_n 0, 1) := by decide +kernel
theorem dX12_sitting_21 : decode cX12_sitting 21 = .ok (.getfield 177, 3) := by decide +kernel
theorem dX12_sitting_24 : decode cX12_sitting 24 = .ok (.bipush 6, 2) := by decide +kernel
theorem dX12_sitting_26 : decode cX12_sitting 26 = .ok (.iload_n 1, 1) := by decide +kernel
theorem dX12_sitting_27 : decode cX12_sitting 27 = .ok (.imul, 1) := by decide +kernel
theorem dX12_sitting_28 : decode cX12_sitting 28 = .ok (.iload 4, 2) := by decide +kernel
theorem dX12_sitting_30 : decode cX12_sitting 30 = .ok (.iadd, 1) := by decide +kernel
theorem dX12_sitting_31 : decode cX12_sitting 31 = .ok (.iaload, 1) := by decide +kernel
theorem dX12_sitting_32 : decode cX12_sitting 32 = .ok (.iload_n 2, 1) := by decide +kernel
theorem dX12_sitting_33 : decode cX12_sitting 33 = .ok (.if_icmp .ne 7, 3) := by decide +kernel
theorem dX12_sitting_36 : decode cX12_sitting 36 = .ok (.iconst 1, 1) := by decide +kernel
theorem dX12_sitting_37 : decode cX12_sitting 37 = .ok (.goto 4, 3) := by decide +kernel
theorem dX12_sitting_40 : decode cX12_sitting 40 = .ok (.iconst 0, 1) := by decide +kernel
theorem dX12_sitting_41 : decode cX12_sitting 41 = .ok (.iadd, 1) := by decide +kernel
theorem dX12_sitting_42 : decode cX12_sitting 42 = .ok (.istore_n 3, 1) := by decide +kernel
theorem dX12_sitting_43 : decode cX12_sitting 43 = .ok (.iinc 4 1, 3) := by decide +kernel
theorem dX12_sitting_46 : decode cX12_sitting 46 = .ok (.goto (-41), 3) := by decide +kernel
theorem dX12_sitting_49 : decode cX12_sitting 49 = .ok (.iload_n 3, 1) := by decide +kernel
theorem dX12_sitting_50 : decode cX12_sitting 50 = .ok (.ireturn, 1) := by decide +kernel
theorem dX12_draftOf_0 : decode cX12_draftOf 0 = .ok (.aload_n 0, 1) := by decide +kernel
theorem dX12_draftOf_1 : decode cX12_draftOf 1 = .ok (.getfield 87, 3) := by decide +kernel
theorem dX12_draftOf_4 : decode cX12_draftOf 4 = .ok (.iconst 5, 1) := by decide +kernel
theorem dX12_draftOf_5 : decode cX12_draftOf 5 = .ok (.aload_n 0, 1) := by decide +kernel
theorem dX12_draftOf_6 : decode cX12_draftOf 6 = .ok (.getfield 51, 3) := by decide +kernel
theorem dX12_draftOf_9 : decode cX12_draftOf 9 = .ok (.imul, 1) := by decide +kernel
theorem dX12_draftOf_10 : decode cX12_draftOf 10 = .ok (.iload_n 1, 1) := by decide +kernel
theorem dX12_draftOf_11 : decode cX12_draftOf 11 = .ok (.iadd, 1) := by decide +kernel
theorem dX12_draftOf_12 : decode cX12_draftOf 12 = .ok (.iaload, 1) := by decide +kernel
theorem dX12_draftOf_13 : decode cX12_draftOf 13 = .ok (.iload_n 1, 1) := by decide +kernel
theorem dX12_draftOf_14 : decode cX12_draftOf 14 = .ok (.aload_n 0, 1) := by decide +kernel
theorem dX12_draftOf_15 : decode cX12_draftOf 15 = .ok (.getfield 234, 3) := by decide +kernel
theorem dX12_draftOf_18 : decode cX12_draftOf 18 = .ok (.if_icmp .ne 7, 3) := by decide +kernel
theorem dX12_draftOf_21 : decode cX12_draftOf 21 = .ok (.iconst 3, 1) := by decide +kernel
theorem dX12_draftOf_22 : decode cX12_draftOf 22 = .ok (.goto 4, 3) := by decide +kernel
theorem dX12_draftOf_25 : decode cX12_draftOf 25 = .ok (.iconst 0, 1) := by decide +kernel
theorem dX12_draftOf_26 : decode cX12_draftOf 26 = .ok (.iadd, 1) := by decide +kernel
theorem dX12_draftOf_27 : decode cX12_draftOf 27 = .ok (.istore_n 2, 1) := by decide +kernel
theorem dX12_draftOf_28 : decode cX12_draftOf 28 = .ok (.iload_n 2, 1) := by decide +kernel
theorem dX12_draftOf_29 : decode cX12_draftOf 29 = .ok (.bipush 12, 2) := by decide +kernel
theorem dX12_draftOf_31 : decode cX12_draftOf 31 = .ok (.if_icmp .le 8, 3) := by decide +kernel
theorem dX12_draftOf_34 : decode cX12_draftOf 34 = .ok (.bipush 12, 2) := by decide +kernel
theorem dX12_draftOf_36 : decode cX12_draftOf 36 = .ok (.goto 4, 3) := by decide +kernel
theorem dX12_draftOf_39 : decode cX12_draftOf 39 = .ok (.iload_n 2, 1) := by decide +kernel
theorem dX12_draftOf_40 : decode cX12_draftOf 40 = .ok (.ireturn, 1) := by decide +kernel
theorem dX12_part_0 : decode cX12_part 0 = .ok (.aload_n 0, 1) := by decide +kernel
theorem dX12_part_1 : decode cX12_part 1 = .ok (.getfield 177, 3) := by decide +kernel
theorem dX12_part_4 : decode cX12_part 4 = .ok (.bipush 6, 2) := by decide +kernel
theorem dX12_part_6 : decode cX12_part 6 = .ok (.aload_n 0, 1) := by decide +kernel
theorem dX12_part_7 : decode cX12_part 7 = .ok (.getfield 222, 3) := by decide +kernel
theorem dX12_part_10 : decode cX12_part 10 = .ok (.imul, 1) := by decide +kernel
theorem dX12_part_11 : decode cX12_part 11 = .ok (.aload_n 0, 1) := by decide +kernel
theorem dX12_part_12 : decode cX12_part 12 = .ok (.getfield 225, 3) := by decide +kernel
theorem dX12_part_15 : decode cX12_part 15 = .ok (.iadd, 1) := by decide +kernel
theorem dX12_part_16 : decode cX12_part 16 = .ok (.iaload, 1) := by decide +kernel
theorem dX12_part_17 : decode cX12_part 17 = .ok (.istore_n 3, 1) := by decide +kernel
theorem dX12_part_18 : decode cX12_part 18 = .ok (.iload_n 1, 1) := by decide +kernel
theorem dX12_part_19 : decode cX12_part 19 = .ok (.tableswitch 229 0 9 #[53, 56, 87, 118, 137, 156, 189, 196, 207, 218], 53) := by decide +kernel
theorem dX12_part_72 : decode cX12_part 72 = .ok (.iload_n 2, 1) := by decide +kernel
theorem dX12_part_73 : decode cX12_part 73 = .ok (.i2l, 1) := by decide +kernel
theorem dX12_part_74 : decode cX12_part 74 = .ok (.lreturn, 1) := by decide +kernel
theorem dX12_part_75 : decode cX12_part 75 = .ok (.aload_n 0, 1) := by decide +kernel
theorem dX12_part_76 : decode cX12_part 76 = .ok (.getfield 228, 3) := by decide +kernel
theorem dX12_part_79 : decode cX12_part 79 = .ok (.iconst (-1), 1) := by decide +kernel
theorem dX12_part_80 : decode cX12_part 80 = .ok (.if_icmp .ne 7, 3) := by decide +kernel
theorem dX12_part_83 : decode cX12_part 83 = .ok (.lconst 0, 1) := by decide +kernel
theorem dX12_part_84 : decode cX12_part 84 = .ok (.goto 21, 3) := by decide +kernel
theorem dX12_part_87 : decode cX12_part 87 = .ok (.aload_n 0, 1) := by decide +kernel
theorem dX12_part_88 : decode cX12_part 88 = .ok (.getfield 63, 3) := by decide +kernel
theorem dX12_part_91 : decode cX12_part 91 = .ok (.bipush 14, 2) := by decide +kernel
theorem dX12_part_93 : decode cX12_part 93 = .ok (.aload_n 0, 1) := by decide +kernel
theorem dX12_part_94 : decode cX12_part 94 = .ok (.getfield 51, 3) := by decide +kernel
theorem dX12_part_97 : decode cX12_part 97 = .ok (.imul, 1) := by decide +kernel
theorem dX12_part_98 : decode cX12_part 98 = .ok (.aload_n 0, 1) := by decide +kernel
theorem dX12_part_99 : decode cX12_part 99 = .ok (.getfield 228, 3) := by decide +kernel
theorem dX12_part_102 : decode cX12_part 102 = .ok (.iadd, 1) := by decide +kernel
theorem dX12_part_103 : decode cX12_part 103 = .ok (.iaload, 1) := by decide +kernel
theorem dX12_part_104 : decode cX12_part 104 = .ok (.i2l, 1) := by decide +kernel
theorem dX12_part_105 : decode cX12_part 105 = .ok (.lreturn, 1) := by decide +kernel
theorem dX12_part_106 : decode cX12_part 106 = .ok (.aload_n 0, 1) := by decide +kernel
theorem dX12_part_107 : decode cX12_part 107 = .ok (.getfield 228, 3) := by decide +kernel
theorem dX12_part_110 : decode cX12_part 110 = .ok (.iconst (-1), 1) := by decide +kernel
theorem dX12_part_111 : decode cX12_part 111 = .ok (.if_icmp .ne 7, 3) := by decide +kernel
theorem dX12_part_114 : decode cX12_part 114 = .ok (.lconst 0, 1) := by decide +kernel
theorem dX12_part_115 : decode cX12_part 115 = .ok (.goto 21, 3) := by decide +kernel
theorem dX12_part_118 : decode cX12_part 118 = .ok (.aload_n 0, 1) := by decide +kernel
theorem dX12_part_119 : decode cX12_part 119 = .ok (.getfield 66, 3) := by decide +kernel
theorem dX12_part_122 : decode cX12_part 122 = .ok (.bipush 14, 2) := by decide +kernel
theorem dX12_part_124 : decode cX12_part 124 = .ok (.aload_n 0, 1) := by decide +kernel
theorem dX12_part_125 : decode cX12_part 125 = .ok (.getfield 51, 3) := by decide +kernel
theorem dX12_part_128 : decode cX12_part 128 = .ok (.imul, 1) := by decide +kernel
theorem dX12_part_129 : decode cX12_part 129 = .ok (.aload_n 0, 1) := by decide +kernel
theorem dX12_part_130 : decode cX12_part 130 = .ok (.getfield 228, 3) := by decide +kernel
theorem dX12_part_133 : decode cX12_part 133 = .ok (.iadd, 1) := by decide +kernel
theorem dX12_part_134 : decode cX12_part 134 = .ok (.iaload, 1) := by decide +kernel
theorem dX12_part_135 : decode cX12_part 135 = .ok (.i2l, 1) := by decide +kernel
theorem dX12_part_136 : decode cX12_part 136 = .ok (.lreturn, 1) := by decide +kernel
theorem dX12_part_137 : decode cX12_part 137 = .ok (.aload_n 0, 1) := by decide +kernel
theorem dX12_part_138 : decode cX12_part 138 = .ok (.getfield 78, 3) := by decide +kernel
theorem dX12_part_141 : decode cX12_part 141 = .ok (.bipush 6, 2) := by decide +kernel
theorem dX12_part_143 : decode cX12_part 143 = .ok (.aload_n 0, 1) := by decide +kernel
theorem dX12_part_144 : decode cX12_part 144 = .ok (.getfield 51, 3) := by decide +kernel
theorem dX12_part_147 : decode cX12_part 147 = .ok (.imul, 1) := by decide +kernel
theorem dX12_part_148 : decode cX12_part 148 = .ok (.aload_n 0, 1) := by decide +kernel
theorem dX12_part_149 : decode cX12_part 149 = .ok (.getfield 225, 3) := by decide +kernel
theorem dX12_part_152 : decode cX12_part 152 = .ok (.iadd, 1) := by decide +kernel
theorem dX12_part_153 : decode cX12_part 153 = .ok (.iaload, 1) := by decide +kernel
theorem dX12_part_154 : decode cX12_part 154 = .ok (.i2l, 1) := by decide +kernel
theorem dX12_part_155 : decode cX12_part 155 = .ok (.lreturn, 1) := by decide +kernel
theorem dX12_part_156 : decode cX12_part 156 = .ok (.aload_n 0, 1) := by decide +kernel
theorem dX12_part_157 : decode cX12_part 157 = .ok (.getfield 81, 3) := by decide +kernel
theorem dX12_part_160 : decode cX12_part 160 = .ok (.bipush 6, 2) := by decide +kernel
theorem dX12_part_162 : decode cX12_part 162 = .ok (.aload_n 0, 1) := by decide +kernel
theorem dX12_part_163 : decode cX12_part 163 = .ok (.getfield 51, 3) := by decide +kernel
theorem dX12_part_166 : decode cX12_part 166 = .ok (.imul, 1) := by decide +kernel
theorem dX12_part_167 : decode cX12_part 167 = .ok (.aload_n 0, 1) := by decide +kernel
theorem dX12_part_168 : decode cX12_part 168 = .ok (.getfield 225, 3) := by decide +kernel
theorem dX12_part_171 : decode cX12_part 171 = .ok (.iadd, 1) := by decide +kernel
theorem dX12_part_172 : decode cX12_part 172 = .ok (.iaload, 1) := by decide +kernel
theorem dX12_part_173 : decode cX12_part 173 = .ok (.i2l, 1) := by decide +kernel
theorem dX12_part_174 : decode cX12_part 174 = .ok (.lreturn, 1) := by decide +kernel
theorem dX12_part_175 : decode cX12_part 175 = .ok (.aload_n 0, 1) := by decide +kernel
theorem dX12_part_176 : decode cX12_part 176 = .ok (.getfield 231, 3) := by decide +kernel
theorem dX12_part_179 : decode cX12_part 179 = .ok (.iconst (-1), 1) := by decide +kernel
theorem dX12_part_180 : decode cX12_part 180 = .ok (.if_icmp .eq 11, 3) := by decide +kernel
theorem dX12_part_183 : decode cX12_part 183 = .ok (.aload_n 0, 1) := by decide +kernel
theorem dX12_part_184 : decode cX12_part 184 = .ok (.getfield 231, 3) := by decide +kernel
theorem dX12_part_187 : decode cX12_part 187 = .ok (.i2l, 1) := by decide +kernel
theorem dX12_part_188 : decode cX12_part 188 = .ok (.goto 19, 3) := by decide +kernel
theorem dX12_part_191 : decode cX12_part 191 = .ok (.aload_n 0, 1) := by decide +kernel
theorem dX12_part_192 : decode cX12_part 192 = .ok (.aload_n 0, 1) := by decide +kernel
theorem dX12_part_193 : decode cX12_part 193 = .ok (.getfield 222, 3) := by decide +kernel
theorem dX12_part_196 : decode cX12_part 196 = .ok (.aload_n 0, 1) := by decide +kernel
theorem dX12_part_197 : decode cX12_part 197 = .ok (.getfield 225, 3) := by decide +kernel
theorem dX12_part_200 : decode cX12_part 200 = .ok (.invokevirtual 473, 3) := by decide +kernel
theorem dX12_part_203 : decode cX12_part 203 = .ok (.invokestatic 482, 3) := by decide +kernel
theorem dX12_part_206 : decode cX12_part 206 = .ok (.i2l, 1) := by decide +kernel
theorem dX12_part_207 : decode cX12_part 207 = .ok (.lreturn, 1) := by decide +kernel
theorem dX12_part_208 : decode cX12_part 208 = .ok (.aload_n 0, 1) := by decide +kernel
theorem dX12_part_209 : decode cX12_part 209 = .ok (.iload_n 3, 1) := by decide +kernel
theorem dX12_part_210 : decode cX12_part 210 = .ok (.invokevirtual 485, 3) := by decide +kernel
theorem dX12_part_213 : decode cX12_part 213 = .ok (.i2l, 1) := by decide +kernel
theorem dX12_part_214 : decode cX12_part 214 = .ok (.lreturn, 1) := by decide +kernel
theorem dX12_part_215 : decode cX12_part 215 = .ok (.aload_n 0, 1) := by decide +kernel
theorem dX12_part_216 : decode cX12_part 216 = .ok (.aload_n 0, 1) := by decide +kernel
theorem dX12_part_217 : decode cX12_part 217 = .ok (.getfield 222, 3) := by decide +kernel
theorem dX12_part_220 : decode cX12_part 220 = .ok (.iload_n 3, 1) := by decide +kernel
theorem dX12_part_221 : decode cX12_part 221 = .ok (.invokevirtual 488, 3) := by decide +kernel
theorem dX12_part_224 : decode cX12_part 224 = .ok (.i2l, 1) := by decide +kernel
theorem dX12_part_225 : decode cX12_part 225 = .ok (.lreturn, 1) := by decide +kernel
theorem dX12_part_226 : decode cX12_part 226 = .ok (.aload_n 0, 1) := by decide +kernel
theorem dX12_part_227 : decode cX12_part 227 = .ok (.getfield 90, 3) := by decide +kernel
theorem dX12_part_230 : decode cX12_part 230 = .ok (.aload_n 0, 1) := by decide +kernel
theorem dX12_part_231 : decode cX12_part 231 = .ok (.getfield 51, 3) := by decide +kernel
theorem dX12_part_234 : decode cX12_part 234 = .ok (.iaload, 1) := by decide +kernel
theorem dX12_part_235 : decode cX12_part 235 = .ok (.i2l, 1) := by decide +kernel
theorem dX12_part_236 : decode cX12_part 236 = .ok (.lreturn, 1) := by decide +kernel
theorem dX12_part_237 : decode cX12_part 237 = .ok (.aload_n 0, 1) := by decide +kernel
theorem dX12_part_238 : decode cX12_part 238 = .ok (.getfield 171, 3) := by decide +kernel
theorem dX12_part_241 : decode cX12_part 241 = .ok (.aload_n 0, 1) := by decide +kernel
theorem dX12_part_242 : decode cX12_part 242 = .ok (.getfield 222, 3) := by decide +kernel
theorem dX12_part_245 : decode cX12_part 245 = .ok (.iaload, 1) := by decide +kernel
theorem dX12_part_246 : decode cX12_part 246 = .ok (.i2l, 1) := by decide +kernel
theorem dX12_part_247 : decode cX12_part 247 = .ok (.lreturn, 1) := by decide +kernel
theorem dX12_part_248 : decode cX12_part 248 = .ok (.lconst 1, 1) := by decide +kernel
theorem dX12_part_249 : decode cX12_part 249 = .ok (.lreturn, 1) := by decide +kernel
theorem dX12_held_0 : decode cX12_held 0 = .ok (.lload_n 0, 1) := by decide +kernel
theorem dX12_held_1 : decode cX12_held 1 = .ok (.ldc2_w 491, 3) := by decide +kernel
theorem dX12_held_4 : decode cX12_held 4 = .ok (.lcmp, 1) := by decide +kernel
theorem dX12_held_5 : decode cX12_held 5 = .ok (.ifCond .le 9, 3) := by decide +kernel
theorem dX12_held_8 : decode cX12_held 8 = .ok (.ldc2_w 491, 3) := by decide +kernel
theorem dX12_held_11 : decode cX12_held 11 = .ok (.goto 18, 3) := by decide +kernel
theorem dX12_held_14 : decode cX12_held 14 = .ok (.lload_n 0, 1) := by decide +kernel
theorem dX12_held_15 : decode cX12_held 15 = .ok (.ldc2_w 493, 3) := by decide +kernel
theorem dX12_held_18 : decode cX12_held 18 = .ok (.lcmp, 1) := by decide +kernel
theorem dX12_held_19 : decode cX12_held 19 = .ok (.ifCond .ge 9, 3) := by decide +kernel
theorem dX12_held_22 : decode cX12_held 22 = .ok (.ldc2_w 493, 3) := by decide +kernel
theorem dX12_held_25 : decode cX12_held 25 = .ok (.goto 4, 3) := by decide +kernel
theorem dX12_held_28 : decode cX12_held 28 = .ok (.lload_n 0, 1) := by decide +kernel
theorem dX12_held_29 : decode cX12_held 29 = .ok (.lreturn, 1) := by decide +kernel
theorem dX12_floor_0 : decode cX12_floor 0 = .ok (.lload_n 2, 1) := by decide +kernel
theorem dX12_floor_1 : decode cX12_floor 1 = .ok (.lconst 0, 1) := by decide +kernel
theorem dX12_floor_2 : decode cX12_floor 2 = .ok (.lcmp, 1) := by decide +kernel
theorem dX12_floor_3 : decode cX12_floor 3 = .ok (.ifCond .ne 5, 3) := by decide +kernel
theorem dX12_floor_6 : decode cX12_floor 6 = .ok (.lconst 0, 1) := by decide +kernel
theorem dX12_floor_7 : decode cX12_floor 7 = .ok (.lreturn, 1) := by decide +kernel
theorem dX12_floor_8 : decode cX12_floor 8 = .ok (.lload_n 0, 1) := by decide +kernel
theorem dX12_floor_9 : decode cX12_floor 9 = .ok (.lload_n 2, 1) := by decide +kernel
theorem dX12_floor_10 : decode cX12_floor 10 = .ok (.ldiv, 1) := by decide +kernel
theorem dX12_floor_11 : decode cX12_floor 11 = .ok (.lstore 4, 2) := by decide +kernel
theorem dX12_floor_13 : decode cX12_floor 13 = .ok (.lload_n 0, 1) := by decide +kernel
theorem dX12_floor_14 : decode cX12_floor 14 = .ok (.lload_n 2, 1) := by decide +kernel
theorem dX12_floor_15 : decode cX12_floor 15 = .ok (.lrem, 1) := by decide +kernel
theorem dX12_floor_16 : decode cX12_floor 16 = .ok (.lconst 0, 1) := by decide +kernel
theorem dX12_floor_17 : decode cX12_floor 17 = .ok (.lcmp, 1) := by decide +kernel
theorem dX12_floor_18 : decode cX12_floor 18 = .ok (.ifCond .eq 35, 3) := by decide +kernel
theorem dX12_floor_21 : decode cX12_floor 21 = .ok (.lload_n 0, 1) := by decide +kernel
theorem dX12_floor_22 : decode cX12_floor 22 = .ok (.lconst 0, 1) := by decide +kernel
theorem dX12_floor_23 : decode cX12_floor 23 = .ok (.lcmp, 1) := by decide +kernel
theorem dX12_floor_24 : decode cX12_floor 24 = .ok (.ifCond .ge 7, 3) := by decide +kernel
theorem dX12_floor_27 : decode cX12_floor 27 = .ok (.iconst 1, 1) := by decide +kernel
theorem dX12_floor_28 : decode cX12_floor 28 = .ok (.goto 4, 3) := by decide +kernel
theorem dX12_floor_31 : decode cX12_floor 31 = .ok (.iconst 0, 1) := by decide +kernel
theorem dX12_floor_32 : decode cX12_floor 32 = .ok (.lload_n 2, 1) := by decide +kernel
theorem dX12_floor_33 : decode cX12_floor 33 = .ok (.lconst 0, 1) := by decide +kernel
theorem dX12_floor_34 : decode cX12_floor 34 = .ok (.lcmp, 1) := by decide +kernel
theorem dX12_floor_35 : decode cX12_floor 35 = .ok (.ifCond .ge 7, 3) := by decide +kernel
theorem dX12_floor_38 : decode cX12_floor 38 = .ok (.iconst 1, 1) := by decide +kernel
theorem dX12_floor_39 : decode cX12_floor 39 = .ok (.goto 4, 3) := by decide +kernel
theorem dX12_floor_42 : decode cX12_floor 42 = .ok (.iconst 0, 1) := by decide +kernel
theorem dX12_floor_43 : decode cX12_floor 43 = .ok (.if_icmp .eq 10, 3) := by decide +kernel
theorem dX12_floor_46 : decode cX12_floor 46 = .ok (.lload 4, 2) := by decide +kernel
theorem dX12_floor_48 : decode cX12_floor 48 = .ok (.lconst 1, 1) := by decide +kernel
theorem dX12_floor_49 : decode cX12_floor 49 = .ok (.lsub, 1) := by decide +kernel
theorem dX12_floor_50 : decode cX12_floor 50 = .ok (.goto 5, 3) := by decide +kernel
theorem dX12_floor_53 : decode cX12_floor 53 = .ok (.lload 4, 2) := by decide +kernel
theorem dX12_floor_55 : decode cX12_floor 55 = .ok (.lreturn, 1) := by decide +kernel
theorem dX12_two_0 : decode cX12_two 0 = .ok (.iload_n 0, 1) := by decide +kernel
theorem dX12_two_1 : decode cX12_two 1 = .ok (.tableswitch 176 10 20 #[59, 66, 73, 80, 89, 112, 124, 136, 148, 160, 172], 59) := by decide +kernel
theorem dX12_two_60 : decode cX12_two 60 = .ok (.lload_n 1, 1) := by decide +kernel
theorem dX12_two_61 : decode cX12_two 61 = .ok (.lload_n 3, 1) := by decide +kernel
theorem dX12_two_62 : decode cX12_two 62 = .ok (.ladd, 1) := by decide +kernel
theorem dX12_two_63 : decode cX12_two 63 = .ok (.invokestatic 495, 3) := by decide +kernel
theorem dX12_two_66 : decode cX12_two 66 = .ok (.lreturn, 1) := by decide +kernel
theorem dX12_two_67 : decode cX12_two 67 = .ok (.lload_n 1, 1) := by decide +kernel
theorem dX12_two_68 : decode cX12_two 68 = .ok (.lload_n 3, 1) := by decide +kernel
theorem dX12_two_69 : decode cX12_two 69 = .ok (.lsub, 1) := by decide +kernel
theorem dX12_two_70 : decode cX12_two 70 = .ok (.invokestatic 495, 3) := by decide +kernel
theorem dX12_two_73 : decode cX12_two 73 = .ok (.lreturn, 1) := by decide +kernel
theorem dX12_two_74 : decode cX12_two 74 = .ok (.lload_n 1, 1) := by decide +kernel
theorem dX12_two_75 : decode cX12_two 75 = .ok (.lload_n 3, 1) := by decide +kernel
theorem dX12_two_76 : decode cX12_two 76 = .ok (.lmul, 1) := by decide +kernel
theorem dX12_two_77 : decode cX12_two 77 = .ok (.invokestatic 495, 3) := by decide +kernel
theorem dX12_two_80 : decode cX12_two 80 = .ok (.lreturn, 1) := by decide +kernel
theorem dX12_two_81 : decode cX12_two 81 = .ok (.lload_n 1, 1) := by decide +kernel
theorem dX12_two_82 : decode cX12_two 82 = .ok (.lload_n 3, 1) := by decide +kernel
theorem dX12_two_83 : decode cX12_two 83 = .ok (.invokestatic 499, 3) := by decide +kernel
theorem dX12_two_86 : decode cX12_two 86 = .ok (.invokestatic 495, 3) := by decide +kernel
theorem dX12_two_89 : decode cX12_two 89 = .ok (.lreturn, 1) := by decide +kernel
theorem dX12_two_90 : decode cX12_two 90 = .ok (.lload_n 3, 1) := by decide +kernel
theorem dX12_two_91 : decode cX12_two 91 = .ok (.lconst 0, 1) := by decide +kernel
theorem dX12_two_92 : decode cX12_two 92 = .ok (.lcmp, 1) := by decide +kernel
theorem dX12_two_93 : decode cX12_two 93 = .ok (.ifCond .ne 7, 3) := by decide +kernel
theorem dX12_two_96 : decode cX12_two 96 = .ok (.lconst 0, 1) := by decide +kernel
theorem dX12_two_97 : decode cX12_two 97 = .ok (.goto 15, 3) := by decide +kernel
theorem dX12_two_100 : decode cX12_two 100 = .ok (.lload_n 1, 1) := by decide +kernel
theorem dX12_two_101 : decode cX12_two 101 = .ok (.lload_n 3, 1) := by decide +kernel
theorem dX12_two_102 : decode cX12_two 102 = .ok (.lload_n 1, 1) := by decide +kernel
theorem dX12_two_103 : decode cX12_two 103 = .ok (.lload_n 3, 1) := by decide +kernel
theorem dX12_two_104 : decode cX12_two 104 = .ok (.invokestatic 499, 3) := by decide +kernel
