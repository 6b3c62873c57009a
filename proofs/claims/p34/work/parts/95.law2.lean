theorem dL_refuses_0 : decode cL_refuses 0 = .ok (.aload_n 0, 1) := by decide +kernel
theorem dL_refuses_1 : decode cL_refuses 1 = .ok (.invokevirtual 157, 3) := by decide +kernel
theorem dL_refuses_4 : decode cL_refuses 4 = .ok (.lstore_n 1, 1) := by decide +kernel
theorem dL_refuses_5 : decode cL_refuses 5 = .ok (.aload_n 0, 1) := by decide +kernel
theorem dL_refuses_6 : decode cL_refuses 6 = .ok (.iconst 1, 1) := by decide +kernel
theorem dL_refuses_7 : decode cL_refuses 7 = .ok (.invokestatic 110, 3) := by decide +kernel
theorem dL_refuses_10 : decode cL_refuses 10 = .ok (.istore_n 3, 1) := by decide +kernel
theorem dL_refuses_11 : decode cL_refuses 11 = .ok (.aload_n 0, 1) := by decide +kernel
theorem dL_refuses_12 : decode cL_refuses 12 = .ok (.iconst 2, 1) := by decide +kernel
theorem dL_refuses_13 : decode cL_refuses 13 = .ok (.invokestatic 110, 3) := by decide +kernel
theorem dL_refuses_16 : decode cL_refuses 16 = .ok (.istore 4, 2) := by decide +kernel
theorem dL_refuses_18 : decode cL_refuses 18 = .ok (.aload_n 0, 1) := by decide +kernel
theorem dL_refuses_19 : decode cL_refuses 19 = .ok (.iconst 3, 1) := by decide +kernel
theorem dL_refuses_20 : decode cL_refuses 20 = .ok (.invokestatic 110, 3) := by decide +kernel
theorem dL_refuses_23 : decode cL_refuses 23 = .ok (.istore 5, 2) := by decide +kernel
theorem dL_refuses_25 : decode cL_refuses 25 = .ok (.aload_n 0, 1) := by decide +kernel
theorem dL_refuses_26 : decode cL_refuses 26 = .ok (.iconst 4, 1) := by decide +kernel
theorem dL_refuses_27 : decode cL_refuses 27 = .ok (.invokestatic 110, 3) := by decide +kernel
theorem dL_refuses_30 : decode cL_refuses 30 = .ok (.istore 6, 2) := by decide +kernel
theorem dL_refuses_32 : decode cL_refuses 32 = .ok (.aload_n 0, 1) := by decide +kernel
theorem dL_refuses_33 : decode cL_refuses 33 = .ok (.bipush (-11), 2) := by decide +kernel
theorem dL_refuses_35 : decode cL_refuses 35 = .ok (.bipush 20, 2) := by decide +kernel
theorem dL_refuses_37 : decode cL_refuses 37 = .ok (.iconst 0, 1) := by decide +kernel
theorem dL_refuses_38 : decode cL_refuses 38 = .ok (.iconst 0, 1) := by decide +kernel
theorem dL_refuses_39 : decode cL_refuses 39 = .ok (.invokestatic 161, 3) := by decide +kernel
theorem dL_refuses_42 : decode cL_refuses 42 = .ok (.ldc 17, 2) := by decide +kernel
theorem dL_refuses_44 : decode cL_refuses 44 = .ok (.if_icmp .ne 212, 3) := by decide +kernel
theorem dL_refuses_47 : decode cL_refuses 47 = .ok (.aload_n 0, 1) := by decide +kernel
theorem dL_refuses_48 : decode cL_refuses 48 = .ok (.iconst 0, 1) := by decide +kernel
theorem dL_refuses_49 : decode cL_refuses 49 = .ok (.bipush 20, 2) := by decide +kernel
theorem dL_refuses_51 : decode cL_refuses 51 = .ok (.iconst 0, 1) := by decide +kernel
theorem dL_refuses_52 : decode cL_refuses 52 = .ok (.iconst (-1), 1) := by decide +kernel
theorem dL_refuses_53 : decode cL_refuses 53 = .ok (.invokestatic 161, 3) := by decide +kernel
theorem dL_refuses_56 : decode cL_refuses 56 = .ok (.ldc 17, 2) := by decide +kernel
theorem dL_refuses_58 : decode cL_refuses 58 = .ok (.if_icmp .ne 198, 3) := by decide +kernel
theorem dL_refuses_61 : decode cL_refuses 61 = .ok (.aload_n 0, 1) := by decide +kernel
theorem dL_refuses_62 : decode cL_refuses 62 = .ok (.iload_n 3, 1) := by decide +kernel
theorem dL_refuses_63 : decode cL_refuses 63 = .ok (.bipush 99, 2) := by decide +kernel
theorem dL_refuses_65 : decode cL_refuses 65 = .ok (.bipush 99, 2) := by decide +kernel
theorem dL_refuses_67 : decode cL_refuses 67 = .ok (.invokestatic 164, 3) := by decide +kernel
theorem dL_refuses_70 : decode cL_refuses 70 = .ok (.ldc 27, 2) := by decide +kernel
theorem dL_refuses_72 : decode cL_refuses 72 = .ok (.if_icmp .ne 184, 3) := by decide +kernel
theorem dL_refuses_75 : decode cL_refuses 75 = .ok (.aload_n 0, 1) := by decide +kernel
theorem dL_refuses_76 : decode cL_refuses 76 = .ok (.iload_n 3, 1) := by decide +kernel
theorem dL_refuses_77 : decode cL_refuses 77 = .ok (.iload_n 3, 1) := by decide +kernel
theorem dL_refuses_78 : decode cL_refuses 78 = .ok (.sipush 999, 3) := by decide +kernel
theorem dL_refuses_81 : decode cL_refuses 81 = .ok (.invokestatic 166, 3) := by decide +kernel
theorem dL_refuses_84 : decode cL_refuses 84 = .ok (.ldc 27, 2) := by decide +kernel
theorem dL_refuses_86 : decode cL_refuses 86 = .ok (.if_icmp .ne 170, 3) := by decide +kernel
theorem dL_refuses_89 : decode cL_refuses 89 = .ok (.aload_n 0, 1) := by decide +kernel
theorem dL_refuses_90 : decode cL_refuses 90 = .ok (.iconst (-1), 1) := by decide +kernel
theorem dL_refuses_91 : decode cL_refuses 91 = .ok (.iconst 0, 1) := by decide +kernel
theorem dL_refuses_92 : decode cL_refuses 92 = .ok (.iconst 0, 1) := by decide +kernel
theorem dL_refuses_93 : decode cL_refuses 93 = .ok (.invokestatic 168, 3) := by decide +kernel
theorem dL_refuses_96 : decode cL_refuses 96 = .ok (.ldc 17, 2) := by decide +kernel
theorem dL_refuses_98 : decode cL_refuses 98 = .ok (.if_icmp .ne 158, 3) := by decide +kernel
theorem dL_refuses_101 : decode cL_refuses 101 = .ok (.aload_n 0, 1) := by decide +kernel
theorem dL_refuses_102 : decode cL_refuses 102 = .ok (.iconst (-1), 1) := by decide +kernel
theorem dL_refuses_103 : decode cL_refuses 103 = .ok (.invokestatic 170, 3) := by decide +kernel
theorem dL_refuses_106 : decode cL_refuses 106 = .ok (.ldc 17, 2) := by decide +kernel
theorem dL_refuses_108 : decode cL_refuses 108 = .ok (.if_icmp .ne 148, 3) := by decide +kernel
theorem dL_refuses_111 : decode cL_refuses 111 = .ok (.aload_n 0, 1) := by decide +kernel
theorem dL_refuses_112 : decode cL_refuses 112 = .ok (.iload_n 3, 1) := by decide +kernel
theorem dL_refuses_113 : decode cL_refuses 113 = .ok (.invokestatic 172, 3) := by decide +kernel
theorem dL_refuses_116 : decode cL_refuses 116 = .ok (.ldc 27, 2) := by decide +kernel
theorem dL_refuses_118 : decode cL_refuses 118 = .ok (.if_icmp .ne 138, 3) := by decide +kernel
theorem dL_refuses_121 : decode cL_refuses 121 = .ok (.aload_n 0, 1) := by decide +kernel
theorem dL_refuses_122 : decode cL_refuses 122 = .ok (.iload_n 3, 1) := by decide +kernel
theorem dL_refuses_123 : decode cL_refuses 123 = .ok (.bipush 9, 2) := by decide +kernel
theorem dL_refuses_125 : decode cL_refuses 125 = .ok (.invokestatic 174, 3) := by decide +kernel
theorem dL_refuses_128 : decode cL_refuses 128 = .ok (.ldc 27, 2) := by decide +kernel
theorem dL_refuses_130 : decode cL_refuses 130 = .ok (.if_icmp .ne 126, 3) := by decide +kernel
theorem dL_refuses_133 : decode cL_refuses 133 = .ok (.aload_n 0, 1) := by decide +kernel
theorem dL_refuses_134 : decode cL_refuses 134 = .ok (.iconst (-1), 1) := by decide +kernel
theorem dL_refuses_135 : decode cL_refuses 135 = .ok (.bipush 9, 2) := by decide +kernel
theorem dL_refuses_137 : decode cL_refuses 137 = .ok (.iconst 0, 1) := by decide +kernel
theorem dL_refuses_138 : decode cL_refuses 138 = .ok (.bipush 99, 2) := by decide +kernel
theorem dL_refuses_140 : decode cL_refuses 140 = .ok (.iconst 1, 1) := by decide +kernel
theorem dL_refuses_141 : decode cL_refuses 141 = .ok (.invokestatic 176, 3) := by decide +kernel
theorem dL_refuses_144 : decode cL_refuses 144 = .ok (.ldc 27, 2) := by decide +kernel
theorem dL_refuses_146 : decode cL_refuses 146 = .ok (.if_icmp .ne 110, 3) := by decide +kernel
theorem dL_refuses_149 : decode cL_refuses 149 = .ok (.aload_n 0, 1) := by decide +kernel
theorem dL_refuses_150 : decode cL_refuses 150 = .ok (.iload 4, 2) := by decide +kernel
theorem dL_refuses_152 : decode cL_refuses 152 = .ok (.invokestatic 131, 3) := by decide +kernel
theorem dL_refuses_155 : decode cL_refuses 155 = .ok (.ldc 27, 2) := by decide +kernel
theorem dL_refuses_157 : decode cL_refuses 157 = .ok (.if_icmp .ne 99, 3) := by decide +kernel
theorem dL_refuses_160 : decode cL_refuses 160 = .ok (.aload_n 0, 1) := by decide +kernel
theorem dL_refuses_161 : decode cL_refuses 161 = .ok (.iconst (-1), 1) := by decide +kernel
theorem dL_refuses_162 : decode cL_refuses 162 = .ok (.invokestatic 136, 3) := by decide +kernel
theorem dL_refuses_165 : decode cL_refuses 165 = .ok (.ldc 27, 2) := by decide +kernel
theorem dL_refuses_167 : decode cL_refuses 167 = .ok (.if_icmp .ne 89, 3) := by decide +kernel
theorem dL_refuses_170 : decode cL_refuses 170 = .ok (.aload_n 0, 1) := by decide +kernel
theorem dL_refuses_171 : decode cL_refuses 171 = .ok (.iload 4, 2) := by decide +kernel
theorem dL_refuses_173 : decode cL_refuses 173 = .ok (.iload 4, 2) := by decide +kernel
theorem dL_refuses_175 : decode cL_refuses 175 = .ok (.invokestatic 138, 3) := by decide +kernel
theorem dL_refuses_178 : decode cL_refuses 178 = .ok (.ldc 27, 2) := by decide +kernel
theorem dL_refuses_180 : decode cL_refuses 180 = .ok (.if_icmp .ne 76, 3) := by decide +kernel
theorem dL_refuses_183 : decode cL_refuses 183 = .ok (.aload_n 0, 1) := by decide +kernel
theorem dL_refuses_184 : decode cL_refuses 184 = .ok (.iload 4, 2) := by decide +kernel
theorem dL_refuses_186 : decode cL_refuses 186 = .ok (.invokestatic 140, 3) := by decide +kernel
theorem dL_refuses_189 : decode cL_refuses 189 = .ok (.ldc 27, 2) := by decide +kernel
theorem dL_refuses_191 : decode cL_refuses 191 = .ok (.if_icmp .ne 65, 3) := by decide +kernel
theorem dL_refuses_194 : decode cL_refuses 194 = .ok (.aload_n 0, 1) := by decide +kernel
theorem dL_refuses_195 : decode cL_refuses 195 = .ok (.iload 5, 2) := by decide +kernel
theorem dL_refuses_197 : decode cL_refuses 197 = .ok (.iconst 0, 1) := by decide +kernel
theorem dL_refuses_198 : decode cL_refuses 198 = .ok (.invokestatic 144, 3) := by decide +kernel
theorem dL_refuses_201 : decode cL_refuses 201 = .ok (.ldc 27, 2) := by decide +kernel
theorem dL_refuses_203 : decode cL_refuses 203 = .ok (.if_icmp .ne 53, 3) := by decide +kernel
theorem dL_refuses_206 : decode cL_refuses 206 = .ok (.aload_n 0, 1) := by decide +kernel
theorem dL_refuses_207 : decode cL_refuses 207 = .ok (.iload 5, 2) := by decide +kernel
theorem dL_refuses_209 : decode cL_refuses 209 = .ok (.invokestatic 142, 3) := by decide +kernel
theorem dL_refuses_212 : decode cL_refuses 212 = .ok (.ldc 27, 2) := by decide +kernel
theorem dL_refuses_214 : decode cL_refuses 214 = .ok (.if_icmp .ne 42, 3) := by decide +kernel
theorem dL_refuses_217 : decode cL_refuses 217 = .ok (.aload_n 0, 1) := by decide +kernel
theorem dL_refuses_218 : decode cL_refuses 218 = .ok (.iload 4, 2) := by decide +kernel
theorem dL_refuses_220 : decode cL_refuses 220 = .ok (.iconst 0, 1) := by decide +kernel
theorem dL_refuses_221 : decode cL_refuses 221 = .ok (.iconst (-1), 1) := by decide +kernel
theorem dL_refuses_222 : decode cL_refuses 222 = .ok (.invokestatic 151, 3) := by decide +kernel
theorem dL_refuses_225 : decode cL_refuses 225 = .ok (.ldc 27, 2) := by decide +kernel
theorem dL_refuses_227 : decode cL_refuses 227 = .ok (.if_icmp .ne 29, 3) := by decide +kernel
theorem dL_refuses_230 : decode cL_refuses 230 = .ok (.aload_n 0, 1) := by decide +kernel
theorem dL_refuses_231 : decode cL_refuses 231 = .ok (.iconst 0, 1) := by decide +kernel
theorem dL_refuses_232 : decode cL_refuses 232 = .ok (.invokestatic 153, 3) := by decide +kernel
theorem dL_refuses_235 : decode cL_refuses 235 = .ok (.ldc 17, 2) := by decide +kernel
theorem dL_refuses_237 : decode cL_refuses 237 = .ok (.if_icmp .ne 19, 3) := by decide +kernel
theorem dL_refuses_240 : decode cL_refuses 240 = .ok (.aload_n 0, 1) := by decide +kernel
theorem dL_refuses_241 : decode cL_refuses 241 = .ok (.sipush 241, 3) := by decide +kernel
theorem dL_refuses_244 : decode cL_refuses 244 = .ok (.invokestatic 153, 3) := by decide +kernel
theorem dL_refuses_247 : decode cL_refuses 247 = .ok (.ldc 17, 2) := by decide +kernel
theorem dL_refuses_249 : decode cL_refuses 249 = .ok (.if_icmp .ne 7, 3) := by decide +kernel
theorem dL_refuses_252 : decode cL_refuses 252 = .ok (.iconst 1, 1) := by decide +kernel
theorem dL_refuses_253 : decode cL_refuses 253 = .ok (.goto 4, 3) := by decide +kernel
theorem dL_refuses_256 : decode cL_refuses 256 = .ok (.iconst 0, 1) := by decide +kernel
theorem dL_refuses_257 : decode cL_refuses 257 = .ok (.istore 7, 2) := by decide +kernel
theorem dL_refuses_259 : decode cL_refuses 259 = .ok (.iload 7, 2) := by decide +kernel
theorem dL_refuses_261 : decode cL_refuses 261 = .ok (.ifCond .eq 163, 3) := by decide +kernel
theorem dL_refuses_264 : decode cL_refuses 264 = .ok (.aload_n 0, 1) := by decide +kernel
theorem dL_refuses_265 : decode cL_refuses 265 = .ok (.iload 4, 2) := by decide +kernel
theorem dL_refuses_267 : decode cL_refuses 267 = .ok (.iconst 0, 1) := by decide +kernel
theorem dL_refuses_268 : decode cL_refuses 268 = .ok (.iconst (-1), 1) := by decide +kernel
theorem dL_refuses_269 : decode cL_refuses 269 = .ok (.invokestatic 146, 3) := by decide +kernel
theorem dL_refuses_272 : decode cL_refuses 272 = .ok (.ldc 27, 2) := by decide +kernel
theorem dL_refuses_274 : decode cL_refuses 274 = .ok (.if_icmp .ne 150, 3) := by decide +kernel
theorem dL_refuses_277 : decode cL_refuses 277 = .ok (.aload_n 0, 1) := by decide +kernel
theorem dL_refuses_278 : decode cL_refuses 278 = .ok (.iconst 0, 1) := by decide +kernel
theorem dL_refuses_279 : decode cL_refuses 279 = .ok (.iload_n 3, 1) := by decide +kernel
theorem dL_refuses_280 : decode cL_refuses 280 = .ok (.iconst (-1), 1) := by decide +kernel
theorem dL_refuses_281 : decode cL_refuses 281 = .ok (.invokestatic 146, 3) := by decide +kernel
theorem dL_refuses_284 : decode cL_refuses 284 = .ok (.ldc 27, 2) := by decide +kernel
theorem dL_refuses_286 : decode cL_refuses 286 = .ok (.if_icmp .ne 138, 3) := by decide +kernel
theorem dL_refuses_289 : decode cL_refuses 289 = .ok (.aload_n 0, 1) := by decide +kernel
theorem dL_refuses_290 : decode cL_refuses 290 = .ok (.iconst 0, 1) := by decide +kernel
theorem dL_refuses_291 : decode cL_refuses 291 = .ok (.iconst 0, 1) := by decide +kernel
theorem dL_refuses_292 : decode cL_refuses 292 = .ok (.iload 6, 2) := by decide +kernel
theorem dL_refuses_294 : decode cL_refuses 294 = .ok (.invokestatic 146, 3) := by decide +kernel
theorem dL_refuses_297 : decode cL_refuses 297 = .ok (.ldc 27, 2) := by decide +kernel
theorem dL_refuses_299 : decode cL_refuses 299 = .ok (.if_icmp .ne 125, 3) := by decide +kernel
theorem dL_refuses_302 : decode cL_refuses 302 = .ok (.aload_n 0, 1) := by decide +kernel
theorem dL_refuses_303 : decode cL_refuses 303 = .ok (.iload 4, 2) := by decide +kernel
theorem dL_refuses_305 : decode cL_refuses 305 = .ok (.bipush 99, 2) := by decide +kernel
theorem dL_refuses_307 : decode cL_refuses 307 = .ok (.invokestatic 118, 3) := by decide +kernel
theorem dL_refuses_310 : decode cL_refuses 310 = .ok (.ldc 27, 2) := by decide +kernel
theorem dL_refuses_312 : decode cL_refuses 312 = .ok (.if_icmp .ne 112, 3) := by decide +kernel
theorem dL_refuses_315 : decode cL_refuses 315 = .ok (.aload_n 0, 1) := by decide +kernel
theorem dL_refuses_316 : decode cL_refuses 316 = .ok (.iload 5, 2) := by decide +kernel
theorem dL_refuses_318 : decode cL_refuses 318 = .ok (.bipush 99, 2) := by decide +kernel
theorem dL_refuses_320 : decode cL_refuses 320 = .ok (.invokestatic 115, 3) := by decide +kernel
theorem dL_refuses_323 : decode cL_refuses 323 = .ok (.ldc 27, 2) := by decide +kernel
theorem dL_refuses_325 : decode cL_refuses 325 = .ok (.if_icmp .ne 99, 3) := by decide +kernel
theorem dL_refuses_328 : decode cL_refuses 328 = .ok (.aload_n 0, 1) := by decide +kernel
theorem dL_refuses_329 : decode cL_refuses 329 = .ok (.iload 5, 2) := by decide +kernel
theorem dL_refuses_331 : decode cL_refuses 331 = .ok (.iconst (-1), 1) := by decide +kernel
theorem dL_refuses_332 : decode cL_refuses 332 = .ok (.invokestatic 155, 3) := by decide +kernel
theorem dL_refuses_335 : decode cL_refuses 335 = .ok (.ldc 27, 2) := by decide +kernel
theorem dL_refuses_337 : decode cL_refuses 337 = .ok (.if_icmp .ne 87, 3) := by decide +kernel
theorem dL_refuses_340 : decode cL_refuses 340 = .ok (.aload_n 0, 1) := by decide +kernel
theorem dL_refuses_341 : decode cL_refuses 341 = .ok (.iload_n 3, 1) := by decide +kernel
theorem dL_refuses_342 : decode cL_refuses 342 = .ok (.bipush 99, 2) := by decide +kernel
theorem dL_refuses_344 : decode cL_refuses 344 = .ok (.invokestatic 124, 3) := by decide +kernel
theorem dL_refuses_347 : decode cL_refuses 347 = .ok (.ldc 27, 2) := by decide +kernel
theorem dL_refuses_349 : decode cL_refuses 349 = .ok (.if_icmp .ne 75, 3) := by decide +kernel
theorem dL_refuses_352 : decode cL_refuses 352 = .ok (.aload_n 0, 1) := by decide +kernel
theorem dL_refuses_353 : decode cL_refuses 353 = .ok (.iload 6, 2) := by decide +kernel
theorem dL_refuses_355 : decode cL_refuses 355 = .ok (.invokestatic 126, 3) := by decide +kernel
theorem dL_refuses_358 : decode cL_refuses 358 = .ok (.ldc 27, 2) := by decide +kernel
theorem dL_refuses_360 : decode cL_refuses 360 = .ok (.if_icmp .ne 64, 3) := by decide +kernel
theorem dL_refuses_363 : decode cL_refuses 363 = .ok (.aload_n 0, 1) := by decide +kernel
theorem dL_refuses_364 : decode cL_refuses 364 = .ok (.bipush 10, 2) := by decide +kernel
theorem dL_refuses_366 : decode cL_refuses 366 = .ok (.invokestatic 110, 3) := by decide +kernel
theorem dL_refuses_369 : decode cL_refuses 369 = .ok (.ldc 17, 2) := by decide +kernel
theorem dL_refuses_371 : decode cL_refuses 371 = .ok (.if_icmp .ne 53, 3) := by decide +kernel
theorem dL_refuses_374 : decode cL_refuses 374 = .ok (.aload_n 0, 1) := by decide +kernel
theorem dL_refuses_375 : decode cL_refuses 375 = .ok (.iload 5, 2) := by decide +kernel
theorem dL_refuses_377 : decode cL_refuses 377 = .ok (.invokestatic 120, 3) := by decide +kernel
theorem dL_refuses_380 : decode cL_refuses 380 = .ok (.ldc 27, 2) := by decide +kernel
theorem dL_refuses_382 : decode cL_refuses 382 = .ok (.if_icmp .ne 42, 3) := by decide +kernel
theorem dL_refuses_385 : decode cL_refuses 385 = .ok (.aload_n 0, 1) := by decide +kernel
theorem dL_refuses_386 : decode cL_refuses 386 = .ok (.iload 4, 2) := by decide +kernel
theorem dL_refuses_388 : decode cL_refuses 388 = .ok (.invokestatic 122, 3) := by decide +kernel
theorem dL_refuses_391 : decode cL_refuses 391 = .ok (.ldc 27, 2) := by decide +kernel
theorem dL_refuses_393 : decode cL_refuses 393 = .ok (.if_icmp .ne 31, 3) := by decide +kernel
theorem dL_refuses_396 : decode cL_refuses 396 = .ok (.aload_n 0, 1) := by decide +kernel
theorem dL_refuses_397 : decode cL_refuses 397 = .ok (.iload 4, 2) := by decide +kernel
theorem dL_refuses_399 : decode cL_refuses 399 = .ok (.iconst (-1), 1) := by decide +kernel
theorem dL_refuses_400 : decode cL_refuses 400 = .ok (.invokestatic 149, 3) := by decide +kernel
theorem dL_refuses_403 : decode cL_refuses 403 = .ok (.ldc 27, 2) := by decide +kernel
theorem dL_refuses_405 : decode cL_refuses 405 = .ok (.if_icmp .ne 19, 3) := by decide +kernel
theorem dL_refuses_408 : decode cL_refuses 408 = .ok (.aload_n 0, 1) := by decide +kernel
theorem dL_refuses_409 : decode cL_refuses 409 = .ok (.sipush 128, 3) := by decide +kernel
theorem dL_refuses_412 : decode cL_refuses 412 = .ok (.invokestatic 179, 3) := by decide +kernel
theorem dL_refuses_415 : decode cL_refuses 415 = .ok (.ldc 17, 2) := by decide +kernel
theorem dL_refuses_417 : decode cL_refuses 417 = .ok (.if_icmp .ne 7, 3) := by decide +kernel
theorem dL_refuses_420 : decode cL_refuses 420 = .ok (.iconst 1, 1) := by decide +kernel
theorem dL_refuses_421 : decode cL_refuses 421 = .ok (.goto 4, 3) := by decide +kernel
theorem dL_refuses_424 : decode cL_refuses 424 = .ok (.iconst 0, 1) := by decide +kernel
theorem dL_refuses_425 : decode cL_refuses 425 = .ok (.istore 7, 2) := by decide +kernel
theorem dL_refuses_427 : decode cL_refuses 427 = .ok (.iload 7, 2) := by decide +kernel
theorem dL_refuses_429 : decode cL_refuses 429 = .ok (.ifCond .eq 16, 3) := by decide +kernel
theorem dL_refuses_432 : decode cL_refuses 432 = .ok (.aload_n 0, 1) := by decide +kernel
theorem dL_refuses_433 : decode cL_refuses 433 = .ok (.invokevirtual 157, 3) := by decide +kernel
theorem dL_refuses_436 : decode cL_refuses 436 = .ok (.lload_n 1, 1) := by decide +kernel
theorem dL_refuses_437 : decode cL_refuses 437 = .ok (.lcmp, 1) := by decide +kernel
theorem dL_refuses_438 : decode cL_refuses 438 = .ok (.ifCond .ne 7, 3) := by decide +kernel
theorem dL_refuses_441 : decode cL_refuses 441 = .ok (.iconst 1, 1) := by decide +kernel
theorem dL_refuses_442 : decode cL_refuses 442 = .ok (.goto 4, 3) := by decide +kernel
theorem dL_refuses_445 : decode cL_refuses 445 = .ok (.iconst 0, 1) := by decide +kernel
theorem dL_refuses_446 : decode cL_refuses 446 = .ok (.ireturn, 1) := by decide +kernel
def sL_refuses_425 (w : Wl) (l1 : Int64) (s0 : Int32) : Option (Bool × Wl) := (if s0 = 0 then some (false, w) else (sX12_digest w ).bind (fun r2 => (if (lg_cmp r2.1 l1) = 0 then some (true, r2.2) else some (false, r2.2))))
theorem tL_refuses_425 {X : Cx} {B : Bs} {sz : Nat} {r : (Bool × Wl)} (hx : Fx X cL_refuses 8 RL 9 31 186) (hC : GC (xΓ X) B) (htr : (xl X).stackTraces = false) (hr : Rt X (some .boolean) 31 186 (WX (xΓ X) B (some (.int (bI r.1))) r.2)) : ∀ (w : Wl) (l1 : Int64) (s0 : Int32) {G : Gf} (hW : Wd (xΓ X) B w G) (h : sL_refuses_425  w l1 s0 = some r), J X 8 G sz 31 186 425 [some (.ref (B.1 + 0)), some (.long l1), none, none, none, none, none, none] [.int s0] := by
  intro w l1 s0 G hW h
  unfold sL_refuses_425 at h
  refine J_is hx (by decide) (hc_of rfl) rfl dL_refuses_425 ?_
  refine J_il hx rfl dL_refuses_427 ?_
  refine J_if_eq hx 445 dL_refuses_429 rfl (fun h1 => ?_) (fun h1 => ?_)
  · replace h := pos h h1
    refine J_iconst hx (0 : Int32) dL_refuses_445 rfl ?_
    obtain rfl := Option.some.inj h
    exact J_zretX (b := false) hx hr hW dL_refuses_446 (by decide) (by decide)
  · replace h := neg h h1
    refine J_al4 hx rfl rfl dL_refuses_432 ?_
    obtain ⟨r2, hr3, h⟩ := bnd h
    refine J_wrV hx (kX12_digest  hW hr3) ml_L_157 lk_X12_digest (ci := 10) rfl (hW.obj (rfl : kd 0 = 1) (by decide) (by decide)) (rest := []) rfl rfl (by decide) (by decide) (Nat.le_of_ble_eq_true rfl) (by decide) (by decide) dL_refuses_433 fun G4 hW5 => ?_
    show J X 8 G4 sz 31 186 436 [some (.ref (B.1 + 0)), some (.long l1), none, none, none, none, none, some (.int s0)] [.long r2.1]
    refine J_ll4 hx rfl rfl dL_refuses_436 ?_
    refine J_lcmp hx dL_refuses_437 ?_
    refine J_if_ne hx 445 dL_refuses_438 rfl (fun h6 => ?_) (fun h6 => ?_)
    · replace h := neg h h6
      refine J_iconst hx (0 : Int32) dL_refuses_445 rfl ?_
      obtain rfl := Option.some.inj h
      exact J_zretX (b := false) hx hr hW5 dL_refuses_446 (by decide) (by decide)
    · replace h := pos h h6
      refine J_iconst hx (1 : Int32) dL_refuses_441 rfl ?_
      refine J_goto hx 446 dL_refuses_442 rfl ?_
      obtain rfl := Option.some.inj h
      exact J_zretX (b := true) hx hr hW5 dL_refuses_446 (by decide) (by decide)
def sL_refuses_257 (w : Wl) (l1 : Int64) (l3 : Int32) (l4 : Int32) (l5 : Int32) (l6 : Int32) (s0 : Int32) : Option (Bool × Wl) := (if s0 = 0 then sL_refuses_425 w l1 (0 : Int32) else (sL_refusal w l4 (0 : Int32) (-1 : Int32)).bind (fun r2 => (if r2.1 = (-90300 : Int32) then (sL_refusal r2.2 (0 : Int32) l3 (-1 : Int32)).bind (fun r8 => (if r8.1 = (-90300 : Int32) then (sL_refusal r8.2 (0 : Int32) (0 : Int32) l6).bind (fun r14 => (if r14.1 = (-90300 : Int32) then (sL_crate r14.2 l4 (99 : Int32)).bind (fun r20 => (if r20.1 = (-90300 : Int32) then (sL_work r20.2 l5 (99 : Int32)).bind (fun r26 => (if r26.1 = (-90300 : Int32) then (sL_noted r26.2 l5 (-1 : Int32)).bind (fun r32 => (if r32.1 = (-90300 : Int32) then (sL_venue r32.2 l3 (99 : Int32)).bind (fun r38 => (if r38.1 = (-90300 : Int32) then (sL_courier r38.2 l6).bind (fun r44 => (if r44.1 = (-90300 : Int32) then (sL_whole r44.2 (10 : Int32)).bind (fun r50 => (if r50.1 = (-90100 : Int32) then (sL_readyAt r50.2 l5).bind (fun r56 => (if r56.1 = (-90300 : Int32) then (sL_allReadyAt r56.2 l4).bind (fun r62 => (if r62.1 = (-90300 : Int32) then (sL_bestVenue r62.2 l4 (-1 : Int32)).bind (fun r68 => (if r68.1 = (-90300 : Int32) then (sL_type r68.2 (128 : Int32)).bind (fun r74 => (if r74.1 = (-90100 : Int32) then sL_refuses_425 r74.2 l1 (1 : Int32) else sL_refuses_425 r74.2 l1 (0 : Int32))) else sL_refuses_425 r68.2 l1 (0 : Int32))) else sL_refuses_425 r62.2 l1 (0 : Int32))) else sL_refuses_425 r56.2 l1 (0 : Int32))) else sL_refuses_425 r50.2 l1 (0 : Int32))) else sL_refuses_425 r44.2 l1 (0 : Int32))) else sL_refuses_425 r38.2 l1 (0 : Int32))) else sL_refuses_425 r32.2 l1 (0 : Int32))) else sL_refuses_425 r26.2 l1 (0 : Int32))) else sL_refuses_425 r20.2 l1 (0 : Int32))) else sL_refuses_425 r14.2 l1 (0 : Int32))) else sL_refuses_425 r8.2 l1 (0 : Int32))) else sL_refuses_425 r2.2 l1 (0 : Int32))))
theorem tL_refuses_257 {X : Cx} {B : Bs} {sz : Nat} {r : (Bool × Wl)} (hx : Fx X cL_refuses 8 RL 9 31 186) (hC : GC (xΓ X) B) (htr : (xl X).stackTraces = false) (hr : Rt X (some .boolean) 31 186 (WX (xΓ X) B (some (.int (bI r.1))) r.2)) : ∀ (w : Wl) (l1 : Int64) (l3 : Int32) (l4 : Int32) (l5 : Int32) (l6 : Int32) (s0 : Int32) {G : Gf} (hW : Wd (xΓ X) B w G) (h : sL_refuses_257  w l1 l3 l4 l5 l6 s0 = some r), J X 8 G sz 18 108 257 [some (.ref (B.1 + 0)), some (.long l1), none, some (.int l3), some (.int l4), some (.int l5), some (.int l6), none] [.int s0] := by
  intro w l1 l3 l4 l5 l6 s0 G hW h
  unfold sL_refuses_257 at h
  refine J_is hx (by decide) (hc_of rfl) rfl dL_refuses_257 ?_
  refine J_il hx rfl dL_refuses_259 ?_
  refine J_if_eq hx 424 dL_refuses_261 rfl (fun h1 => ?_) (fun h1 => ?_)
  · replace h := pos h h1
    refine J_iconst hx (0 : Int32) dL_refuses_424 rfl ?_
    refine J_wide (by decide) (by decide) (show J X 8 G sz 31 186 425 [some (.ref (B.1 + 0)), some (.long l1), none, some (.int l3), some (.int l4), some (.int l5), some (.int l6), some (.int s0)] [.int (0 : Int32)] from ?_)
    refine J_lw (ls' := [some (.ref (B.1 + 0)), some (.long l1), none, none, none, none, none, none]) (lwS (lwS (lwN (lwN (lwN (lwN (lwN (lwN lwZ)))))))) ?_
    exact tL_refuses_425 hx hC htr hr _ _ _  hW h
  · replace h := neg h h1
    refine J_al4 hx rfl rfl dL_refuses_264 ?_
    refine J_il hx rfl dL_refuses_265 ?_
    refine J_iconst hx (0 : Int32) dL_refuses_267 rfl ?_
    refine J_iconst hx (-1 : Int32) dL_refuses_268 rfl ?_
    obtain ⟨r2, hr3, h⟩ := bnd h
    refine J_callSW hx (kL_refusal htr hC hW hr3) ml_L_146 cw_refusal st_refusal ini_L hy_refusal (rest := []) rfl rfl (by decide) (by decide) (Nat.le_of_ble_eq_true rfl) (by decide) (by decide) dL_refuses_269 fun x1 G4 z6 hh => ?_
    obtain ⟨rfl, hW5⟩ := hh
    show J X 8 G4 z6 19 114 272 [some (.ref (B.1 + 0)), some (.long l1), none, some (.int l3), some (.int l4), some (.int l5), some (.int l6), some (.int s0)] [.int r2.1]
    refine J_ldc hx cn_L_27 dL_refuses_272 ?_
    refine J_icmp_ne hx 424 dL_refuses_274 rfl (fun h7 => ?_) (fun h7 => ?_)
    · replace h := neg h h7
      refine J_iconst hx (0 : Int32) dL_refuses_424 rfl ?_
      refine J_wide (by decide) (by decide) (show J X 8 G4 z6 31 186 425 [some (.ref (B.1 + 0)), some (.long l1), none, some (.int l3), some (.int l4), some (.int l5), some (.int l6), some (.int s0)] [.int (0 : Int32)] from ?_)
      refine J_lw (ls' := [some (.ref (B.1 + 0)), some (.long l1), none, none, none, none, none, none]) (lwS (lwS (lwN (lwN (lwN (lwN (lwN (lwN lwZ)))))))) ?_
      exact tL_refuses_425 hx hC htr hr _ _ _  hW5 h
    · replace h := pos h h7
      refine J_al4 hx rfl rfl dL_refuses_277 ?_
      refine J_iconst hx (0 : Int32) dL_refuses_278 rfl ?_
      refine J_il4 hx rfl rfl dL_refuses_279 ?_
      refine J_iconst hx (-1 : Int32) dL_refuses_280 rfl ?_
      obtain ⟨r8, hr9, h⟩ := bnd h
      refine J_callSW hx (kL_refusal htr hC hW5 hr9) ml_L_146 cw_refusal st_refusal ini_L hy_refusal (rest := []) rfl rfl (by decide) (by decide) (Nat.le_of_ble_eq_true rfl) (by decide) (by decide) dL_refuses_281 fun x1 G10 z12 hh => ?_
      obtain ⟨rfl, hW11⟩ := hh
      show J X 8 G10 z12 20 120 284 [some (.ref (B.1 + 0)), some (.long l1), none, some (.int l3), some (.int l4), some (.int l5), some (.int l6), some (.int s0)] [.int r8.1]
      refine J_ldc hx cn_L_27 dL_refuses_284 ?_
      refine J_icmp_ne hx 424 dL_refuses_286 rfl (fun h13 => ?_) (fun h13 => ?_)
      · replace h := neg h h13
        refine J_iconst hx (0 : Int32) dL_refuses_424 rfl ?_
        refine J_wide (by decide) (by decide) (show J X 8 G10 z12 31 186 425 [some (.ref (B.1 + 0)), some (.long l1), none, some (.int l3), some (.int l4), some (.int l5), some (.int l6), some (.int s0)] [.int (0 : Int32)] from ?_)
        refine J_lw (ls' := [some (.ref (B.1 + 0)), some (.long l1), none, none, none, none, none, none]) (lwS (lwS (lwN (lwN (lwN (lwN (lwN (lwN lwZ)))))))) ?_
        exact tL_refuses_425 hx hC htr hr _ _ _  hW11 h
      · replace h := pos h h13
        refine J_al4 hx rfl rfl dL_refuses_289 ?_
        refine J_iconst hx (0 : Int32) dL_refuses_290 rfl ?_
        refine J_iconst hx (0 : Int32) dL_refuses_291 rfl ?_
        refine J_il hx rfl dL_refuses_292 ?_
        obtain ⟨r14, hr15, h⟩ := bnd h
        refine J_callSW hx (kL_refusal htr hC hW11 hr15) ml_L_146 cw_refusal st_refusal ini_L hy_refusal (rest := []) rfl rfl (by decide) (by decide) (Nat.le_of_ble_eq_true rfl) (by decide) (by decide) dL_refuses_294 fun x1 G16 z18 hh => ?_
        obtain ⟨rfl, hW17⟩ := hh
        show J X 8 G16 z18 21 126 297 [some (.ref (B.1 + 0)), some (.long l1), none, some (.int l3), some (.int l4), some (.int l5), some (.int l6), some (.int s0)] [.int r14.1]
        refine J_ldc hx cn_L_27 dL_refuses_297 ?_
        refine J_icmp_ne hx 424 dL_refuses_299 rfl (fun h19 => ?_) (fun h19 => ?_)
        · replace h := neg h h19
          refine J_iconst hx (0 : Int32) dL_refuses_424 rfl ?_
          refine J_wide (by decide) (by decide) (show J X 8 G16 z18 31 186 425 [some (.ref (B.1 + 0)), some (.long l1), none, some (.int l3), some (.int l4), some (.int l5), some (.int l6), some (.int s0)] [.int (0 : Int32)] from ?_)
          refine J_lw (ls' := [some (.ref (B.1 + 0)), some (.long l1), none, none, none, none, none, none]) (lwS (lwS (lwN (lwN (lwN (lwN (lwN (lwN lwZ)))))))) ?_
          exact tL_refuses_425 hx hC htr hr _ _ _  hW17 h
        · replace h := pos h h19
          refine J_al4 hx rfl rfl dL_refuses_302 ?_
          refine J_il hx rfl dL_refuses_303 ?_
          refine J_bipush hx (99 : Int32) dL_refuses_305 rfl ?_
          obtain ⟨r20, hr21, h⟩ := bnd h
          refine J_callSW hx (kL_crate htr hC hW17 hr21) ml_L_118 cw_crate st_crate ini_L hy_crate (rest := []) rfl rfl (by decide) (by decide) (Nat.le_of_ble_eq_true rfl) (by decide) (by decide) dL_refuses_307 fun x1 G22 z24 hh => ?_
          obtain ⟨rfl, hW23⟩ := hh
          show J X 8 G22 z24 22 132 310 [some (.ref (B.1 + 0)), some (.long l1), none, some (.int l3), some (.int l4), some (.int l5), some (.int l6), some (.int s0)] [.int r20.1]
          refine J_ldc hx cn_L_27 dL_refuses_310 ?_
          refine J_icmp_ne hx 424 dL_refuses_312 rfl (fun h25 => ?_) (fun h25 => ?_)
          · replace h := neg h h25
            refine J_iconst hx (0 : Int32) dL_refuses_424 rfl ?_
            refine J_wide (by decide) (by decide) (show J X 8 G22 z24 31 186 425 [some (.ref (B.1 + 0)), some (.long l1), none, some (.int l3), some (.int l4), some (.int l5), some (.int l6), some (.int s0)] [.int (0 : Int32)] from ?_)
            refine J_lw (ls' := [some (.ref (B.1 + 0)), some (.long l1), none, none, none, none, none, none]) (lwS (lwS (lwN (lwN (lwN (lwN (lwN (lwN lwZ)))))))) ?_
            exact tL_refuses_425 hx hC htr hr _ _ _  hW23 h
          · replace h := pos h h25
            refine J_al4 hx rfl rfl dL_refuses_315 ?_
            refine J_il hx rfl dL_refuses_316 ?_
            refine J_bipush hx (99 : Int32) dL_refuses_318 rfl ?_
            obtain ⟨r26, hr27, h⟩ := bnd h
            refine J_callSW hx (kL_work htr hC hW23 hr27) ml_L_115 cw_work st_work ini_L hy_work (rest := []) rfl rfl (by decide) (by decide) (Nat.le_of_ble_eq_true rfl) (by decide) (by decide) dL_refuses_320 fun x1 G28 z30 hh => ?_
            obtain ⟨rfl, hW29⟩ := hh
            show J X 8 G28 z30 23 138 323 [some (.ref (B.1 + 0)), some (.long l1), none, some (.int l3), some (.int l4), some (.int l5), some (.int l6), some (.int s0)] [.int r26.1]
            refine J_ldc hx cn_L_27 dL_refuses_323 ?_
            refine J_icmp_ne hx 424 dL_refuses_325 rfl (fun h31 => ?_) (fun h31 => ?_)
            · replace h := neg h h31
              refine J_iconst hx (0 : Int32) dL_refuses_424 rfl ?_
              refine J_wide (by decide) (by decide) (show J X 8 G28 z30 31 186 425 [some (.ref (B.1 + 0)), some (.long l1), none, some (.int l3), some (.int l4), some (.int l5), some (.int l6), some (.int s0)] [.int (0 : Int32)] from ?_)
              refine J_lw (ls' := [some (.ref (B.1 + 0)), some (.long l1), none, none, none, none, none, none]) (lwS (lwS (lwN (lwN (lwN (lwN (lwN (lwN lwZ)))))))) ?_
              exact tL_refuses_425 hx hC htr hr _ _ _  hW29 h
            · replace h := pos h h31
              refine J_al4 hx rfl rfl dL_refuses_328 ?_
              refine J_il hx rfl dL_refuses_329 ?_
              refine J_iconst hx (-1 : Int32) dL_refuses_331 rfl ?_
              obtain ⟨r32, hr33, h⟩ := bnd h
              refine J_callSW hx (kL_noted htr hC hW29 hr33) ml_L_155 cw_noted st_noted ini_L hy_noted (rest := []) rfl rfl (by decide) (by decide) (Nat.le_of_ble_eq_true rfl) (by decide) (by decide) dL_refuses_332 fun x1 G34 z36 hh => ?_
              obtain ⟨rfl, hW35⟩ := hh
              show J X 8 G34 z36 24 144 335 [some (.ref (B.1 + 0)), some (.long l1), none, some (.int l3), some (.int l4), some (.int l5), some (.int l6), some (.int s0)] [.int r32.1]
              refine J_ldc hx cn_L_27 dL_refuses_335 ?_
              refine J_icmp_ne hx 424 dL_refuses_337 rfl (fun h37 => ?_) (fun h37 => ?_)
              · replace h := neg h h37
                refine J_iconst hx (0 : Int32) dL_refuses_424 rfl ?_
                refine J_wide (by decide) (by decide) (show J X 8 G34 z36 31 186 425 [some (.ref (B.1 + 0)), some (.long l1), none, some (.int l3), some (.int l4), some (.int l5), some (.int l6), some (.int s0)] [.int (0 : Int32)] from ?_)
                refine J_lw (ls' := [some (.ref (B.1 + 0)), some (.long l1), none, none, none, none, none, none]) (lwS (lwS (lwN (lwN (lwN (lwN (lwN (lwN lwZ)))))))) ?_
                exact tL_refuses_425 hx hC htr hr _ _ _  hW35 h
              · replace h := pos h h37
                refine J_al4 hx rfl rfl dL_refuses_340 ?_
                refine J_il4 hx rfl rfl dL_refuses_341 ?_
                refine J_bipush hx (99 : Int32) dL_refuses_342 rfl ?_
                obtain ⟨r38, hr39, h⟩ := bnd h
                refine J_callSW hx (kL_venue htr hC hW35 hr39) ml_L_124 cw_venue st_venue ini_L hy_venue (rest := []) rfl rfl (by decide) (by decide) (Nat.le_of_ble_eq_true rfl) (by decide) (by decide) dL_refuses_344 fun x1 G40 z42 hh => ?_
                obtain ⟨rfl, hW41⟩ := hh
                show J X 8 G40 z42 25 150 347 [some (.ref (B.1 + 0)), some (.long l1), none, some (.int l3), some (.int l4), some (.int l5), some (.int l6), some (.int s0)] [.int r38.1]
                refine J_ldc hx cn_L_27 dL_refuses_347 ?_
                refine J_icmp_ne hx 424 dL_refuses_349 rfl (fun h43 => ?_) (fun h43 => ?_)
                · replace h := neg h h43
                  refine J_iconst hx (0 : Int32) dL_refuses_424 rfl ?_
                  refine J_wide (by decide) (by decide) (show J X 8 G40 z42 31 186 425 [some (.ref (B.1 + 0)), some (.long l1), none, some (.int l3), some (.int l4), some (.int l5), some (.int l6), some (.int s0)] [.int (0 : Int32)] from ?_)
                  refine J_lw (ls' := [some (.ref (B.1 + 0)), some (.long l1), none, none, none, none, none, none]) (lwS (lwS (lwN (lwN (lwN (lwN (lwN (lwN lwZ)))))))) ?_
                  exact tL_refuses_425 hx hC htr hr _ _ _  hW41 h
                · replace h := pos h h43
                  refine J_al4 hx rfl rfl dL_refuses_352 ?_
                  refine J_il hx rfl dL_refuses_353 ?_
                  obtain ⟨r44, hr45, h⟩ := bnd h
                  refine J_callSW hx (kL_courier htr hC hW41 hr45) ml_L_126 cw_courier st_courier ini_L hy_courier (rest := []) rfl rfl (by decide) (by decide) (Nat.le_of_ble_eq_true rfl) (by decide) (by decide) dL_refuses_355 fun x1 G46 z48 hh => ?_
                  obtain ⟨rfl, hW47⟩ := hh
                  show J X 8 G46 z48 26 156 358 [some (.ref (B.1 + 0)), some (.long l1), none, some (.int l3), some (.int l4), some (.int l5), some (.int l6), some (.int s0)] [.int r44.1]
                  refine J_ldc hx cn_L_27 dL_refuses_358 ?_
                  refine J_icmp_ne hx 424 dL_refuses_360 rfl (fun h49 => ?_) (fun h49 => ?_)
                  · replace h := neg h h49
                    refine J_iconst hx (0 : Int32) dL_refuses_424 rfl ?_
                    refine J_wide (by decide) (by decide) (show J X 8 G46 z48 31 186 425 [some (.ref (B.1 + 0)), some (.long l1), none, some (.int l3), some (.int l4), some (.int l5), some (.int l6), some (.int s0)] [.int (0 : Int32)] from ?_)
                    refine J_lw (ls' := [some (.ref (B.1 + 0)), some (.long l1), none, none, none, none, none, none]) (lwS (lwS (lwN (lwN (lwN (lwN (lwN (lwN lwZ)))))))) ?_
                    exact tL_refuses_425 hx hC htr hr _ _ _  hW47 h
                  · replace h := pos h h49
                    refine J_al4 hx rfl rfl dL_refuses_363 ?_
                    refine J_bipush hx (10 : Int32) dL_refuses_364 rfl ?_
                    obtain ⟨r50, hr51, h⟩ := bnd h
                    refine J_callSW hx (kL_whole htr hC hW47 hr51) ml_L_110 cw_whole st_whole ini_L hy_whole (rest := []) rfl rfl (by decide) (by decide) (Nat.le_of_ble_eq_true rfl) (by decide) (by decide) dL_refuses_366 fun x1 G52 z54 hh => ?_
                    obtain ⟨rfl, hW53⟩ := hh
                    show J X 8 G52 z54 27 162 369 [some (.ref (B.1 + 0)), some (.long l1), none, some (.int l3), some (.int l4), some (.int l5), some (.int l6), some (.int s0)] [.int r50.1]
                    refine J_ldc hx cn_L_17 dL_refuses_369 ?_
                    refine J_icmp_ne hx 424 dL_refuses_371 rfl (fun h55 => ?_) (fun h55 => ?_)
                    · replace h := neg h h55
                      refine J_iconst hx (0 : Int32) dL_refuses_424 rfl ?_
                      refine J_wide (by decide) (by decide) (show J X 8 G52 z54 31 186 425 [some (.ref (B.1 + 0)), some (.long l1), none, some (.int l3), some (.int l4), some (.int l5), some (.int l6), some (.int s0)] [.int (0 : Int32)] from ?_)
                      refine J_lw (ls' := [some (.ref (B.1 + 0)), some (.long l1), none, none, none, none, none, none]) (lwS (lwS (lwN (lwN (lwN (lwN (lwN (lwN lwZ)))))))) ?_
                      exact tL_refuses_425 hx hC htr hr _ _ _  hW53 h
                    · replace h := pos h h55
                      refine J_al4 hx rfl rfl dL_refuses_374 ?_
                      refine J_il hx rfl dL_refuses_375 ?_
                      obtain ⟨r56, hr57, h⟩ := bnd h
                      refine J_callSW hx (kL_readyAt htr hC hW53 hr57) ml_L_120 cw_readyAt st_readyAt ini_L hy_readyAt (rest := []) rfl rfl (by decide) (by decide) (Nat.le_of_ble_eq_true rfl) (by decide) (by decide) dL_refuses_377 fun x1 G58 z60 hh => ?_
                      obtain ⟨rfl, hW59⟩ := hh
                      show J X 8 G58 z60 28 168 380 [some (.ref (B.1 + 0)), some (.long l1), none, some (.int l3), some (.int l4), some (.int l5), some (.int l6), some (.int s0)] [.int r56.1]
                      refine J_ldc hx cn_L_27 dL_refuses_380 ?_
                      refine J_icmp_ne hx 424 dL_refuses_382 rfl (fun h61 => ?_) (fun h61 => ?_)
                      · replace h := neg h h61
                        refine J_iconst hx (0 : Int32) dL_refuses_424 rfl ?_
                        refine J_wide (by decide) (by decide) (show J X 8 G58 z60 31 186 425 [some (.ref (B.1 + 0)), some (.long l1), none, some (.int l3), some (.int l4), some (.int l5), some (.int l6), some (.int s0)] [.int (0 : Int32)] from ?_)
                        refine J_lw (ls' := [some (.ref (B.1 + 0)), some (.long l1), none, none, none, none, none, none]) (lwS (lwS (lwN (lwN (lwN (lwN (lwN (lwN lwZ)))))))) ?_
                        exact tL_refuses_425 hx hC htr hr _ _ _  hW59 h
                      · replace h := pos h h61
                        refine J_al4 hx rfl rfl dL_refuses_385 ?_
                        refine J_il hx rfl dL_refuses_386 ?_
                        obtain ⟨r62, hr63, h⟩ := bnd h
                        refine J_callSW hx (kL_allReadyAt htr hC hW59 hr63) ml_L_122 cw_allReadyAt st_allReadyAt ini_L hy_allReadyAt (rest := []) rfl rfl (by decide) (by decide) (Nat.le_of_ble_eq_true rfl) (by decide) (by decide) dL_refuses_388 fun x1 G64 z66 hh => ?_
                        obtain ⟨rfl, hW65⟩ := hh
                        show J X 8 G64 z66 29 174 391 [some (.ref (B.1 + 0)), some (.long l1), none, some (.int l3), some (.int l4), some (.int l5), some (.int l6), some (.int s0)] [.int r62.1]
                        refine J_ldc hx cn_L_27 dL_refuses_391 ?_
                        refine J_icmp_ne hx 424 dL_refuses_393 rfl (fun h67 => ?_) (fun h67 => ?_)
                        · replace h := neg h h67
                          refine J_iconst hx (0 : Int32) dL_refuses_424 rfl ?_
                          refine J_wide (by decide) (by decide) (show J X 8 G64 z66 31 186 425 [some (.ref (B.1 + 0)), some (.long l1), none, some (.int l3), some (.int l4), some (.int l5), some (.int l6), some (.int s0)] [.int (0 : Int32)] from ?_)
                          refine J_lw (ls' := [some (.ref (B.1 + 0)), some (.long l1), none, none, none, none, none, none]) (lwS (lwS (lwN (lwN (lwN (lwN (lwN (lwN lwZ)))))))) ?_
                          exact tL_refuses_425 hx hC htr hr _ _ _  hW65 h
                        · replace h := pos h h67
                          refine J_al4 hx rfl rfl dL_refuses_396 ?_
                          refine J_il hx rfl dL_refuses_397 ?_
                          refine J_iconst hx (-1 : Int32) dL_refuses_399 rfl ?_
                          obtain ⟨r68, hr69, h⟩ := bnd h
                          refine J_callSW hx (kL_bestVenue htr hC hW65 hr69) ml_L_149 cw_bestVenue st_bestVenue ini_L hy_bestVenue (rest := []) rfl rfl (by decide) (by decide) (Nat.le_of_ble_eq_true rfl) (by decide) (by decide) dL_refuses_400 fun x1 G70 z72 hh => ?_
                          obtain ⟨rfl, hW71⟩ := hh
                          show J X 8 G70 z72 30 180 403 [some (.ref (B.1 + 0)), some (.long l1), none, some (.int l3), some (.int l4), some (.int l5), some (.int l6), some (.int s0)] [.int r68.1]
                          refine J_ldc hx cn_L_27 dL_refuses_403 ?_
                          refine J_icmp_ne hx 424 dL_refuses_405 rfl (fun h73 => ?_) (fun h73 => ?_)
                          · replace h := neg h h73
                            refine J_iconst hx (0 : Int32) dL_refuses_424 rfl ?_
                            refine J_wide (by decide) (by decide) (show J X 8 G70 z72 31 186 425 [some (.ref (B.1 + 0)), some (.long l1), none, some (.int l3), some (.int l4), some (.int l5), some (.int l6), some (.int s0)] [.int (0 : Int32)] from ?_)
                            refine J_lw (ls' := [some (.ref (B.1 + 0)), some (.long l1), none, none, none, none, none, none]) (lwS (lwS (lwN (lwN (lwN (lwN (lwN (lwN lwZ)))))))) ?_
                            exact tL_refuses_425 hx hC htr hr _ _ _  hW71 h
                          · replace h := pos h h73
                            refine J_al4 hx rfl rfl dL_refuses_408 ?_
                            refine J_sipush hx (128 : Int32) dL_refuses_409 rfl ?_
                            obtain ⟨r74, hr75, h⟩ := bnd h
                            refine J_callSW hx (kL_type htr hC hW71 hr75) ml_L_179 cw_type st_type ini_L hy_type (rest := []) rfl rfl (by decide) (by decide) (Nat.le_of_ble_eq_true rfl) (by decide) (by decide) dL_refuses_412 fun x1 G76 z78 hh => ?_
                            obtain ⟨rfl, hW77⟩ := hh
                            show J X 8 G76 z78 31 186 415 [some (.ref (B.1 + 0)), some (.long l1), none, some (.int l3), some (.int l4), some (.int l5), some (.int l6), some (.int s0)] [.int r74.1]
                            refine J_ldc hx cn_L_17 dL_refuses_415 ?_
                            refine J_icmp_ne hx 424 dL_refuses_417 rfl (fun h79 => ?_) (fun h79 => ?_)
                            · replace h := neg h h79
                              refine J_iconst hx (0 : Int32) dL_refuses_424 rfl ?_
                              refine J_lw (ls' := [some (.ref (B.1 + 0)), some (.long l1), none, none, none, none, none, none]) (lwS (lwS (lwN (lwN (lwN (lwN (lwN (lwN lwZ)))))))) ?_
                              exact tL_refuses_425 hx hC htr hr _ _ _  hW77 h
                            · replace h := pos h h79
                              refine J_iconst hx (1 : Int32) dL_refuses_420 rfl ?_
                              refine J_goto hx 425 dL_refuses_421 rfl ?_
                              refine J_lw (ls' := [some (.ref (B.1 + 0)), some (.long l1), none, none, none, none, none, none]) (lwS (lwS (lwN (lwN (lwN (lwN (lwN (lwN lwZ)))))))) ?_
                              exact tL_refuses_425 hx hC htr hr _ _ _  hW77 h
def sL_refuses (w : Wl) : Option (Bool × Wl) := (sX12_digest w ).bind (fun r1 => (sO_whole r1.2 (1 : Int32)).bind (fun r5 => (sO_whole r1.2 (2 : Int32)).bind (fun r7 => (sO_whole r1.2 (3 : Int32)).bind (fun r9 => (sO_whole r1.2 (4 : Int32)).bind (fun r11 => (sL_addVenue r1.2 (-11 : Int32) (20 : Int32) (0 : Int32) (0 : Int32)).bind (fun r13 => (if r13.1 = (-90100 : Int32) then (sL_addVenue r13.2 (0 : Int32) (20 : Int32) (0 : Int32) (-1 : Int32)).bind (fun r19 => (if r19.1 = (-90100 : Int32) then (sL_setClimate r19.2 r5 (99 : Int32) (99 : Int32)).bind (fun r25 => (if r25.1 = (-90300 : Int32) then (sL_setWay r25.2 r5 r5 (999 : Int32)).bind (fun r31 => (if r31.1 = (-90300 : Int32) then (sL_setLender r31.2 (-1 : Int32) (0 : Int32) (0 : Int32)).bind (fun r37 => (if r37.1 = (-90100 : Int32) then (sL_setWayRate r37.2 (-1 : Int32)).bind (fun r43 => (if r43.1 = (-90100 : Int32) then (sL_addCourier r43.2 r5).bind (fun r49 => (if r49.1 = (-90300 : Int32) then (sL_addCrate r49.2 r5 (9 : Int32)).bind (fun r55 => (if r55.1 = (-90300 : Int32) then (sL_addWork r55.2 (-1 : Int32) (9 : Int32) (0 : Int32) (99 : Int32) (1 : Int32)).bind (fun r61 => (if r61.1 = (-90300 : Int32) then (sL_open r61.2 r7).bind (fun r67 => (if r67.1 = (-90300 : Int32) then (sL_close r67.2 (-1 : Int32)).bind (fun r73 => (if r73.1 = (-90300 : Int32) then (sL_nest r73.2 r7 r7).bind (fun r79 => (if r79.1 = (-90300 : Int32) then (sL_takeOut r79.2 r7).bind (fun r85 => (if r85.1 = (-90300 : Int32) then (sL_pack r85.2 r9 (0 : Int32)).bind (fun r91 => (if r91.1 = (-90300 : Int32) then (sL_unpack r91.2 r9).bind (fun r97 => (if r97.1 = (-90300 : Int32) then (sL_send r97.2 r7 (0 : Int32) (-1 : Int32)).bind (fun r103 => (if r103.1 = (-90300 : Int32) then (sL_advance r103.2 (0 : Int32)).bind (fun r109 => (if r109.1 = (-90100 : Int32) then (sL_advance r109.2 (241 : Int32)).bind (fun r115 => (if r115.1 = (-90100 : Int32) then sL_refuses_257 r115.2 r1.1 r5 r7 r9 r11 (1 : Int32) else sL_refuses_257 r115.2 r1.1 r5 r7 r9 r11 (0 : Int32))) else sL_refuses_257 r109.2 r1.1 r5 r7 r9 r11 (0 : Int32))) else sL_refuses_257 r103.2 r1.1 r5 r7 r9 r11 (0 : Int32))) else sL_refuses_257 r97.2 r1.1 r5 r7 r9 r11 (0 : Int32))) else sL_refuses_257 r91.2 r1.1 r5 r7 r9 r11 (0 : Int32))) else sL_refuses_257 r85.2 r1.1 r5 r7 r9 r11 (0 : Int32))) else sL_refuses_257 r79.2 r1.1 r5 r7 r9 r11 (0 : Int32))) else sL_refuses_257 r73.2 r1.1 r5 r7 r9 r11 (0 : Int32))) else sL_refuses_257 r67.2 r1.1 r5 r7 r9 r11 (0 : Int32))) else sL_refuses_257 r61.2 r1.1 r5 r7 r9 r11 (0 : Int32))) else sL_refuses_257 r55.2 r1.1 r5 r7 r9 r11 (0 : Int32))) else sL_refuses_257 r49.2 r1.1 r5 r7 r9 r11 (0 : Int32))) else sL_refuses_257 r43.2 r1.1 r5 r7 r9 r11 (0 : Int32))) else sL_refuses_257 r37.2 r1.1 r5 r7 r9 r11 (0 : Int32))) else sL_refuses_257 r31.2 r1.1 r5 r7 r9 r11 (0 : Int32))) else sL_refuses_257 r25.2 r1.1 r5 r7 r9 r11 (0 : Int32))) else sL_refuses_257 r19.2 r1.1 r5 r7 r9 r11 (0 : Int32))) else sL_refuses_257 r13.2 r1.1 r5 r7 r9 r11 (0 : Int32))))))))
theorem kL_refuses {l : Launch} {Γ : Gl} {B : Bs} {w : Wl} {G : Gf} {sz : Nat} {r : (Bool × Wl)} (hC : GC Γ B) (htr : l.stackTraces = false) (hW : Wd Γ B w G) (h : sL_refuses w  = some r) : Ct l Γ yL_refuses cL_refuses 8 (some .boolean) 9 [.ref (B.1 + 0)] G sz (WX Γ B (some (.int (bI r.1))) r.2) 31 186 := by
  refine Ct.of rfl (Nat.le_of_ble_eq_true rfl) fun X hx hr hl hΓ hnm => ?_
  subst hl hΓ
  show J X 8 G sz 0 0 0 [some (.ref (B.1 + 0)), none, none, none, none, none, none, none] []
  unfold sL_refuses at h
  refine J_al4 hx rfl rfl dL_refuses_0 ?_
  obtain ⟨r1, hr2, h⟩ := bnd h
  refine J_wrV hx (kX12_digest  hW hr2) ml_L_157 lk_X12_digest (ci := 10) rfl (hW.obj (rfl : kd 0 = 1) (by decide) (by decide)) (rest := []) rfl rfl (by decide) (by decide) (Nat.le_of_ble_eq_true rfl) (by decide) (by decide) dL_refuses_1 fun G3 hW4 => ?_
  show J X 8 G3 sz 0 0 4 [some (.ref (B.1 + 0)), none, none, none, none, none, none, none] [.long r1.1]
  refine J_ls4 hx rfl (by decide) (hc_of rfl) rfl dL_refuses_4 ?_
  refine J_al4 hx rfl rfl dL_refuses_5 ?_
  refine J_iconst hx (1 : Int32) dL_refuses_6 rfl ?_
  obtain ⟨r5, hr6, h⟩ := bnd h
  refine J_rdL hx (kP_whole hC hW4 (okS_e hr6)) ml_L_110 cw_whole st_whole ini_L hy_whole (rest := []) rfl rfl (by decide) (by decide) (Nat.le_of_ble_eq_true rfl) (by decide) (by decide) dL_refuses_7 ?_
  refine J_is4 hx rfl (by decide) (hc_of rfl) rfl dL_refuses_10 ?_
  refine J_al4 hx rfl rfl dL_refuses_11 ?_
  refine J_iconst hx (2 : Int32) dL_refuses_12 rfl ?_
  obtain ⟨r7, hr8, h⟩ := bnd h
  refine J_rdL hx (kP_whole hC hW4 (okS_e hr8)) ml_L_110 cw_whole st_whole ini_L hy_whole (rest := []) rfl rfl (by decide) (by decide) (Nat.le_of_ble_eq_true rfl) (by decide) (by decide) dL_refuses_13 ?_
  refine J_is hx (by decide) (hc_of rfl) rfl dL_refuses_16 ?_
  refine J_al4 hx rfl rfl dL_refuses_18 ?_
  refine J_iconst hx (3 : Int32) dL_refuses_19 rfl ?_
  obtain ⟨r9, hr10, h⟩ := bnd h
  refine J_rdL hx (kP_whole hC hW4 (okS_e hr10)) ml_L_110 cw_whole st_whole ini_L hy_whole (rest := []) rfl rfl (by decide) (by decide) (Nat.le_of_ble_eq_true rfl) (by decide) (by decide) dL_refuses_20 ?_
  refine J_is hx (by decide) (hc_of rfl) rfl dL_refuses_23 ?_
  refine J_al4 hx rfl rfl dL_refuses_25 ?_
  refine J_iconst hx (4 : Int32) dL_refuses_26 rfl ?_
  obtain ⟨r11, hr12, h⟩ := bnd h
  refine J_rdL hx (kP_whole hC hW4 (okS_e hr12)) ml_L_110 cw_whole st_whole ini_L hy_whole (rest := []) rfl rfl (by decide) (by decide) (Nat.le_of_ble_eq_true rfl) (by decide) (by decide) dL_refuses_27 ?_
  refine J_is hx (by decide) (hc_of rfl) rfl dL_refuses_30 ?_
  refine J_al4 hx rfl rfl dL_refuses_32 ?_
  refine J_bipush hx (-11 : Int32) dL_refuses_33 rfl ?_
  refine J_bipush hx (20 : Int32) dL_refuses_35 rfl ?_
  refine J_iconst hx (0 : Int32) dL_refuses_37 rfl ?_
  refine J_iconst hx (0 : Int32) dL_refuses_38 rfl ?_
  obtain ⟨r13, hr14, h⟩ := bnd h
  refine J_callSW hx (kL_addVenue htr hC hW4 hr14) ml_L_161 cw_addVenue st_addVenue ini_L hy_addVenue (rest := []) rfl rfl (by decide) (by decide) (Nat.le_of_ble_eq_true rfl) (by decide) (by decide) dL_refuses_39 fun x1 G15 z17 hh => ?_
  obtain ⟨rfl, hW16⟩ := hh
  show J X 8 G15 z17 1 6 42 [some (.ref (B.1 + 0)), some (.long r1.1), none, some (.int r5), some (.int r7), some (.int r9), some (.int r11), none] [.int r13.1]
  refine J_ldc hx cn_L_17 dL_refuses_42 ?_
  refine J_icmp_ne hx 256 dL_refuses_44 rfl (fun h18 => ?_) (fun h18 => ?_)
  · replace h := neg h h18
    refine J_iconst hx (0 : Int32) dL_refuses_256 rfl ?_
    refine J_wide (by decide) (by decide) (show J X 8 G15 z17 18 108 257 [some (.ref (B.1 + 0)), some (.long r1.1), none, some (.int r5), some (.int r7), some (.int r9), some (.int r11), none] [.int (0 : Int32)] from ?_)
    exact tL_refuses_257 hx hC htr hr _ _ _ _ _ _ _  hW16 h
  · replace h := pos h h18
    refine J_al4 hx rfl rfl dL_refuses_47 ?_
    refine J_iconst hx (0 : Int32) dL_refuses_48 rfl ?_
    refine J_bipush hx (20 : Int32) dL_refuses_49 rfl ?_
    refine J_iconst hx (0 : Int32) dL_refuses_51 rfl ?_
    refine J_iconst hx (-1 : Int32) dL_refuses_52 rfl ?_
    obtain ⟨r19, hr20, h⟩ := bnd h
    refine J_callSW hx (kL_addVenue htr hC hW16 hr20) ml_L_161 cw_addVenue st_addVenue ini_L hy_addVenue (rest := []) rfl rfl (by decide) (by decide) (Nat.le_of_ble_eq_true rfl) (by decide) (by decide) dL_refuses_53 fun x1 G21 z23 hh => ?_
    obtain ⟨rfl, hW22⟩ := hh
    show J X 8 G21 z23 2 12 56 [some (.ref (B.1 + 0)), some (.long r1.1), none, some (.int r5), some (.int r7), some (.int r9), some (.int r11), none] [.int r19.1]
    refine J_ldc hx cn_L_17 dL_refuses_56 ?_
    refine J_icmp_ne hx 256 dL_refuses_58 rfl (fun h24 => ?_) (fun h24 => ?_)
    · replace h := neg h h24
      refine J_iconst hx (0 : Int32) dL_refuses_256 rfl ?_
      refine J_wide (by decide) (by decide) (show J X 8 G21 z23 18 108 257 [some (.ref (B.1 + 0)), some (.long r1.1), none, some (.int r5), some (.int r7), some (.int r9), some (.int r11), none] [.int (0 : Int32)] from ?_)
      exact tL_refuses_257 hx hC htr hr _ _ _ _ _ _ _  hW22 h
    · replace h := pos h h24
      refine J_al4 hx rfl rfl dL_refuses_61 ?_
      refine J_il4 hx rfl rfl dL_refuses_62 ?_
      refine J_bipush hx (99 : Int32) dL_refuses_63 rfl ?_
      refine J_bipush hx (99 : Int32) dL_refuses_65 rfl ?_
      obtain ⟨r25, hr26, h⟩ := bnd h
      refine J_callSW hx (kL_setClimate htr hC hW22 hr26) ml_L_164 cw_setClimate st_setClimate ini_L hy_setClimate (rest := []) rfl rfl (by decide) (by decide) (Nat.le_of_ble_eq_true rfl) (by decide) (by decide) dL_refuses_67 fun x1 G27 z29 hh => ?_
      obtain ⟨rfl, hW28⟩ := hh
      show J X 8 G27 z29 3 18 70 [some (.ref (B.1 + 0)), some (.long r1.1), none, some (.int r5), some (.int r7), some (.int r9), some (.int r11), none] [.int r25.1]
      refine J_ldc hx cn_L_27 dL_refuses_70 ?_
      refine J_icmp_ne hx 256 dL_refuses_72 rfl (fun h30 => ?_) (fun h30 => ?_)
      · replace h := neg h h30
        refine J_iconst hx (0 : Int32) dL_refuses_256 rfl ?_
        refine J_wide (by decide) (by decide) (show J X 8 G27 z29 18 108 257 [some (.ref (B.1 + 0)), some (.long r1.1), none, some (.int r5), some (.int r7), some (.int r9), some (.int r11), none] [.int (0 : Int32)] from ?_)
        exact tL_refuses_257 hx hC htr hr _ _ _ _ _ _ _  hW28 h
      · replace h := pos h h30
        refine J_al4 hx rfl rfl dL_refuses_75 ?_
        refine J_il4 hx rfl rfl dL_refuses_76 ?_
        refine J_il4 hx rfl rfl dL_refuses_77 ?_
        refine J_sipush hx (999 : Int32) dL_refuses_78 rfl ?_
        obtain ⟨r31, hr32, h⟩ := bnd h
        refine J_callSW hx (kL_setWay htr hC hW28 hr32) ml_L_166 cw_setWay st_setWay ini_L hy_setWay (rest := []) rfl rfl (by decide) (by decide) (Nat.le_of_ble_eq_true rfl) (by decide) (by decide) dL_refuses_81 fun x1 G33 z35 hh => ?_
        obtain ⟨rfl, hW34⟩ := hh
        show J X 8 G33 z35 4 24 84 [some (.ref (B.1 + 0)), some (.long r1.1), none, some (.int r5), some (.int r7), some (.int r9), some (.int r11), none] [.int r31.1]
        refine J_ldc hx cn_L_27 dL_refuses_84 ?_
        refine J_icmp_ne hx 256 dL_refuses_86 rfl (fun h36 => ?_) (fun h36 => ?_)
        · replace h := neg h h36
          refine J_iconst hx (0 : Int32) dL_refuses_256 rfl ?_
          refine J_wide (by decide) (by decide) (show J X 8 G33 z35 18 108 257 [some (.ref (B.1 + 0)), some (.long r1.1), none, some (.int r5), some (.int r7), some (.int r9), some (.int r11), none] [.int (0 : Int32)] from ?_)
          exact tL_refuses_257 hx hC htr hr _ _ _ _ _ _ _  hW34 h
        · replace h := pos h h36
          refine J_al4 hx rfl rfl dL_refuses_89 ?_
          refine J_iconst hx (-1 : Int32) dL_refuses_90 rfl ?_
          refine J_iconst hx (0 : Int32) dL_refuses_91 rfl ?_
          refine J_iconst hx (0 : Int32) dL_refuses_92 rfl ?_
          obtain ⟨r37, hr38, h⟩ := bnd h
          refine J_callSW hx (kL_setLender htr hC hW34 hr38) ml_L_168 cw_setLender st_setLender ini_L hy_setLender (rest := []) rfl rfl (by decide) (by decide) (Nat.le_of_ble_eq_true rfl) (by decide) (by decide) dL_refuses_93 fun x1 G39 z41 hh => ?_
          obtain ⟨rfl, hW40⟩ := hh
          show J X 8 G39 z41 5 30 96 [some (.ref (B.1 + 0)), some (.long r1.1), none, some (.int r5), some (.int r7), some (.int r9), some (.int r11), none] [.int r37.1]
          refine J_ldc hx cn_L_17 dL_refuses_96 ?_
          refine J_icmp_ne hx 256 dL_refuses_98 rfl (fun h42 => ?_) (fun h42 => ?_)
          · replace h := neg h h42
            refine J_iconst hx (0 : Int32) dL_refuses_256 rfl ?_
            refine J_wide (by decide) (by decide) (show J X 8 G39 z41 18 108 257 [some (.ref (B.1 + 0)), some (.long r1.1), none, some (.int r5), some (.int r7), some (.int r9), some (.int r11), none] [.int (0 : Int32)] from ?_)
            exact tL_refuses_257 hx hC htr hr _ _ _ _ _ _ _  hW40 h
          · replace h := pos h h42
            refine J_al4 hx rfl rfl dL_refuses_101 ?_
            refine J_iconst hx (-1 : Int32) dL_refuses_102 rfl ?_
            obtain ⟨r43, hr44, h⟩ := bnd h
            refine J_callSW hx (kL_setWayRate htr hC hW40 hr44) ml_L_170 cw_setWayRate st_setWayRate ini_L hy_setWayRate (rest := []) rfl rfl (by decide) (by decide) (Nat.le_of_ble_eq_true rfl) (by decide) (by decide) dL_refuses_103 fun x1 G45 z47 hh => ?_
            obtain ⟨rfl, hW46⟩ := hh
            show J X 8 G45 z47 6 36 106 [some (.ref (B.1 + 0)), some (.long r1.1), none, some (.int r5), some (.int r7), some (.int r9), some (.int r11), none] [.int r43.1]
            refine J_ldc hx cn_L_17 dL_refuses_106 ?_
            refine J_icmp_ne hx 256 dL_refuses_108 rfl (fun h48 => ?_) (fun h48 => ?_)
            · replace h := neg h h48
              refine J_iconst hx (0 : Int32) dL_refuses_256 rfl ?_
              refine J_wide (by decide) (by decide) (show J X 8 G45 z47 18 108 257 [some (.ref (B.1 + 0)), some (.long r1.1), none, some (.int r5), some (.int r7), some (.int r9), some (.int r11), none] [.int (0 : Int32)] from ?_)
              exact tL_refuses_257 hx hC htr hr _ _ _ _ _ _ _  hW46 h
            · replace h := pos h h48
              refine J_al4 hx rfl rfl dL_refuses_111 ?_
              refine J_il4 hx rfl rfl dL_refuses_112 ?_
              obtain ⟨r49, hr50, h⟩ := bnd h
              refine J_callSW hx (kL_addCourier htr hC hW46 hr50) ml_L_172 cw_addCourier st_addCourier ini_L hy_addCourier (rest := []) rfl rfl (by decide) (by decide) (Nat.le_of_ble_eq_true rfl) (by decide) (by decide) dL_refuses_113 fun x1 G51 z53 hh => ?_
              obtain ⟨rfl, hW52⟩ := hh
              show J X 8 G51 z53 7 42 116 [some (.ref (B.1 + 0)), some (.long r1.1), none, some (.int r5), some (.int r7), some (.int r9), some (.int r11), none] [.int r49.1]
              refine J_ldc hx cn_L_27 dL_refuses_116 ?_
              refine J_icmp_ne hx 256 dL_refuses_118 rfl (fun h54 => ?_) (fun h54 => ?_)
              · replace h := neg h h54
                refine J_iconst hx (0 : Int32) dL_refuses_256 rfl ?_
                refine J_wide (by decide) (by decide) (show J X 8 G51 z53 18 108 257 [some (.ref (B.1 + 0)), some (.long r1.1), none, some (.int r5), some (.int r7), some (.int r9), some (.int r11), none] [.int (0 : Int32)] from ?_)
                exact tL_refuses_257 hx hC htr hr _ _ _ _ _ _ _  hW52 h
              · replace h := pos h h54
                refine J_al4 hx rfl rfl dL_refuses_121 ?_
                refine J_il4 hx rfl rfl dL_refuses_122 ?_
                refine J_bipush hx (9 : Int32) dL_refuses_123 rfl ?_
                obtain ⟨r55, hr56, h⟩ := bnd h
                refine J_callSW hx (kL_addCrate htr hC hW52 hr56) ml_L_174 cw_addCrate st_addCrate ini_L hy_addCrate (rest := []) rfl rfl (by decide) (by decide) (Nat.le_of_ble_eq_true rfl) (by decide) (by decide) dL_refuses_125 fun x1 G57 z59 hh => ?_
                obtain ⟨rfl, hW58⟩ := hh
                show J X 8 G57 z59 8 48 128 [some (.ref (B.1 + 0)), some (.long r1.1), none, some (.int r5), some (.int r7), some (.int r9), some (.int r11), none] [.int r55.1]
                refine J_ldc hx cn_L_27 dL_refuses_128 ?_
                refine J_icmp_ne hx 256 dL_refuses_130 rfl (fun h60 => ?_) (fun h60 => ?_)
                · replace h := neg h h60
                  refine J_iconst hx (0 : Int32) dL_refuses_256 rfl ?_
                  refine J_wide (by decide) (by decide) (show J X 8 G57 z59 18 108 257 [some (.ref (B.1 + 0)), some (.long r1.1), none, some (.int r5), some (.int r7), some (.int r9), some (.int r11), none] [.int (0 : Int32)] from ?_)
                  exact tL_refuses_257 hx hC htr hr _ _ _ _ _ _ _  hW58 h
                · replace h := pos h h60
                  refine J_al4 hx rfl rfl dL_refuses_133 ?_
                  refine J_iconst hx (-1 : Int32) dL_refuses_134 rfl ?_
                  refine J_bipush hx (9 : Int32) dL_refuses_135 rfl ?_
                  refine J_iconst hx (0 : Int32) dL_refuses_137 rfl ?_
                  refine J_bipush hx (99 : Int32) dL_refuses_138 rfl ?_
                  refine J_iconst hx (1 : Int32) dL_refuses_140 rfl ?_
                  obtain ⟨r61, hr62, h⟩ := bnd h
                  refine J_callSW hx (kL_addWork htr hC hW58 hr62) ml_L_176 cw_addWork st_addWork ini_L hy_addWork (rest := []) rfl rfl (by decide) (by decide) (Nat.le_of_ble_eq_true rfl) (by decide) (by decide) dL_refuses_141 fun x1 G63 z65 hh => ?_
                  obtain ⟨rfl, hW64⟩ := hh
                  show J X 8 G63 z65 9 54 144 [some (.ref (B.1 + 0)), some (.long r1.1), none, some (.int r5), some (.int r7), some (.int r9), some (.int r11), none] [.int r61.1]
                  refine J_ldc hx cn_L_27 dL_refuses_144 ?_
                  refine J_icmp_ne hx 256 dL_refuses_146 rfl (fun h66 => ?_) (fun h66 => ?_)
                  · replace h := neg h h66
                    refine J_iconst hx (0 : Int32) dL_refuses_256 rfl ?_
                    refine J_wide (by decide) (by decide) (show J X 8 G63 z65 18 108 257 [some (.ref (B.1 + 0)), some (.long r1.1), none, some (.int r5), some (.int r7), some (.int r9), some (.int r11), none] [.int (0 : Int32)] from ?_)
                    exact tL_refuses_257 hx hC htr hr _ _ _ _ _ _ _  hW64 h
                  · replace h := pos h h66
                    refine J_al4 hx rfl rfl dL_refuses_149 ?_
                    refine J_il hx rfl dL_refuses_150 ?_
                    obtain ⟨r67, hr68, h⟩ := bnd h
                    refine J_callSW hx (kL_open htr hC hW64 hr68) ml_L_131 cw_open st_open ini_L hy_open (rest := []) rfl rfl (by decide) (by decide) (Nat.le_of_ble_eq_true rfl) (by decide) (by decide) dL_refuses_152 fun x1 G69 z71 hh => ?_
                    obtain ⟨rfl, hW70⟩ := hh
                    show J X 8 G69 z71 10 60 155 [some (.ref (B.1 + 0)), some (.long r1.1), none, some (.int r5), some (.int r7), some (.int r9), some (.int r11), none] [.int r67.1]
                    refine J_ldc hx cn_L_27 dL_refuses_155 ?_
                    refine J_icmp_ne hx 256 dL_refuses_157 rfl (fun h72 => ?_) (fun h72 => ?_)
                    · replace h := neg h h72
                      refine J_iconst hx (0 : Int32) dL_refuses_256 rfl ?_
                      refine J_wide (by decide) (by decide) (show J X 8 G69 z71 18 108 257 [some (.ref (B.1 + 0)), some (.long r1.1), none, some (.int r5), some (.int r7), some (.int r9), some (.int r11), none] [.int (0 : Int32)] from ?_)
                      exact tL_refuses_257 hx hC htr hr _ _ _ _ _ _ _  hW70 h
                    · replace h := pos h h72
                      refine J_al4 hx rfl rfl dL_refuses_160 ?_
                      refine J_iconst hx (-1 : Int32) dL_refuses_161 rfl ?_
                      obtain ⟨r73, hr74, h⟩ := bnd h
                      refine J_callSW hx (kL_close htr hC hW70 hr74) ml_L_136 cw_close st_close ini_L hy_close (rest := []) rfl rfl (by decide) (by decide) (Nat.le_of_ble_eq_true rfl) (by decide) (by decide) dL_refuses_162 fun x1 G75 z77 hh => ?_
                      obtain ⟨rfl, hW76⟩ := hh
                      show J X 8 G75 z77 11 66 165 [some (.ref (B.1 + 0)), some (.long r1.1), none, some (.int r5), some (.int r7), some (.int r9), some (.int r11), none] [.int r73.1]
                      refine J_ldc hx cn_L_27 dL_refuses_165 ?_
                      refine J_icmp_ne hx 256 dL_refuses_167 rfl (fun h78 => ?_) (fun h78 => ?_)
                      · replace h := neg h h78
                        refine J_iconst hx (0 : Int32) dL_refuses_256 rfl ?_
                        refine J_wide (by decide) (by decide) (show J X 8 G75 z77 18 108 257 [some (.ref (B.1 + 0)), some (.long r1.1), none, some (.int r5), some (.int r7), some (.int r9), some (.int r11), none] [.int (0 : Int32)] from ?_)
                        exact tL_refuses_257 hx hC htr hr _ _ _ _ _ _ _  hW76 h
                      · replace h := pos h h78
                        refine J_al4 hx rfl rfl dL_refuses_170 ?_
                        refine J_il hx rfl dL_refuses_171 ?_
                        refine J_il hx rfl dL_refuses_173 ?_
                        obtain ⟨r79, hr80, h⟩ := bnd h
                        refine J_callSW hx (kL_nest htr hC hW76 hr80) ml_L_138 cw_nest st_nest ini_L hy_nest (rest := []) rfl rfl (by decide) (by decide) (Nat.le_of_ble_eq_true rfl) (by decide) (by decide) dL_refuses_175 fun x1 G81 z83 hh => ?_
                        obtain ⟨rfl, hW82⟩ := hh
                        show J X 8 G81 z83 12 72 178 [some (.ref (B.1 + 0)), some (.long r1.1), none, some (.int r5), some (.int r7), some (.int r9), some (.int r11), none] [.int r79.1]
                        refine J_ldc hx cn_L_27 dL_refuses_178 ?_
                        refine J_icmp_ne hx 256 dL_refuses_180 rfl (fun h84 => ?_) (fun h84 => ?_)
                        · replace h := neg h h84
                          refine J_iconst hx (0 : Int32) dL_refuses_256 rfl ?_
                          refine J_wide (by decide) (by decide) (show J X 8 G81 z83 18 108 257 [some (.ref (B.1 + 0)), some (.long r1.1), none, some (.int r5), some (.int r7), some (.int r9), some (.int r11), none] [.int (0 : Int32)] from ?_)
                          exact tL_refuses_257 hx hC htr hr _ _ _ _ _ _ _  hW82 h
                        · replace h := pos h h84
                          refine J_al4 hx rfl rfl dL_refuses_183 ?_
                          refine J_il hx rfl dL_refuses_184 ?_
                          obtain ⟨r85, hr86, h⟩ := bnd h
                          refine J_callSW hx (kL_takeOut htr hC hW82 hr86) ml_L_140 cw_takeOut st_takeOut ini_L hy_takeOut (rest := []) rfl rfl (by decide) (by decide) (Nat.le_of_ble_eq_true rfl) (by decide) (by decide) dL_refuses_186 fun x1 G87 z89 hh => ?_
                          obtain ⟨rfl, hW88⟩ := hh
                          show J X 8 G87 z89 13 78 189 [some (.ref (B.1 + 0)), some (.long r1.1), none, some (.int r5), some (.int r7), some (.int r9), some (.int r11), none] [.int r85.1]
                          refine J_ldc hx cn_L_27 dL_refuses_189 ?_
                          refine J_icmp_ne hx 256 dL_refuses_191 rfl (fun h90 => ?_) (fun h90 => ?_)
                          · replace h := neg h h90
                            refine J_iconst hx (0 : Int32) dL_refuses_256 rfl ?_
                            refine J_wide (by decide) (by decide) (show J X 8 G87 z89 18 108 257 [some (.ref (B.1 + 0)), some (.long r1.1), none, some (.int r5), some (.int r7), some (.int r9), some (.int r11), none] [.int (0 : Int32)] from ?_)
                            exact tL_refuses_257 hx hC htr hr _ _ _ _ _ _ _  hW88 h
                          · replace h := pos h h90
                            refine J_al4 hx rfl rfl dL_refuses_194 ?_
                            refine J_il hx rfl dL_refuses_195 ?_
                            refine J_iconst hx (0 : Int32) dL_refuses_197 rfl ?_
                            obtain ⟨r91, hr92, h⟩ := bnd h
                            refine J_callSW hx (kL_pack htr hC hW88 hr92) ml_L_144 cw_pack st_pack ini_L hy_pack (rest := []) rfl rfl (by decide) (by decide) (Nat.le_of_ble_eq_true rfl) (by decide) (by decide) dL_refuses_198 fun x1 G93 z95 hh => ?_
                            obtain ⟨rfl, hW94⟩ := hh
                            show J X 8 G93 z95 14 84 201 [some (.ref (B.1 + 0)), some (.long r1.1), none, some (.int r5), some (.int r7), some (.int r9), some (.int r11), none] [.int r91.1]
                            refine J_ldc hx cn_L_27 dL_refuses_201 ?_
                            refine J_icmp_ne hx 256 dL_refuses_203 rfl (fun h96 => ?_) (fun h96 => ?_)
                            · replace h := neg h h96
                              refine J_iconst hx (0 : Int32) dL_refuses_256 rfl ?_
                              refine J_wide (by decide) (by decide) (show J X 8 G93 z95 18 108 257 [some (.ref (B.1 + 0)), some (.long r1.1), none, some (.int r5), some (.int r7), some (.int r9), some (.int r11), none] [.int (0 : Int32)] from ?_)
                              exact tL_refuses_257 hx hC htr hr _ _ _ _ _ _ _  hW94 h
                            · replace h := pos h h96
                              refine J_al4 hx rfl rfl dL_refuses_206 ?_
                              refine J_il hx rfl dL_refuses_207 ?_
                              obtain ⟨r97, hr98, h⟩ := bnd h
                              refine J_callSW hx (kL_unpack htr hC hW94 hr98) ml_L_142 cw_unpack st_unpack ini_L hy_unpack (rest := []) rfl rfl (by decide) (by decide) (Nat.le_of_ble_eq_true rfl) (by decide) (by decide) dL_refuses_209 fun x1 G99 z101 hh => ?_
                              obtain ⟨rfl, hW100⟩ := hh
                              show J X 8 G99 z101 15 90 212 [some (.ref (B.1 + 0)), some (.long r1.1), none, some (.int r5), some (.int r7), some (.int r9), some (.int r11), none] [.int r97.1]
                              refine J_ldc hx cn_L_27 dL_refuses_212 ?_
                              refine J_icmp_ne hx 256 dL_refuses_214 rfl (fun h102 => ?_) (fun h102 => ?_)
                              · replace h := neg h h102
                                refine J_iconst hx (0 : Int32) dL_refuses_256 rfl ?_
                                refine J_wide (by decide) (by decide) (show J X 8 G99 z101 18 108 257 [some (.ref (B.1 + 0)), some (.long r1.1), none, some (.int r5), some (.int r7), some (.int r9), some (.int r11), none] [.int (0 : Int32)] from ?_)
                                exact tL_refuses_257 hx hC htr hr _ _ _ _ _ _ _  hW100 h
                              · replace h := pos h h102
                                refine J_al4 hx rfl rfl dL_refuses_217 ?_
                                refine J_il hx rfl dL_refuses_218 ?_
                                refine J_iconst hx (0 : Int32) dL_refuses_220 rfl ?_
                                refine J_iconst hx (-1 : Int32) dL_refuses_221 rfl ?_
                                obtain ⟨r103, hr104, h⟩ := bnd h
                                refine J_callSW hx (kL_send htr hC hW100 hr104) ml_L_151 cw_send st_send ini_L hy_send (rest := []) rfl rfl (by decide) (by decide) (Nat.le_of_ble_eq_true rfl) (by decide) (by decide) dL_refuses_222 fun x1 G105 z107 hh => ?_
                                obtain ⟨rfl, hW106⟩ := hh
                                show J X 8 G105 z107 16 96 225 [some (.ref (B.1 + 0)), some (.long r1.1), none, some (.int r5), some (.int r7), some (.int r9), some (.int r11), none] [.int r103.1]
                                refine J_ldc hx cn_L_27 dL_refuses_225 ?_
                                refine J_icmp_ne hx 256 dL_refuses_227 rfl (fun h108 => ?_) (fun h108 => ?_)
                                · replace h := neg h h108
                                  refine J_iconst hx (0 : Int32) dL_refuses_256 rfl ?_
                                  refine J_wide (by decide) (by decide) (show J X 8 G105 z107 18 108 257 [some (.ref (B.1 + 0)), some (.long r1.1), none, some (.int r5), some (.int r7), some (.int r9), some (.int r11), none] [.int (0 : Int32)] from ?_)
                                  exact tL_refuses_257 hx hC htr hr _ _ _ _ _ _ _  hW106 h
                                · replace h := pos h h108
                                  refine J_al4 hx rfl rfl dL_refuses_230 ?_
                                  refine J_iconst hx (0 : Int32) dL_refuses_231 rfl ?_
                                  obtain ⟨r109, hr110, h⟩ := bnd h
                                  refine J_callSW hx (kL_advance htr hC hW106 hr110) ml_L_153 cw_advance st_advance ini_L hy_advance (rest := []) rfl rfl (by decide) (by decide) (Nat.le_of_ble_eq_true rfl) (by decide) (by decide) dL_refuses_232 fun x1 G111 z113 hh => ?_
                                  obtain ⟨rfl, hW112⟩ := hh
                                  show J X 8 G111 z113 17 102 235 [some (.ref (B.1 + 0)), some (.long r1.1), none, some (.int r5), some (.int r7), some (.int r9), some (.int r11), none] [.int r109.1]
                                  refine J_ldc hx cn_L_17 dL_refuses_235 ?_
                                  refine J_icmp_ne hx 256 dL_refuses_237 rfl (fun h114 => ?_) (fun h114 => ?_)
                                  · replace h := neg h h114
                                    refine J_iconst hx (0 : Int32) dL_refuses_256 rfl ?_
                                    refine J_wide (by decide) (by decide) (show J X 8 G111 z113 18 108 257 [some (.ref (B.1 + 0)), some (.long r1.1), none, some (.int r5), some (.int r7), some (.int r9), some (.int r11), none] [.int (0 : Int32)] from ?_)
                                    exact tL_refuses_257 hx hC htr hr _ _ _ _ _ _ _  hW112 h
                                  · replace h := pos h h114
                                    refine J_al4 hx rfl rfl dL_refuses_240 ?_
                                    refine J_sipush hx (241 : Int32) dL_refuses_241 rfl ?_
                                    obtain ⟨r115, hr116, h⟩ := bnd h
                                    refine J_callSW hx (kL_advance htr hC hW112 hr116) ml_L_153 cw_advance st_advance ini_L hy_advance (rest := []) rfl rfl (by decide) (by decide) (Nat.le_of_ble_eq_true rfl) (by decide) (by decide) dL_refuses_244 fun x1 G117 z119 hh => ?_
                                    obtain ⟨rfl, hW118⟩ := hh
                                    show J X 8 G117 z119 18 108 247 [some (.ref (B.1 + 0)), some (.long r1.1), none, some (.int r5), some (.int r7), some (.int r9), some (.int r11), none] [.int r115.1]
                                    refine J_ldc hx cn_L_17 dL_refuses_247 ?_
                                    refine J_icmp_ne hx 256 dL_refuses_249 rfl (fun h120 => ?_) (fun h120 => ?_)
                                    · replace h := neg h h120
                                      refine J_iconst hx (0 : Int32) dL_refuses_256 rfl ?_
                                      exact tL_refuses_257 hx hC htr hr _ _ _ _ _ _ _  hW118 h
                                    · replace h := pos h h120
                                      refine J_iconst hx (1 : Int32) dL_refuses_252 rfl ?_
                                      refine J_goto hx 257 dL_refuses_253 rfl ?_
                                      exact tL_refuses_257 hx hC htr hr _ _ _ _ _ _ _  hW118 h
theorem dL_sound_0 : decode cL_sound 0 = .ok (.aload_n 0, 1) := by decide +kernel
theorem dL_sound_1 : decode cL_sound 1 = .ok (.iconst 2, 1) := by decide +kernel
theorem dL_sound_2 : decode cL_sound 2 = .ok (.invokestatic 110, 3) := by decide +kernel
theorem dL_sound_5 : decode cL_sound 5 = .ok (.istore_n 1, 1) := by decide +kernel
theorem dL_sound_6 : decode cL_sound 6 = .ok (.aload_n 0, 1) := by decide +kernel
theorem dL_sound_7 : decode cL_sound 7 = .ok (.iconst 3, 1) := by decide +kernel
theorem dL_sound_8 : decode cL_sound 8 = .ok (.invokestatic 110, 3) := by decide +kernel
theorem dL_sound_11 : decode cL_sound 11 = .ok (.istore_n 2, 1) := by decide +kernel
theorem dL_sound_12 : decode cL_sound 12 = .ok (.iconst 0, 1) := by decide +kernel
theorem dL_sound_13 : decode cL_sound 13 = .ok (.istore_n 3, 1) := by decide +kernel
theorem dL_sound_14 : decode cL_sound 14 = .ok (.iconst 0, 1) := by decide +kernel
theorem dL_sound_15 : decode cL_sound 15 = .ok (.istore 4, 2) := by decide +kernel
theorem dL_sound_17 : decode cL_sound 17 = .ok (.iconst 0, 1) := by decide +kernel
theorem dL_sound_18 : decode cL_sound 18 = .ok (.istore 5, 2) := by decide +kernel
theorem dL_sound_20 : decode cL_sound 20 = .ok (.iconst 0, 1) := by decide +kernel
theorem dL_sound_21 : decode cL_sound 21 = .ok (.istore 6, 2) := by decide +kernel
theorem dL_sound_23 : decode cL_sound 23 = .ok (.iconst 0, 1) := by decide +kernel
theorem dL_sound_24 : decode cL_sound 24 = .ok (.istore 7, 2) := by decide +kernel
theorem dL_sound_26 : decode cL_sound 26 = .ok (.iload 7, 2) := by decide +kernel
theorem dL_sound_28 : decode cL_sound 28 = .ok (.iload_n 2, 1) := by decide +kernel
theorem dL_sound_29 : decode cL_sound 29 = .ok (.if_icmp .ge 215, 3) := by decide +kernel
theorem dL_sound_32 : decode cL_sound 32 = .ok (.aload_n 0, 1) := by decide +kernel
theorem dL_sound_33 : decode cL_sound 33 = .ok (.iload 7, 2) := by decide +kernel
theorem dL_sound_35 : decode cL_sound 35 = .ok (.iconst 4, 1) := by decide +kernel
theorem dL_sound_36 : decode cL_sound 36 = .ok (.invokestatic 115, 3) := by decide +kernel
theorem dL_sound_39 : decode cL_sound 39 = .ok (.istore 8, 2) := by decide +kernel
theorem dL_sound_41 : decode cL_sound 41 = .ok (.aload_n 0, 1) := by decide +kernel
theorem dL_sound_42 : decode cL_sound 42 = .ok (.iload 7, 2) := by decide +kernel
theorem dL_sound_44 : decode cL_sound 44 = .ok (.iconst 5, 1) := by decide +kernel
theorem dL_sound_45 : decode cL_sound 45 = .ok (.invokestatic 115, 3) := by decide +kernel
theorem dL_sound_48 : decode cL_sound 48 = .ok (.istore 9, 2) := by decide +kernel
theorem dL_sound_50 : decode cL_sound 50 = .ok (.iload 4, 2) := by decide +kernel
theorem dL_sound_52 : decode cL_sound 52 = .ok (.iload 9, 2) := by decide +kernel
theorem dL_sound_54 : decode cL_sound 54 = .ok (.iconst (-1), 1) := by decide +kernel
theorem dL_sound_55 : decode cL_sound 55 = .ok (.if_icmp .ne 7, 3) := by decide +kernel
theorem dL_sound_58 : decode cL_sound 58 = .ok (.iconst 1, 1) := by decide +kernel
theorem dL_sound_59 : decode cL_sound 59 = .ok (.goto 4, 3) := by decide +kernel
theorem dL_sound_62 : decode cL_sound 62 = .ok (.iconst 0, 1) := by decide +kernel
theorem dL_sound_63 : decode cL_sound 63 = .ok (.iadd, 1) := by decide +kernel
theorem dL_sound_64 : decode cL_sound 64 = .ok (.istore 4, 2) := by decide +kernel
theorem dL_sound_66 : decode cL_sound 66 = .ok (.iload 5, 2) := by decide +kernel
theorem dL_sound_68 : decode cL_sound 68 = .ok (.aload_n 0, 1) := by decide +kernel
theorem dL_sound_69 : decode cL_sound 69 = .ok (.iload 7, 2) := by decide +kernel
theorem dL_sound_71 : decode cL_sound 71 = .ok (.bipush 7, 2) := by decide +kernel
theorem dL_sound_73 : decode cL_sound 73 = .ok (.invokestatic 115, 3) := by decide +kernel
theorem dL_sound_76 : decode cL_sound 76 = .ok (.iadd, 1) := by decide +kernel
theorem dL_sound_77 : decode cL_sound 77 = .ok (.istore 5, 2) := by decide +kernel
theorem dL_sound_79 : decode cL_sound 79 = .ok (.iload 6, 2) := by decide +kernel
theorem dL_sound_81 : decode cL_sound 81 = .ok (.aload_n 0, 1) := by decide +kernel
theorem dL_sound_82 : decode cL_sound 82 = .ok (.iload 7, 2) := by decide +kernel
theorem dL_sound_84 : decode cL_sound 84 = .ok (.iconst 1, 1) := by decide +kernel
theorem dL_sound_85 : decode cL_sound 85 = .ok (.invokestatic 115, 3) := by decide +kernel
theorem dL_sound_88 : decode cL_sound 88 = .ok (.iadd, 1) := by decide +kernel
theorem dL_sound_89 : decode cL_sound 89 = .ok (.istore 6, 2) := by decide +kernel
theorem dL_sound_91 : decode cL_sound 91 = .ok (.iconst 0, 1) := by decide +kernel
theorem dL_sound_92 : decode cL_sound 92 = .ok (.istore 10, 2) := by decide +kernel
theorem dL_sound_94 : decode cL_sound 94 = .ok (.iconst 0, 1) := by decide +kernel
theorem dL_sound_95 : decode cL_sound 95 = .ok (.istore 11, 2) := by decide +kernel
theorem dL_sound_97 : decode cL_sound 97 = .ok (.iload 8, 2) := by decide +kernel
theorem dL_sound_99 : decode cL_sound 99 = .ok (.istore 12, 2) := by decide +kernel
theorem dL_sound_101 : decode cL_sound 101 = .ok (.iload 12, 2) := by decide +kernel
theorem dL_sound_103 : decode cL_sound 103 = .ok (.ifCond .lt 40, 3) := by decide +kernel
theorem dL_sound_106 : decode cL_sound 106 = .ok (.iinc 10 1, 3) := by decide +kernel
theorem dL_sound_109 : decode cL_sound 109 = .ok (.iload 11, 2) := by decide +kernel
theorem dL_sound_111 : decode cL_sound 111 = .ok (.ifCond .ne 13, 3) := by decide +kernel
theorem dL_sound_114 : decode cL_sound 114 = .ok (.aload_n 0, 1) := by decide +kernel
theorem dL_sound_115 : decode cL_sound 115 = .ok (.iload 12, 2) := by decide +kernel
theorem dL_sound_117 : decode cL_sound 117 = .ok (.iconst 1, 1) := by decide +kernel
theorem dL_sound_118 : decode cL_sound 118 = .ok (.invokestatic 118, 3) := by decide +kernel
theorem dL_sound_121 : decode cL_sound 121 = .ok (.ifCond .ne 7, 3) := by decide +kernel
theorem dL_sound_124 : decode cL_sound 124 = .ok (.iconst 1, 1) := by decide +kernel
theorem dL_sound_125 : decode cL_sound 125 = .ok (.goto 4, 3) := by decide +kernel
theorem dL_sound_128 : decode cL_sound 128 = .ok (.iconst 0, 1) := by decide +kernel
theorem dL_sound_129 : decode cL_sound 129 = .ok (.istore 11, 2) := by decide +kernel
theorem dL_sound_131 : decode cL_sound 131 = .ok (.aload_n 0, 1) := by decide +kernel
theorem dL_sound_132 : decode cL_sound 132 = .ok (.iload 12, 2) := by decide +kernel
theorem dL_sound_134 : decode cL_sound 134 = .ok (.iconst 2, 1) := by decide +kernel
theorem dL_sound_135 : decode cL_sound 135 = .ok (.invokestatic 118, 3) := by decide +kernel
theorem dL_sound_138 : decode cL_sound 138 = .ok (.istore 12, 2) := by decide +kernel
theorem dL_sound_140 : decode cL_sound 140 = .ok (.goto (-39), 3) := by decide +kernel
theorem dL_sound_143 : decode cL_sound 143 = .ok (.aload_n 0, 1) := by decide +kernel
theorem dL_sound_144 : decode cL_sound 144 = .ok (.iload 7, 2) := by decide +kernel
theorem dL_sound_146 : decode cL_sound 146 = .ok (.invokestatic 120, 3) := by decide +kernel
theorem dL_sound_149 : decode cL_sound 149 = .ok (.istore 13, 2) := by decide +kernel
theorem dL_sound_151 : decode cL_sound 151 = .ok (.aload_n 0, 1) := by decide +kernel
theorem dL_sound_152 : decode cL_sound 152 = .ok (.iload 7, 2) := by decide +kernel
theorem dL_sound_154 : decode cL_sound 154 = .ok (.bipush 6, 2) := by decide +kernel
theorem dL_sound_156 : decode cL_sound 156 = .ok (.invokestatic 115, 3) := by decide +kernel
theorem dL_sound_159 : decode cL_sound 159 = .ok (.iload 10, 2) := by decide +kernel
theorem dL_sound_161 : decode cL_sound 161 = .ok (.if_icmp .ne 75, 3) := by decide +kernel
theorem dL_sound_164 : decode cL_sound 164 = .ok (.aload_n 0, 1) := by decide +kernel
theorem dL_sound_165 : decode cL_sound 165 = .ok (.iload 7, 2) := by decide +kernel
theorem dL_sound_167 : decode cL_sound 167 = .ok (.iconst 2, 1) := by decide +kernel
theorem dL_sound_168 : decode cL_sound 168 = .ok (.invokestatic 115, 3) := by decide +kernel
theorem dL_sound_171 : decode cL_sound 171 = .ok (.ifCond .lt 65, 3) := by decide +kernel
theorem dL_sound_174 : decode cL_sound 174 = .ok (.iload 8, 2) := by decide +kernel
theorem dL_sound_176 : decode cL_sound 176 = .ok (.ifCond .lt 15, 3) := by decide +kernel
theorem dL_sound_179 : decode cL_sound 179 = .ok (.iload 9, 2) := by decide +kernel
theorem dL_sound_181 : decode cL_sound 181 = .ok (.aload_n 0, 1) := by decide +kernel
theorem dL_sound_182 : decode cL_sound 182 = .ok (.iload 8, 2) := by decide +kernel
theorem dL_sound_184 : decode cL_sound 184 = .ok (.iconst 3, 1) := by decide +kernel
theorem dL_sound_185 : decode cL_sound 185 = .ok (.invokestatic 118, 3) := by decide +kernel
theorem dL_sound_188 : decode cL_sound 188 = .ok (.if_icmp .ne 48, 3) := by decide +kernel
theorem dL_sound_191 : decode cL_sound 191 = .ok (.iload 8, 2) := by decide +kernel
theorem dL_sound_193 : decode cL_sound 193 = .ok (.ifCond .ge 8, 3) := by decide +kernel
theorem dL_sound_196 : decode cL_sound 196 = .ok (.iload 9, 2) := by decide +kernel
theorem dL_sound_198 : decode cL_sound 198 = .ok (.ifCond .lt 38, 3) := by decide +kernel
theorem dL_sound_201 : decode cL_sound 201 = .ok (.iload 13, 2) := by decide +kernel
theorem dL_sound_203 : decode cL_sound 203 = .ok (.aload_n 0, 1) := by decide +kernel
theorem dL_sound_204 : decode cL_sound 204 = .ok (.iconst 0, 1) := by decide +kernel
theorem dL_sound_205 : decode cL_sound 205 = .ok (.invokestatic 110, 3) := by decide +kernel
theorem dL_sound_208 : decode cL_sound 208 = .ok (.if_icmp .lt 28, 3) := by decide +kernel
theorem dL_sound_211 : decode cL_sound 211 = .ok (.iload 11, 2) := by decide +kernel
theorem dL_sound_213 : decode cL_sound 213 = .ok (.ifCond .ne 13, 3) := by decide +kernel
theorem dL_sound_216 : decode cL_sound 216 = .ok (.iload 13, 2) := by decide +kernel
theorem dL_sound_218 : decode cL_sound 218 = .ok (.aload_n 0, 1) := by decide +kernel
theorem dL_sound_219 : decode cL_sound 219 = .ok (.iconst 0, 1) := by decide +kernel
theorem dL_sound_220 : decode cL_sound 220 = .ok (.invokestatic 110, 3) := by decide +kernel
theorem dL_sound_223 : decode cL_sound 223 = .ok (.if_icmp .ne 13, 3) := by decide +kernel
theorem dL_sound_226 : decode cL_sound 226 = .ok (.iload 9, 2) := by decide +kernel
theorem dL_sound_228 : decode cL_sound 228 = .ok (.aload_n 0, 1) := by decide +kernel
theorem dL_sound_229 : decode cL_sound 229 = .ok (.iconst 1, 1) := by decide +kernel
theorem dL_sound_230 : decode cL_sound 230 = .ok (.invokestatic 110, 3) := by decide +kernel
theorem dL_sound_233 : decode cL_sound 233 = .ok (.if_icmp .lt 5, 3) := by decide +kernel
theorem dL_sound_236 : decode cL_sound 236 = .ok (.iconst 0, 1) := by decide +kernel
theorem dL_sound_237 : decode cL_sound 237 = .ok (.ireturn, 1) := by decide +kernel
theorem dL_sound_238 : decode cL_sound 238 = .ok (.iinc 7 1, 3) := by decide +kernel
theorem dL_sound_241 : decode cL_sound 241 = .ok (.goto (-215), 3) := by decide +kernel
theorem dL_sound_244 : decode cL_sound 244 = .ok (.iconst 0, 1) := by decide +kernel
theorem dL_sound_245 : decode cL_sound 245 = .ok (.istore 7, 2) := by decide +kernel
theorem dL_sound_247 : decode cL_sound 247 = .ok (.iload 7, 2) := by decide +kernel
theorem dL_sound_249 : decode cL_sound 249 = .ok (.iload_n 1, 1) := by decide +kernel
theorem dL_sound_250 : decode cL_sound 250 = .ok (.if_icmp .ge 551, 3) := by decide +kernel
theorem dL_sound_253 : decode cL_sound 253 = .ok (.aload_n 0, 1) := by decide +kernel
theorem dL_sound_254 : decode cL_sound 254 = .ok (.iload 7, 2) := by decide +kernel
theorem dL_sound_256 : decode cL_sound 256 = .ok (.iconst 2, 1) := by decide +kernel
theorem dL_sound_257 : decode cL_sound 257 = .ok (.invokestatic 118, 3) := by decide +kernel
theorem dL_sound_260 : decode cL_sound 260 = .ok (.istore 8, 2) := by decide +kernel
theorem dL_sound_262 : decode cL_sound 262 = .ok (.iconst 0, 1) := by decide +kernel
theorem dL_sound_263 : decode cL_sound 263 = .ok (.istore 9, 2) := by decide +kernel
theorem dL_sound_265 : decode cL_sound 265 = .ok (.iconst 0, 1) := by decide +kernel
theorem dL_sound_266 : decode cL_sound 266 = .ok (.istore 10, 2) := by decide +kernel
theorem dL_sound_268 : decode cL_sound 268 = .ok (.iconst 0, 1) := by decide +kernel
theorem dL_sound_269 : decode cL_sound 269 = .ok (.istore 11, 2) := by decide +kernel
theorem dL_sound_271 : decode cL_sound 271 = .ok (.iconst (-1), 1) := by decide +kernel
theorem dL_sound_272 : decode cL_sound 272 = .ok (.istore 12, 2) := by decide +kernel
theorem dL_sound_274 : decode cL_sound 274 = .ok (.iconst 0, 1) := by decide +kernel
theorem dL_sound_275 : decode cL_sound 275 = .ok (.istore 13, 2) := by decide +kernel
theorem dL_sound_277 : decode cL_sound 277 = .ok (.iload 13, 2) := by decide +kernel
theorem dL_sound_279 : decode cL_sound 279 = .ok (.iload_n 2, 1) := by decide +kernel
theorem dL_sound_280 : decode cL_sound 280 = .ok (.if_icmp .ge 88, 3) := by decide +kernel
theorem dL_sound_283 : decode cL_sound 283 = .ok (.aload_n 0, 1) := by decide +kernel
theorem dL_sound_284 : decode cL_sound 284 = .ok (.iload 13, 2) := by decide +kernel
theorem dL_sound_286 : decode cL_sound 286 = .ok (.iconst 4, 1) := by decide +kernel
theorem dL_sound_287 : decode cL_sound 287 = .ok (.invokestatic 115, 3) := by decide +kernel
theorem dL_sound_290 : decode cL_sound 290 = .ok (.istore 14, 2) := by decide +kernel
theorem dL_sound_292 : decode cL_sound 292 = .ok (.iload 14, 2) := by decide +kernel
theorem dL_sound_294 : decode cL_sound 294 = .ok (.ifCond .lt 22, 3) := by decide +kernel
theorem dL_sound_297 : decode cL_sound 297 = .ok (.iload 14, 2) := by decide +kernel
theorem dL_sound_299 : decode cL_sound 299 = .ok (.iload 7, 2) := by decide +kernel
theorem dL_sound_301 : decode cL_sound 301 = .ok (.if_icmp .eq 15, 3) := by decide +kernel
theorem dL_sound_304 : decode cL_sound 304 = .ok (.aload_n 0, 1) := by decide +kernel
theorem dL_sound_305 : decode cL_sound 305 = .ok (.iload 14, 2) := by decide +kernel
theorem dL_sound_307 : decode cL_sound 307 = .ok (.iconst 2, 1) := by decide +kernel
theorem dL_sound_308 : decode cL_sound 308 = .ok (.invokestatic 118, 3) := by decide +kernel
theorem dL_sound_311 : decode cL_sound 311 = .ok (.istore 14, 2) := by decide +kernel
theorem dL_sound_313 : decode cL_sound 313 = .ok (.goto (-21), 3) := by decide +kernel
theorem dL_sound_316 : decode cL_sound 316 = .ok (.iload 14, 2) := by decide +kernel
theorem dL_sound_318 : decode cL_sound 318 = .ok (.iload 7, 2) := by decide +kernel
theorem dL_sound_320 : decode cL_sound 320 = .ok (.if_icmp .ne 42, 3) := by decide +kernel
theorem dL_sound_323 : decode cL_sound 323 = .ok (.iinc 9 1, 3) := by decide +kernel
theorem dL_sound_326 : decode cL_sound 326 = .ok (.iload 10, 2) := by decide +kernel
theorem dL_sound_328 : decode cL_sound 328 = .ok (.aload_n 0, 1) := by decide +kernel
theorem dL_sound_329 : decode cL_sound 329 = .ok (.iload 13, 2) := by decide +kernel
theorem dL_sound_331 : decode cL_sound 331 = .ok (.iconst 1, 1) := by decide +kernel
theorem dL_sound_332 : decode cL_sound 332 = .ok (.invokestatic 115, 3) := by decide +kernel
theorem dL_sound_335 : decode cL_sound 335 = .ok (.iadd, 1) := by decide +kernel
theorem dL_sound_336 : decode cL_sound 336 = .ok (.istore 10, 2) := by decide +kernel
theorem dL_sound_338 : decode cL_sound 338 = .ok (.aload_n 0, 1) := by decide +kernel
theorem dL_sound_339 : decode cL_sound 339 = .ok (.iload 13, 2) := by decide +kernel
theorem dL_sound_341 : decode cL_sound 341 = .ok (.invokestatic 120, 3) := by decide +kernel
theorem dL_sound_344 : decode cL_sound 344 = .ok (.iload 12, 2) := by decide +kernel
theorem dL_sound_346 : decode cL_sound 346 = .ok (.if_icmp .le 12, 3) := by decide +kernel
theorem dL_sound_349 : decode cL_sound 349 = .ok (.aload_n 0, 1) := by decide +kernel
theorem dL_sound_350 : decode cL_sound 350 = .ok (.iload 13, 2) := by decide +kernel
theorem dL_sound_352 : decode cL_sound 352 = .ok (.invokestatic 120, 3) := by decide +kernel
theorem dL_sound_355 : decode cL_sound 355 = .ok (.goto 5, 3) := by decide +kernel
theorem dL_sound_358 : decode cL_sound 358 = .ok (.iload 12, 2) := by decide +kernel
theorem dL_sound_360 : decode cL_sound 360 = .ok (.istore 12, 2) := by decide +kernel
theorem dL_sound_362 : decode cL_sound 362 = .ok (.iinc 13 1, 3) := by decide +kernel
theorem dL_sound_365 : decode cL_sound 365 = .ok (.goto (-88), 3) := by decide +kernel
theorem dL_sound_368 : decode cL_sound 368 = .ok (.iconst 0, 1) := by decide +kernel
theorem dL_sound_369 : decode cL_sound 369 = .ok (.istore 13, 2) := by decide +kernel
theorem dL_sound_371 : decode cL_sound 371 = .ok (.iload 13, 2) := by decide +kernel
theorem dL_sound_373 : decode cL_sound 373 = .ok (.iload_n 1, 1) := by decide +kernel
theorem dL_sound_374 : decode cL_sound 374 = .ok (.if_icmp .ge 59, 3) := by decide +kernel
theorem dL_sound_377 : decode cL_sound 377 = .ok (.aload_n 0, 1) := by decide +kernel
theorem dL_sound_378 : decode cL_sound 378 = .ok (.iload 13, 2) := by decide +kernel
theorem dL_sound_380 : decode cL_sound 380 = .ok (.iconst 2, 1) := by decide +kernel
theorem dL_sound_381 : decode cL_sound 381 = .ok (.invokestatic 118, 3) := by decide +kernel
theorem dL_sound_384 : decode cL_sound 384 = .ok (.istore 14, 2) := by decide +kernel
theorem dL_sound_386 : decode cL_sound 386 = .ok (.iload 14, 2) := by decide +kernel
theorem dL_sound_388 : decode cL_sound 388 = .ok (.ifCond .lt 22, 3) := by decide +kernel
theorem dL_sound_391 : decode cL_sound 391 = .ok (.iload 14, 2) := by decide +kernel
theorem dL_sound_393 : decode cL_sound 393 = .ok (.iload 7, 2) := by decide +kernel
theorem dL_sound_395 : decode cL_sound 395 = .ok (.if_icmp .eq 15, 3) := by decide +kernel
theorem dL_sound_398 : decode cL_sound 398 = .ok (.aload_n 0, 1) := by decide +kernel
theorem dL_sound_399 : decode cL_sound 399 = .ok (.iload 14, 2) := by decide +kernel
theorem dL_sound_401 : decode cL_sound 401 = .ok (.iconst 2, 1) := by decide +kernel
theorem dL_sound_402 : decode cL_sound 402 = .ok (.invokestatic 118, 3) := by decide +kernel
theorem dL_sound_405 : decode cL_sound 405 = .ok (.istore 14, 2) := by decide +kernel
theorem dL_sound_407 : decode cL_sound 407 = .ok (.goto (-21), 3) := by decide +kernel
theorem dL_sound_410 : decode cL_sound 410 = .ok (.iload 11, 2) := by decide +kernel
theorem dL_sound_412 : decode cL_sound 412 = .ok (.iload 14, 2) := by decide +kernel
theorem dL_sound_414 : decode cL_sound 414 = .ok (.iload 7, 2) := by decide +kernel
theorem dL_sound_416 : decode cL_sound 416 = .ok (.if_icmp .ne 7, 3) := by decide +kernel
theorem dL_sound_419 : decode cL_sound 419 = .ok (.iconst 1, 1) := by decide +kernel
theorem dL_sound_420 : decode cL_sound 420 = .ok (.goto 4, 3) := by decide +kernel
theorem dL_sound_423 : decode cL_sound 423 = .ok (.iconst 0, 1) := by decide +kernel
theorem dL_sound_424 : decode cL_sound 424 = .ok (.iadd, 1) := by decide +kernel
theorem dL_sound_425 : decode cL_sound 425 = .ok (.istore 11, 2) := by decide +kernel
theorem dL_sound_427 : decode cL_sound 427 = .ok (.iinc 13 1, 3) := by decide +kernel
theorem dL_sound_430 : decode cL_sound 430 = .ok (.goto (-59), 3) := by decide +kernel
theorem dL_sound_433 : decode cL_sound 433 = .ok (.aload_n 0, 1) := by decide +kernel
theorem dL_sound_434 : decode cL_sound 434 = .ok (.iload 7, 2) := by decide +kernel
theorem dL_sound_436 : decode cL_sound 436 = .ok (.iconst 1, 1) := by decide +kernel
theorem dL_sound_437 : decode cL_sound 437 = .ok (.invokestatic 118, 3) := by decide +kernel
theorem dL_sound_440 : decode cL_sound 440 = .ok (.iconst 1, 1) := by decide +kernel
theorem dL_sound_441 : decode cL_sound 441 = .ok (.if_icmp .ne 7, 3) := by decide +kernel
theorem dL_sound_444 : decode cL_sound 444 = .ok (.iconst 1, 1) := by decide +kernel
theorem dL_sound_445 : decode cL_sound 445 = .ok (.goto 4, 3) := by decide +kernel
theorem dL_sound_448 : decode cL_sound 448 = .ok (.iconst 0, 1) := by decide +kernel
theorem dL_sound_449 : decode cL_sound 449 = .ok (.istore 13, 2) := by decide +kernel
theorem dL_sound_451 : decode cL_sound 451 = .ok (.aload_n 0, 1) := by decide +kernel
theorem dL_sound_452 : decode cL_sound 452 = .ok (.iload 7, 2) := by decide +kernel
theorem dL_sound_454 : decode cL_sound 454 = .ok (.iconst 3, 1) := by decide +kernel
theorem dL_sound_455 : decode cL_sound 455 = .ok (.invokestatic 118, 3) := by decide +kernel
theorem dL_sound_458 : decode cL_sound 458 = .ok (.iconst (-1), 1) := by decide +kernel
theorem dL_sound_459 : decode cL_sound 459 = .ok (.if_icmp .ne 7, 3) := by decide +kernel
theorem dL_sound_462 : decode cL_sound 462 = .ok (.iconst 1, 1) := by decide +kernel
theorem dL_sound_463 : decode cL_sound 463 = .ok (.goto 4, 3) := by decide +kernel
theorem dL_sound_466 : decode cL_sound 466 = .ok (.iconst 0, 1) := by decide +kernel
theorem dL_sound_467 : decode cL_sound 467 = .ok (.istore 14, 2) := by decide +kernel
theorem dL_sound_469 : decode cL_sound 469 = .ok (.aload_n 0, 1) := by decide +kernel
theorem dL_sound_470 : decode cL_sound 470 = .ok (.iload 7, 2) := by decide +kernel
theorem dL_sound_472 : decode cL_sound 472 = .ok (.bipush 13, 2) := by decide +kernel
theorem dL_sound_474 : decode cL_sound 474 = .ok (.invokestatic 118, 3) := by decide +kernel
theorem dL_sound_477 : decode cL_sound 477 = .ok (.iconst 1, 1) := by decide +kernel
theorem dL_sound_478 : decode cL_sound 478 = .ok (.if_icmp .ne 7, 3) := by decide +kernel
theorem dL_sound_481 : decode cL_sound 481 = .ok (.iconst 1, 1) := by decide +kernel
theorem dL_sound_482 : decode cL_sound 482 = .ok (.goto 4, 3) := by decide +kernel
theorem dL_sound_485 : decode cL_sound 485 = .ok (.iconst 0, 1) := by decide +kernel
theorem dL_sound_486 : decode cL_sound 486 = .ok (.istore 15, 2) := by decide +kernel
theorem dL_sound_488 : decode cL_sound 488 = .ok (.iload_n 3, 1) := by decide +kernel
theorem dL_sound_489 : decode cL_sound 489 = .ok (.iload 13, 2) := by decide +kernel
theorem dL_sound_491 : decode cL_sound 491 = .ok (.ifCond .eq 7, 3) := by decide +kernel
theorem dL_sound_494 : decode cL_sound 494 = .ok (.iconst 1, 1) := by decide +kernel
theorem dL_sound_495 : decode cL_sound 495 = .ok (.goto 4, 3) := by decide +kernel
theorem dL_sound_498 : decode cL_sound 498 = .ok (.iconst 0, 1) := by decide +kernel
theorem dL_sound_499 : decode cL_sound 499 = .ok (.iadd, 1) := by decide +kernel
theorem dL_sound_500 : decode cL_sound 500 = .ok (.istore_n 3, 1) := by decide +kernel
theorem dL_sound_501 : decode cL_sound 501 = .ok (.aload_n 0, 1) := by decide +kernel
theorem dL_sound_502 : decode cL_sound 502 = .ok (.iload 7, 2) := by decide +kernel
theorem dL_sound_504 : decode cL_sound 504 = .ok (.bipush 10, 2) := by decide +kernel
theorem dL_sound_506 : decode cL_sound 506 = .ok (.invokestatic 118, 3) := by decide +kernel
theorem dL_sound_509 : decode cL_sound 509 = .ok (.iload 9, 2) := by decide +kernel
theorem dL_sound_511 : decode cL_sound 511 = .ok (.if_icmp .ne 162, 3) := by decide +kernel
theorem dL_sound_514 : decode cL_sound 514 = .ok (.aload_n 0, 1) := by decide +kernel
theorem dL_sound_515 : decode cL_sound 515 = .ok (.iload 7, 2) := by decide +kernel
theorem dL_sound_517 : decode cL_sound 517 = .ok (.bipush 12, 2) := by decide +kernel
theorem dL_sound_519 : decode cL_sound 519 = .ok (.invokestatic 118, 3) := by decide +kernel
theorem dL_sound_522 : decode cL_sound 522 = .ok (.iload 10, 2) := by decide +kernel
theorem dL_sound_524 : decode cL_sound 524 = .ok (.if_icmp .ne 149, 3) := by decide +kernel
theorem dL_sound_527 : decode cL_sound 527 = .ok (.aload_n 0, 1) := by decide +kernel
theorem dL_sound_528 : decode cL_sound 528 = .ok (.iload 7, 2) := by decide +kernel
theorem dL_sound_530 : decode cL_sound 530 = .ok (.bipush 11, 2) := by decide +kernel
theorem dL_sound_532 : decode cL_sound 532 = .ok (.invokestatic 118, 3) := by decide +kernel
theorem dL_sound_535 : decode cL_sound 535 = .ok (.iload 11, 2) := by decide +kernel
theorem dL_sound_537 : decode cL_sound 537 = .ok (.if_icmp .ne 136, 3) := by decide +kernel
theorem dL_sound_540 : decode cL_sound 540 = .ok (.aload_n 0, 1) := by decide +kernel
theorem dL_sound_541 : decode cL_sound 541 = .ok (.iload 7, 2) := by decide +kernel
theorem dL_sound_543 : decode cL_sound 543 = .ok (.invokestatic 122, 3) := by decide +kernel
theorem dL_sound_546 : decode cL_sound 546 = .ok (.iload 12, 2) := by decide +kernel
theorem dL_sound_548 : decode cL_sound 548 = .ok (.if_icmp .ne 125, 3) := by decide +kernel
theorem dL_sound_551 : decode cL_sound 551 = .ok (.iload 13, 2) := by decide +kernel
theorem dL_sound_553 : decode cL_sound 553 = .ok (.ifCond .eq 8, 3) := by decide +kernel
theorem dL_sound_556 : decode cL_sound 556 = .ok (.iload 15, 2) := by decide +kernel
theorem dL_sound_558 : decode cL_sound 558 = .ok (.ifCond .eq 115, 3) := by decide +kernel
theorem dL_sound_561 : decode cL_sound 561 = .ok (.iload 14, 2) := by decide +kernel
theorem dL_sound_563 : decode cL_sound 563 = .ok (.ifCond .eq 8, 3) := by decide +kernel
theorem dL_sound_566 : decode cL_sound 566 = .ok (.iload 15, 2) := by decide +kernel
theorem dL_sound_568 : decode cL_sound 568 = .ok (.ifCond .ne 105, 3) := by decide +kernel
theorem dL_sound_571 : decode cL_sound 571 = .ok (.iload 14, 2) := by decide +kernel
theorem dL_sound_573 : decode cL_sound 573 = .ok (.aload_n 0, 1) := by decide +kernel
theorem dL_sound_574 : decode cL_sound 574 = .ok (.iload 7, 2) := by decide +kernel
theorem dL_sound_576 : decode cL_sound 576 = .ok (.iconst 4, 1) := by decide +kernel
theorem dL_sound_577 : decode cL_sound 577 = .ok (.invokestatic 118, 3) := by decide +kernel
theorem dL_sound_580 : decode cL_sound 580 = .ok (.ifCond .lt 7, 3) := by decide +kernel
theorem dL_sound_583 : decode cL_sound 583 = .ok (.iconst 1, 1) := by decide +kernel
theorem dL_sound_584 : decode cL_sound 584 = .ok (.goto 4, 3) := by decide +kernel
theorem dL_sound_587 : decode cL_sound 587 = .ok (.iconst 0, 1) := by decide +kernel
theorem dL_sound_588 : decode cL_sound 588 = .ok (.if_icmp .ne 85, 3) := by decide +kernel
theorem dL_sound_591 : decode cL_sound 591 = .ok (.iload 14, 2) := by decide +kernel
theorem dL_sound_593 : decode cL_sound 593 = .ok (.aload_n 0, 1) := by decide +kernel
theorem dL_sound_594 : decode cL_sound 594 = .ok (.iload 7, 2) := by decide +kernel
theorem dL_sound_596 : decode cL_sound 596 = .ok (.iconst 5, 1) := by decide +kernel
theorem dL_sound_597 : decode cL_sound 597 = .ok (.invokestatic 118, 3) := by decide +kernel
theorem dL_sound_600 : decode cL_sound 600 = .ok (.aload_n 0, 1) := by decide +kernel
theorem dL_sound_601 : decode cL_sound 601 = .ok (.iconst 0, 1) := by decide +kernel
theorem dL_sound_602 : decode cL_sound 602 = .ok (.invokestatic 110, 3) := by decide +kernel
theorem dL_sound_605 : decode cL_sound 605 = .ok (.if_icmp .le 7, 3) := by decide +kernel
theorem dL_sound_608 : decode cL_sound 608 = .ok (.iconst 1, 1) := by decide +kernel
theorem dL_sound_609 : decode cL_sound 609 = .ok (.goto 4, 3) := by decide +kernel
theorem dL_sound_612 : decode cL_sound 612 = .ok (.iconst 0, 1) := by decide +kernel
theorem dL_sound_613 : decode cL_sound 613 = .ok (.if_icmp .ne 60, 3) := by decide +kernel
theorem dL_sound_616 : decode cL_sound 616 = .ok (.iload 13, 2) := by decide +kernel
theorem dL_sound_618 : decode cL_sound 618 = .ok (.aload_n 0, 1) := by decide +kernel
theorem dL_sound_619 : decode cL_sound 619 = .ok (.iload 7, 2) := by decide +kernel
theorem dL_sound_621 : decode cL_sound 621 = .ok (.bipush 8, 2) := by decide +kernel
theorem dL_sound_623 : decode cL_sound 623 = .ok (.invokestatic 118, 3) := by decide +kernel
theorem dL_sound_626 : decode cL_sound 626 = .ok (.iconst (-1), 1) := by decide +kernel
theorem dL_sound_627 : decode cL_sound 627 = .ok (.if_icmp .ne 7, 3) := by decide +kernel
theorem dL_sound_630 : decode cL_sound 630 = .ok (.iconst 1, 1) := by decide +kernel
theorem dL_sound_631 : decode cL_sound 631 = .ok (.goto 4, 3) := by decide +kernel
theorem dL_sound_634 : decode cL_sound 634 = .ok (.iconst 0, 1) := by decide +kernel
theorem dL_sound_635 : decode cL_sound 635 = .ok (.if_icmp .ne 38, 3) := by decide +kernel
theorem dL_sound_638 : decode cL_sound 638 = .ok (.aload_n 0, 1) := by decide +kernel
theorem dL_sound_639 : decode cL_sound 639 = .ok (.iload 7, 2) := by decide +kernel
theorem dL_sound_641 : decode cL_sound 641 = .ok (.bipush 9, 2) := by decide +kernel
theorem dL_sound_643 : decode cL_sound 643 = .ok (.invokestatic 118, 3) := by decide +kernel
theorem dL_sound_646 : decode cL_sound 646 = .ok (.iconst (-1), 1) := by decide +kernel
theorem dL_sound_647 : decode cL_sound 647 = .ok (.if_icmp .ne 7, 3) := by decide +kernel
theorem dL_sound_650 : decode cL_sound 650 = .ok (.iconst 1, 1) := by decide +kernel
theorem dL_sound_651 : decode cL_sound 651 = .ok (.goto 4, 3) := by decide +kernel
theorem dL_sound_654 : decode cL_sound 654 = .ok (.iconst 0, 1) := by decide +kernel
theorem dL_sound_655 : decode cL_sound 655 = .ok (.iload 13, 2) := by decide +kernel
theorem dL_sound_657 : decode cL_sound 657 = .ok (.ifCond .ne 8, 3) := by decide +kernel
theorem dL_sound_660 : decode cL_sound 660 = .ok (.iload 14, 2) := by decide +kernel
theorem dL_sound_662 : decode cL_sound 662 = .ok (.ifCond .eq 7, 3) := by decide +kernel
theorem dL_sound_665 : decode cL_sound 665 = .ok (.iconst 1, 1) := by decide +kernel
theorem dL_sound_666 : decode cL_sound 666 = .ok (.goto 4, 3) := by decide +kernel
theorem dL_sound_669 : decode cL_sound 669 = .ok (.iconst 0, 1) := by decide +kernel
theorem dL_sound_670 : decode cL_sound 670 = .ok (.if_icmp .eq 5, 3) := by decide +kernel
theorem dL_sound_673 : decode cL_sound 673 = .ok (.iconst 0, 1) := by decide +kernel
theorem dL_sound_674 : decode cL_sound 674 = .ok (.ireturn, 1) := by decide +kernel
theorem dL_sound_675 : decode cL_sound 675 = .ok (.iload 14, 2) := by decide +kernel
theorem dL_sound_677 : decode cL_sound 677 = .ok (.ifCond .ne 35, 3) := by decide +kernel
theorem dL_sound_680 : decode cL_sound 680 = .ok (.iload 8, 2) := by decide +kernel
theorem dL_sound_682 : decode cL_sound 682 = .ok (.ifCond .lt 26, 3) := by decide +kernel
theorem dL_sound_685 : decode cL_sound 685 = .ok (.aload_n 0, 1) := by decide +kernel
theorem dL_sound_686 : decode cL_sound 686 = .ok (.iload 8, 2) := by decide +kernel
theorem dL_sound_688 : decode cL_sound 688 = .ok (.iconst 1, 1) := by decide +kernel
theorem dL_sound_689 : decode cL_sound 689 = .ok (.invokestatic 118, 3) := by decide +kernel
theorem dL_sound_692 : decode cL_sound 692 = .ok (.iconst 1, 1) := by decide +kernel
theorem dL_sound_693 : decode cL_sound 693 = .ok (.if_icmp .ne 19, 3) := by decide +kernel
theorem dL_sound_696 : decode cL_sound 696 = .ok (.aload_n 0, 1) := by decide +kernel
theorem dL_sound_697 : decode cL_sound 697 = .ok (.iload 8, 2) := by decide +kernel
theorem dL_sound_699 : decode cL_sound 699 = .ok (.bipush 13, 2) := by decide +kernel
theorem dL_sound_701 : decode cL_sound 701 = .ok (.invokestatic 118, 3) := by decide +kernel
theorem dL_sound_704 : decode cL_sound 704 = .ok (.iconst 1, 1) := by decide +kernel
theorem dL_sound_705 : decode cL_sound 705 = .ok (.if_icmp .ne 7, 3) := by decide +kernel
theorem dL_sound_708 : decode cL_sound 708 = .ok (.iconst 1, 1) := by decide +kernel
theorem dL_sound_709 : decode cL_sound 709 = .ok (.goto 4, 3) := by decide +kernel
theorem dL_sound_712 : decode cL_sound 712 = .ok (.iconst 0, 1) := by decide +kernel
theorem dL_sound_713 : decode cL_sound 713 = .ok (.istore 16, 2) := by decide +kernel
theorem dL_sound_715 : decode cL_sound 715 = .ok (.iload 15, 2) := by decide +kernel
theorem dL_sound_717 : decode cL_sound 717 = .ok (.iload 16, 2) := by decide +kernel
theorem dL_sound_719 : decode cL_sound 719 = .ok (.if_icmp .ne 74, 3) := by decide +kernel
theorem dL_sound_722 : decode cL_sound 722 = .ok (.iload 8, 2) := by decide +kernel
theorem dL_sound_724 : decode cL_sound 724 = .ok (.ifCond .lt 71, 3) := by decide +kernel
theorem dL_sound_727 : decode cL_sound 727 = .ok (.aload_n 0, 1) := by decide +kernel
theorem dL_sound_728 : decode cL_sound 728 = .ok (.iload 8, 2) := by decide +kernel
theorem dL_sound_730 : decode cL_sound 730 = .ok (.iconst 3, 1) := by decide +kernel
theorem dL_sound_731 : decode cL_sound 731 = .ok (.invokestatic 118, 3) := by decide +kernel
theorem dL_sound_734 : decode cL_sound 734 = .ok (.aload_n 0, 1) := by decide +kernel
theorem dL_sound_735 : decode cL_sound 735 = .ok (.iload 7, 2) := by decide +kernel
theorem dL_sound_737 : decode cL_sound 737 = .ok (.iconst 3, 1) := by decide +kernel
theorem dL_sound_738 : decode cL_sound 738 = .ok (.invokestatic 118, 3) := by decide +kernel
theorem dL_sound_741 : decode cL_sound 741 = .ok (.if_icmp .ne 52, 3) := by decide +kernel
theorem dL_sound_744 : decode cL_sound 744 = .ok (.aload_n 0, 1) := by decide +kernel
theorem dL_sound_745 : decode cL_sound 745 = .ok (.iload 8, 2) := by decide +kernel
theorem dL_sound_747 : decode cL_sound 747 = .ok (.iconst 4, 1) := by decide +kernel
theorem dL_sound_748 : decode cL_sound 748 = .ok (.invokestatic 118, 3) := by decide +kernel
theorem dL_sound_751 : decode cL_sound 751 = .ok (.aload_n 0, 1) := by decide +kernel
theorem dL_sound_752 : decode cL_sound 752 = .ok (.iload 7, 2) := by decide +kernel
theorem dL_sound_754 : decode cL_sound 754 = .ok (.iconst 4, 1) := by decide +kernel
theorem dL_sound_755 : decode cL_sound 755 = .ok (.invokestatic 118, 3) := by decide +kernel
theorem dL_sound_758 : decode cL_sound 758 = .ok (.if_icmp .ne 35, 3) := by decide +kernel
theorem dL_sound_761 : decode cL_sound 761 = .ok (.aload_n 0, 1) := by decide +kernel
theorem dL_sound_762 : decode cL_sound 762 = .ok (.iload 8, 2) := by decide +kernel
theorem dL_sound_764 : decode cL_sound 764 = .ok (.iconst 5, 1) := by decide +kernel
theorem dL_sound_765 : decode cL_sound 765 = .ok (.invokestatic 118, 3) := by decide +kernel
theorem dL_sound_768 : decode cL_sound 768 = .ok (.aload_n 0, 1) := by decide +kernel
theorem dL_sound_769 : decode cL_sound 769 = .ok (.iload 7, 2) := by decide +kernel
theorem dL_sound_771 : decode cL_sound 771 = .ok (.iconst 5, 1) := by decide +kernel
theorem dL_sound_772 : decode cL_sound 772 = .ok (.invokestatic 118, 3) := by decide +kernel
theorem dL_sound_775 : decode cL_sound 775 = .ok (.if_icmp .ne 18, 3) := by decide +kernel
theorem dL_sound_778 : decode cL_sound 778 = .ok (.iload 13, 2) := by decide +kernel
theorem dL_sound_780 : decode cL_sound 780 = .ok (.ifCond .eq 15, 3) := by decide +kernel
theorem dL_sound_783 : decode cL_sound 783 = .ok (.aload_n 0, 1) := by decide +kernel
theorem dL_sound_784 : decode cL_sound 784 = .ok (.iload 8, 2) := by decide +kernel
theorem dL_sound_786 : decode cL_sound 786 = .ok (.iconst 1, 1) := by decide +kernel
theorem dL_sound_787 : decode cL_sound 787 = .ok (.invokestatic 118, 3) := by decide +kernel
theorem dL_sound_790 : decode cL_sound 790 = .ok (.ifCond .ne 5, 3) := by decide +kernel
theorem dL_sound_793 : decode cL_sound 793 = .ok (.iconst 0, 1) := by decide +kernel
theorem dL_sound_794 : decode cL_sound 794 = .ok (.ireturn, 1) := by decide +kernel
theorem dL_sound_795 : decode cL_sound 795 = .ok (.iinc 7 1, 3) := by decide +kernel
theorem dL_sound_798 : decode cL_sound 798 = .ok (.goto (-551), 3) := by decide +kernel
theorem dL_sound_801 : decode cL_sound 801 = .ok (.iconst 0, 1) := by decide +kernel
theorem dL_sound_802 : decode cL_sound 802 = .ok (.istore 7, 2) := by decide +kernel
theorem dL_sound_804 : decode cL_sound 804 = .ok (.iconst 0, 1) := by decide +kernel
theorem dL_sound_805 : decode cL_sound 805 = .ok (.istore 8, 2) := by decide +kernel
theorem dL_sound_807 : decode cL_sound 807 = .ok (.iconst 0, 1) := by decide +kernel
theorem dL_sound_808 : decode cL_sound 808 = .ok (.istore 9, 2) := by decide +kernel
theorem dL_sound_810 : decode cL_sound 810 = .ok (.iconst 0, 1) := by decide +kernel
theorem dL_sound_811 : decode cL_sound 811 = .ok (.istore 10, 2) := by decide +kernel
theorem dL_sound_813 : decode cL_sound 813 = .ok (.iconst 0, 1) := by decide +kernel
theorem dL_sound_814 : decode cL_sound 814 = .ok (.istore 11, 2) := by decide +kernel
theorem dL_sound_816 : decode cL_sound 816 = .ok (.iload 11, 2) := by decide +kernel
theorem dL_sound_818 : decode cL_sound 818 = .ok (.aload_n 0, 1) := by decide +kernel
theorem dL_sound_819 : decode cL_sound 819 = .ok (.iconst 1, 1) := by decide +kernel
theorem dL_sound_820 : decode cL_sound 820 = .ok (.invokestatic 110, 3) := by decide +kernel
theorem dL_sound_823 : decode cL_sound 823 = .ok (.if_icmp .ge 59, 3) := by decide +kernel
theorem dL_sound_826 : decode cL_sound 826 = .ok (.iload 7, 2) := by decide +kernel
theorem dL_sound_828 : decode cL_sound 828 = .ok (.aload_n 0, 1) := by decide +kernel
theorem dL_sound_829 : decode cL_sound 829 = .ok (.iload 11, 2) := by decide +kernel
theorem dL_sound_831 : decode cL_sound 831 = .ok (.iconst 4, 1) := by decide +kernel
theorem dL_sound_832 : decode cL_sound 832 = .ok (.invokestatic 124, 3) := by decide +kernel
theorem dL_sound_835 : decode cL_sound 835 = .ok (.iadd, 1) := by decide +kernel
theorem dL_sound_836 : decode cL_sound 836 = .ok (.istore 7, 2) := by decide +kernel
theorem dL_sound_838 : decode cL_sound 838 = .ok (.iload 8, 2) := by decide +kernel
theorem dL_sound_840 : decode cL_sound 840 = .ok (.aload_n 0, 1) := by decide +kernel
theorem dL_sound_841 : decode cL_sound 841 = .ok (.iload 11, 2) := by decide +kernel
theorem dL_sound_843 : decode cL_sound 843 = .ok (.iconst 5, 1) := by decide +kernel
theorem dL_sound_844 : decode cL_sound 844 = .ok (.invokestatic 124, 3) := by decide +kernel
theorem dL_sound_847 : decode cL_sound 847 = .ok (.iadd, 1) := by decide +kernel
theorem dL_sound_848 : decode cL_sound 848 = .ok (.istore 8, 2) := by decide +kernel
theorem dL_sound_850 : decode cL_sound 850 = .ok (.iload 9, 2) := by decide +kernel
theorem dL_sound_852 : decode cL_sound 852 = .ok (.aload_n 0, 1) := by decide +kernel
theorem dL_sound_853 : decode cL_sound 853 = .ok (.iload 11, 2) := by decide +kernel
theorem dL_sound_855 : decode cL_sound 855 = .ok (.bipush 8, 2) := by decide +kernel
theorem dL_sound_857 : decode cL_sound 857 = .ok (.invokestatic 124, 3) := by decide +kernel
theorem dL_sound_860 : decode cL_sound 860 = .ok (.iadd, 1) := by decide +kernel
theorem dL_sound_861 : decode cL_sound 861 = .ok (.istore 9, 2) := by decide +kernel
theorem dL_sound_863 : decode cL_sound 863 = .ok (.iload 10, 2) := by decide +kernel
theorem dL_sound_865 : decode cL_sound 865 = .ok (.aload_n 0, 1) := by decide +kernel
theorem dL_sound_866 : decode cL_sound 866 = .ok (.iload 11, 2) := by decide +kernel
theorem dL_sound_868 : decode cL_sound 868 = .ok (.bipush 7, 2) := by decide +kernel
theorem dL_sound_870 : decode cL_sound 870 = .ok (.invokestatic 124, 3) := by decide +kernel
theorem dL_sound_873 : decode cL_sound 873 = .ok (.iadd, 1) := by decide +kernel
theorem dL_sound_874 : decode cL_sound 874 = .ok (.istore 10, 2) := by decide +kernel
theorem dL_sound_876 : decode cL_sound 876 = .ok (.iinc 11 1, 3) := by decide +kernel
theorem dL_sound_879 : decode cL_sound 879 = .ok (.goto (-63), 3) := by decide +kernel
theorem dL_sound_882 : decode cL_sound 882 = .ok (.iconst 0, 1) := by decide +kernel
theorem dL_sound_883 : decode cL_sound 883 = .ok (.istore 11, 2) := by decide +kernel
theorem dL_sound_885 : decode cL_sound 885 = .ok (.iload 11, 2) := by decide +kernel
theorem dL_sound_887 : decode cL_sound 887 = .ok (.aload_n 0, 1) := by decide +kernel
theorem dL_sound_888 : decode cL_sound 888 = .ok (.iconst 4, 1) := by decide +kernel
theorem dL_sound_889 : decode cL_sound 889 = .ok (.invokestatic 110, 3) := by decide +kernel
theorem dL_sound_892 : decode cL_sound 892 = .ok (.if_icmp .ge 29, 3) := by decide +kernel
theorem dL_sound_895 : decode cL_sound 895 = .ok (.iload 10, 2) := by decide +kernel
theorem dL_sound_897 : decode cL_sound 897 = .ok (.aload_n 0, 1) := by decide +kernel
theorem dL_sound_898 : decode cL_sound 898 = .ok (.iload 11, 2) := by decide +kernel
theorem dL_sound_900 : decode cL_sound 900 = .ok (.invokestatic 126, 3) := by decide +kernel
theorem dL_sound_903 : decode cL_sound 903 = .ok (.iconst (-1), 1) := by decide +kernel
theorem dL_sound_904 : decode cL_sound 904 = .ok (.if_icmp .ne 7, 3) := by decide +kernel
theorem dL_sound_907 : decode cL_sound 907 = .ok (.iconst 1, 1) := by decide +kernel
theorem dL_sound_908 : decode cL_sound 908 = .ok (.goto 4, 3) := by decide +kernel
theorem dL_sound_911 : decode cL_sound 911 = .ok (.iconst 0, 1) := by decide +kernel
theorem dL_sound_912 : decode cL_sound 912 = .ok (.iadd, 1) := by decide +kernel
theorem dL_sound_913 : decode cL_sound 913 = .ok (.istore 10, 2) := by decide +kernel
theorem dL_sound_915 : decode cL_sound 915 = .ok (.iinc 11 1, 3) := by decide +kernel
theorem dL_sound_918 : decode cL_sound 918 = .ok (.goto (-33), 3) := by decide +kernel
theorem dL_sound_921 : decode cL_sound 921 = .ok (.aload_n 0, 1) := by decide +kernel
theorem dL_sound_922 : decode cL_sound 922 = .ok (.bipush 8, 2) := by decide +kernel
theorem dL_sound_924 : decode cL_sound 924 = .ok (.invokestatic 110, 3) := by decide +kernel
theorem dL_sound_927 : decode cL_sound 927 = .ok (.iload 4, 2) := by decide +kernel
theorem dL_sound_929 : decode cL_sound 929 = .ok (.if_icmp .ne 64, 3) := by decide +kernel
theorem dL_sound_932 : decode cL_sound 932 = .ok (.aload_n 0, 1) := by decide +kernel
theorem dL_sound_933 : decode cL_sound 933 = .ok (.bipush 9, 2) := by decide +kernel
theorem dL_sound_935 : decode cL_sound 935 = .ok (.invokestatic 110, 3) := by decide +kernel
theorem dL_sound_938 : decode cL_sound 938 = .ok (.iload_n 3, 1) := by decide +kernel
theorem dL_sound_939 : decode cL_sound 939 = .ok (.if_icmp .ne 54, 3) := by decide +kernel
theorem dL_sound_942 : decode cL_sound 942 = .ok (.aload_n 0, 1) := by decide +kernel
theorem dL_sound_943 : decode cL_sound 943 = .ok (.iconst 5, 1) := by decide +kernel
theorem dL_sound_944 : decode cL_sound 944 = .ok (.invokestatic 110, 3) := by decide +kernel
theorem dL_sound_947 : decode cL_sound 947 = .ok (.iload 5, 2) := by decide +kernel
theorem dL_sound_949 : decode cL_sound 949 = .ok (.if_icmp .ne 44, 3) := by decide +kernel
theorem dL_sound_952 : decode cL_sound 952 = .ok (.aload_n 0, 1) := by decide +kernel
theorem dL_sound_953 : decode cL_sound 953 = .ok (.iconst 5, 1) := by decide +kernel
theorem dL_sound_954 : decode cL_sound 954 = .ok (.invokestatic 110, 3) := by decide +kernel
theorem dL_sound_957 : decode cL_sound 957 = .ok (.iload 9, 2) := by decide +kernel
theorem dL_sound_959 : decode cL_sound 959 = .ok (.aload_n 0, 1) := by decide +kernel
theorem dL_sound_960 : decode cL_sound 960 = .ok (.bipush 6, 2) := by decide +kernel
theorem dL_sound_962 : decode cL_sound 962 = .ok (.invokestatic 110, 3) := by decide +kernel
theorem dL_sound_965 : decode cL_sound 965 = .ok (.iadd, 1) := by decide +kernel
theorem dL_sound_966 : decode cL_sound 966 = .ok (.if_icmp .ne 27, 3) := by decide +kernel
theorem dL_sound_969 : decode cL_sound 969 = .ok (.iload 7, 2) := by decide +kernel
theorem dL_sound_971 : decode cL_sound 971 = .ok (.iload 8, 2) := by decide +kernel
theorem dL_sound_973 : decode cL_sound 973 = .ok (.iadd, 1) := by decide +kernel
theorem dL_sound_974 : decode cL_sound 974 = .ok (.iload 6, 2) := by decide +kernel
theorem dL_sound_976 : decode cL_sound 976 = .ok (.if_icmp .ne 17, 3) := by decide +kernel
theorem dL_sound_979 : decode cL_sound 979 = .ok (.iload 10, 2) := by decide +kernel
theorem dL_sound_981 : decode cL_sound 981 = .ok (.aload_n 0, 1) := by decide +kernel
theorem dL_sound_982 : decode cL_sound 982 = .ok (.iconst 4, 1) := by decide +kernel
theorem dL_sound_983 : decode cL_sound 983 = .ok (.invokestatic 110, 3) := by decide +kernel
theorem dL_sound_986 : decode cL_sound 986 = .ok (.if_icmp .ne 7, 3) := by decide +kernel
theorem dL_sound_989 : decode cL_sound 989 = .ok (.iconst 1, 1) := by decide +kernel
theorem dL_sound_990 : decode cL_sound 990 = .ok (.goto 4, 3) := by decide +kernel
theorem dL_sound_993 : decode cL_sound 993 = .ok (.iconst 0, 1) := by decide +kernel
theorem dL_sound_994 : decode cL_sound 994 = .ok (.ireturn, 1) := by decide +kernel
def sL_sound_885 : Nat → Wl → Int32 → Int32 → Int32 → Int32 → Int32 → Int32 → Int32 → Int32 → Int32 → Option (Bool × Wl)
  | 0, _, _, _, _, _, _, _, _, _, _ => none
  | n + 1, w, l3, l4, l5, l6, l7, l8, l9, l10, l11 => (sO_whole w (4 : Int32)).bind (fun r1 => (if r1 ≤ l11 then (sO_whole w (8 : Int32)).bind (fun r4 => (if r4 = l4 then (sO_whole w (9 : Int32)).bind (fun r7 => (if r7 = l3 then (sO_whole w (5 : Int32)).bind (fun r10 => (if r10 = l5 then (sO_whole w (6 : Int32)).bind (fun r13 => (if r10 = (l9 + r13) then (if (l7 + l8) = l6 then (if l10 = r1 then some (true, w) else some (false, w)) else some (false, w)) else some (false, w))) else some (false, w))) else some (false, w))) else some (false, w))) else (sO_courier w l11).bind (fun r18 => (if r18 = (-1 : Int32) then sL_sound_885 n w l3 l4 l5 l6 l7 l8 l9 (l10 + (1 : Int32)) (l11 + 1) else sL_sound_885 n w l3 l4 l5 l6 l7 l8 l9 (l10 + (0 : Int32)) (l11 + 1)))))
theorem tL_sound_885 {X : Cx} {B : Bs} {sz : Nat} {r : (Bool × Wl)} (hx : Fx X cL_sound 17 RL 9 0 0) (hC : GC (xΓ X) B) (htr : (xl X).stackTraces = false) (hr : Rt X (some .boolean) 0 0 (WΨ (xΓ X) B (some (.int (bI r.1))) r.2 sz)) : ∀ (n : Nat), ∀ (w : Wl) (l3 : Int32) (l4 : Int32) (l5 : Int32) (l6 : Int32) (l7 : Int32) (l8 : Int32) (l9 : Int32) (l10 : Int32) (l11 : Int32) {G : Gf} (hW : Wd (xΓ X) B w G) (h : sL_sound_885 n w l3 l4 l5 l6 l7 l8 l9 l10 l11 = some r), J X 17 G sz 0 0 885 [some (.ref (B.1 + 0)), none, none, some (.int l3), some (.int l4), some (.int l5), some (.int l6), some (.int l7), some (.int l8), some (.int l9), some (.int l10), some (.int l11), none, none, none, none, none] [] := by
  intro n
  induction n with
  | zero => intro w l3 l4 l5 l6 l7 l8 l9 l10 l11 G hW h; rw [sL_sound_885.eq_1] at h; cases h
  | succ n ih =>
    intro w l3 l4 l5 l6 l7 l8 l9 l10 l11 G hW h
    rw [sL_sound_885.eq_2] at h
    refine J_il hx rfl dL_sound_885 ?_
    refine J_al4 hx rfl rfl dL_sound_887 ?_
    refine J_iconst hx (4 : Int32) dL_sound_888 rfl ?_
    obtain ⟨r1, hr2, h⟩ := bnd h
    refine J_rdL hx (kP_whole hC hW (okS_e hr2)) ml_L_110 cw_whole st_whole ini_L hy_whole (rest := [.int l11]) rfl rfl (by decide) (by decide) (Nat.le_of_ble_eq_true rfl) (Nat.le_refl 0) (Nat.le_refl 0) dL_sound_889 ?_
    refine J_icmp_ge hx 921 dL_sound_892 rfl (fun h3 => ?_) (fun h3 => ?_)
    · replace h := pos h h3
      refine J_al4 hx rfl rfl dL_sound_921 ?_
      refine J_bipush hx (8 : Int32) dL_sound_922 rfl ?_
      obtain ⟨r4, hr5, h⟩ := bnd h
      refine J_rdL hx (kP_whole hC hW (okS_e hr5)) ml_L_110 cw_whole st_whole ini_L hy_whole (rest := []) rfl rfl (by decide) (by decide) (Nat.le_of_ble_eq_true rfl) (Nat.le_refl 0) (Nat.le_refl 0) dL_sound_924 ?_
      refine J_il hx rfl dL_sound_927 ?_
      refine J_icmp_ne hx 993 dL_sound_929 rfl (fun h6 => ?_) (fun h6 => ?_)
      · replace h := neg h h6
        refine J_iconst hx (0 : Int32) dL_sound_993 rfl ?_
        obtain rfl := Option.some.inj h
        exact J_zretW (b := false) hx hr hW dL_sound_994 (Nat.le_refl 0) (Nat.le_refl 0)
      · replace h := pos h h6
        refine J_al4 hx rfl rfl dL_sound_932 ?_
        refine J_bipush hx (9 : Int32) dL_sound_933 rfl ?_
        obtain ⟨r7, hr8, h⟩ := bnd h
        refine J_rdL hx (kP_whole hC hW (okS_e hr8)) ml_L_110 cw_whole st_whole ini_L hy_whole (rest := []) rfl rfl (by decide) (by decide) (Nat.le_of_ble_eq_true rfl) (Nat.le_refl 0) (Nat.le_refl 0) dL_sound_935 ?_
        refine J_il4 hx rfl rfl dL_sound_938 ?_
        refine J_icmp_ne hx 993 dL_sound_939 rfl (fun h9 => ?_) (fun h9 => ?_)
        · replace h := neg h h9
          refine J_iconst hx (0 : Int32) dL_sound_993 rfl ?_
          obtain rfl := Option.some.inj h
          exact J_zretW (b := false) hx hr hW dL_sound_994 (Nat.le_refl 0) (Nat.le_refl 0)
        · replace h := pos h h9
          refine J_al4 hx rfl rfl dL_sound_942 ?_
          refine J_iconst hx (5 : Int32) dL_sound_943 rfl ?_
          obtain ⟨r10, hr11, h⟩ := bnd h
          refine J_rdL hx (kP_whole hC hW (okS_e hr11)) ml_L_110 cw_whole st_whole ini_L hy_whole (rest := []) rfl rfl (by decide) (by decide) (Nat.le_of_ble_eq_true rfl) (Nat.le_refl 0) (Nat.le_refl 0) dL_sound_944 ?_
          refine J_il hx rfl dL_sound_947 ?_
          refine J_icmp_ne hx 993 dL_sound_949 rfl (fun h12 => ?_) (fun h12 => ?_)
          · replace h := neg h h12
            refine J_iconst hx (0 : Int32) dL_sound_993 rfl ?_
            obtain rfl := Option.some.inj h
            exact J_zretW (b := false) hx hr hW dL_sound_994 (Nat.le_refl 0) (Nat.le_refl 0)
          · replace h := pos h h12
            refine J_al4 hx rfl rfl dL_sound_952 ?_
            refine J_iconst hx (5 : Int32) dL_sound_953 rfl ?_
            refine J_rdL hx (kP_whole hC hW (okS_e hr11)) ml_L_110 cw_whole st_whole ini_L hy_whole (rest := []) rfl rfl (by decide) (by decide) (Nat.le_of_ble_eq_true rfl) (Nat.le_refl 0) (Nat.le_refl 0) dL_sound_954 ?_
            refine J_il hx rfl dL_sound_957 ?_
            refine J_al4 hx rfl rfl dL_sound_959 ?_
            refine J_bipush hx (6 : Int32) dL_sound_960 rfl ?_
            obtain ⟨r13, hr14, h⟩ := bnd h
            refine J_rdL hx (kP_whole hC hW (okS_e hr14)) ml_L_110 cw_whole st_whole ini_L hy_whole (rest := [.int l9, .int r10]) rfl rfl (by decide) (by decide) (Nat.le_of_ble_eq_true rfl) (Nat.le_refl 0) (Nat.le_refl 0) dL_sound_962 ?_
            refine J_iadd hx dL_sound_965 ?_
            refine J_icmp_ne hx 993 dL_sound_966 rfl (fun h15 => ?_) (fun h15 => ?_)
            · replace h := neg h h15
              refine J_iconst hx (0 : Int32) dL_sound_993 rfl ?_
              obtain rfl := Option.some.inj h
              exact J_zretW (b := false) hx hr hW dL_sound_994 (Nat.le_refl 0) (Nat.le_refl 0)
            · replace h := pos h h15
              refine J_il hx rfl dL_sound_969 ?_
              refine J_il hx rfl dL_sound_971 ?_
              refine J_iadd hx dL_sound_973 ?_
              refine J_il hx rfl dL_sound_974 ?_
              refine J_icmp_ne hx 993 dL_sound_976 rfl (fun h16 => ?_) (fun h16 => ?_)
              · replace h := neg h h16
                refine J_iconst hx (0 : Int32) dL_sound_993 rfl ?_
                obtain rfl := Option.some.inj h
                exact J_zretW (b := false) hx hr hW dL_sound_994 (Nat.le_refl 0) (Nat.le_refl 0)
              · replace h := pos h h16
                refine J_il hx rfl dL_sound_979 ?_
                refine J_al4 hx rfl rfl dL_sound_981 ?_
                refine J_iconst hx (4 : Int32) dL_sound_982 rfl ?_
                refine J_rdL hx (kP_whole hC hW (okS_e hr2)) ml_L_110 cw_whole st_whole ini_L hy_whole (rest := [.int l10]) rfl rfl (by decide) (by decide) (Nat.le_of_ble_eq_true rfl) (Nat.le_refl 0) (Nat.le_refl 0) dL_sound_983 ?_
                refine J_icmp_ne hx 993 dL_sound_986 rfl (fun h17 => ?_) (fun h17 => ?_)
                · replace h := neg h h17
                  refine J_iconst hx (0 : Int32) dL_sound_993 rfl ?_
                  obtain rfl := Option.some.inj h
                  exact J_zretW (b := false) hx hr hW dL_sound_994 (Nat.le_refl 0) (Nat.le_refl 0)
                · replace h := pos h h17
                  refine J_iconst hx (1 : Int32) dL_sound_989 rfl ?_
                  refine J_goto hx 994 dL_sound_990 rfl ?_
                  obtain rfl := Option.some.inj h
                  exact J_zretW (b := true) hx hr hW dL_sound_994 (Nat.le_refl 0) (Nat.le_refl 0)
    · replace h := neg h h3
      refine J_il hx rfl dL_sound_895 ?_
      refine J_al4 hx rfl rfl dL_sound_897 ?_
      refine J_il hx rfl dL_sound_898 ?_
      obtain ⟨r18, hr19, h⟩ := bnd h
      refine J_rdL hx (kP_courier hC hW (okS_e hr19)) ml_L_126 cw_courier st_courier ini_L hy_courier (rest := [.int l10]) rfl rfl (by decide) (by decide) (Nat.le_of_ble_eq_true rfl) (Nat.le_refl 0) (Nat.le_refl 0) dL_sound_900 ?_
      refine J_iconst hx (-1 : Int32) dL_sound_903 rfl ?_
      refine J_icmp_ne hx 911 dL_sound_904 rfl (fun h20 => ?_) (fun h20 => ?_)
      · replace h := neg h h20
        refine J_iconst hx (0 : Int32) dL_sound_911 rfl ?_
        refine J_iadd hx dL_sound_912 ?_
        refine J_is hx (by decide) (hc_of rfl) rfl dL_sound_913 ?_
        refine J_iinc hx (v' := (l11 + 1)) rfl rfl (by decide) (hc_of rfl) rfl dL_sound_915 ?_
        refine J_goto hx 885 dL_sound_918 rfl ?_
        exact ih _ _ _ _ _ _ _ _ _ _  hW h
      · replace h := pos h h20
        refine J_iconst hx (1 : Int32) dL_sound_907 rfl ?_
        refine J_goto hx 912 dL_sound_908 rfl ?_
        refine J_iadd hx dL_sound_912 ?_
        refine J_is hx (by decide) (hc_of rfl) rfl dL_sound_913 ?_
        refine J_iinc hx (v' := (l11 + 1)) rfl rfl (by decide) (hc_of rfl) rfl dL_sound_915 ?_
        refine J_goto hx 885 dL_sound_918 rfl ?_
        exact ih _ _ _ _ _ _ _ _ _ _  hW h
def sL_sound_816 : Nat → Wl → Int32 → Int32 → Int32 → Int32 → Int32 → Int32 → Int32 → Int32 → Int32 → Option (Bool × Wl)
  | 0, _, _, _, _, _, _, _, _, _, _ => none
  | n + 1, w, l3, l4, l5, l6, l7, l8, l9, l10, l11 => (sO_whole w (1 : Int32)).bind (fun r1 => (if r1 ≤ l11 then sL_sound_885 FU w l3 l4 l5 l6 l7 l8 l9 l10 (0 : Int32) else (sO_venue w l11 (4 : Int32)).bind (fun r4 => (sO_venue w l11 (5 : Int32)).bind (fun r6 => (sO_venue w l11 (8 : Int32)).bind (fun r8 => (sO_venue w l11 (7 : Int32)).bind (fun r10 => sL_sound_816 n w l3 l4 l5 l6 (l7 + r4) (l8 + r6) (l9 + r8) (l10 + r10) (l11 + 1)))))))
theorem tL_sound_816 {X : Cx} {B : Bs} {sz : Nat} {r : (Bool × Wl)} (hx : Fx X cL_sound 17 RL 9 0 0) (hC : GC (xΓ X) B) (htr : (xl X).stackTraces = false) (hr : Rt X (some .boolean) 0 0 (WΨ (xΓ X) B (some (.int (bI r.1))) r.2 sz)) : ∀ (n : Nat), ∀ (w : Wl) (l3 : Int32) (l4 : Int32) (l5 : Int32) (l6 : Int32) (l7 : Int32) (l8 : Int32) (l9 : Int32) (l10 : Int32) (l11 : Int32) {G : Gf} (hW : Wd (xΓ X) B w G) (h : sL_sound_816 n w l3 l4 l5 l6 l7 l8 l9 l10 l11 = some r), J X 17 G sz 0 0 816 [some (.ref (B.1 + 0)), none, none, some (.int l3), some (.int l4), some (.int l5), some (.int l6), some (.int l7), some (.int l8), some (.int l9), some (.int l10), some (.int l11), none, none, none, none, none] [] := by
  intro n
  induction n with
  | zero => intro w l3 l4 l5 l6 l7 l8 l9 l10 l11 G hW h; rw [sL_sound_816.eq_1] at h; cases h
  | succ n ih =>
    intro w l3 l4 l5 l6 l7 l8 l9 l10 l11 G hW h
    rw [sL_sound_816.eq_2] at h
    refine J_il hx rfl dL_sound_816 ?_
    refine J_al4 hx rfl rfl dL_sound_818 ?_
    refine J_iconst hx (1 : Int32) dL_sound_819 rfl ?_
    obtain ⟨r1, hr2, h⟩ := bnd h
    refine J_rdL hx (kP_whole hC hW (okS_e hr2)) ml_L_110 cw_whole st_whole ini_L hy_whole (rest := [.int l11]) rfl rfl (by decide) (by decide) (Nat.le_of_ble_eq_true rfl) (Nat.le_refl 0) (Nat.le_refl 0) dL_sound_820 ?_
    refine J_icmp_ge hx 882 dL_sound_823 rfl (fun h3 => ?_) (fun h3 => ?_)
    · replace h := pos h h3
      refine J_iconst hx (0 : Int32) dL_sound_882 rfl ?_
      refine J_is hx (by decide) (hc_of rfl) rfl dL_sound_883 ?_
      exact tL_sound_885 hx hC htr hr _ _ _ _ _ _ _ _ _ _ _  hW h
    · replace h := neg h h3
      refine J_il hx rfl dL_sound_826 ?_
      refine J_al4 hx rfl rfl dL_sound_828 ?_
      refine J_il hx rfl dL_sound_829 ?_
      refine J_iconst hx (4 : Int32) dL_sound_831 rfl ?_
      obtain ⟨r4, hr5, h⟩ := bnd h
      refine J_rdL hx (kP_venue hC hW (okS_e hr5)) ml_L_124 cw_venue st_venue ini_L hy_venue (rest := [.int l7]) rfl rfl (by decide) (by decide) (Nat.le_of_ble_eq_true rfl) (Nat.le_refl 0) (Nat.le_refl 0) dL_sound_832 ?_
      refine J_iadd hx dL_sound_835 ?_
      refine J_is hx (by decide) (hc_of rfl) rfl dL_sound_836 ?_
      refine J_il hx rfl dL_sound_838 ?_
      refine J_al4 hx rfl rfl dL_sound_840 ?_
      refine J_il hx rfl dL_sound_841 ?_
      refine J_iconst hx (5 : Int32) dL_sound_843 rfl ?_
      obtain ⟨r6, hr7, h⟩ := bnd h
      refine J_rdL hx (kP_venue hC hW (okS_e hr7)) ml_L_124 cw_venue st_venue ini_L hy_venue (rest := [.int l8]) rfl rfl (by decide) (by decide) (Nat.le_of_ble_eq_true rfl) (Nat.le_refl 0) (Nat.le_refl 0) dL_sound_844 ?_
      refine J_iadd hx dL_sound_847 ?_
      refine J_is hx (by decide) (hc_of rfl) rfl dL_sound_848 ?_
      refine J_il hx rfl dL_sound_850 ?_
      refine J_al4 hx rfl rfl dL_sound_852 ?_
      refine J_il hx rfl dL_sound_853 ?_
      refine J_bipush hx (8 : Int32) dL_sound_855 rfl ?_
      obtain ⟨r8, hr9, h⟩ := bnd h
      refine J_rdL hx (kP_venue hC hW (okS_e hr9)) ml_L_124 cw_venue st_venue ini_L hy_venue (rest := [.int l9]) rfl rfl (by decide) (by decide) (Nat.le_of_ble_eq_true rfl) (Nat.le_refl 0) (Nat.le_refl 0) dL_sound_857 ?_
      refine J_iadd hx dL_sound_860 ?_
      refine J_is hx (by decide) (hc_of rfl) rfl dL_sound_861 ?_
      refine J_il hx rfl dL_sound_863 ?_
      refine J_al4 hx rfl rfl dL_sound_865 ?_
      refine J_il hx rfl dL_sound_866 ?_
      refine J_bipush hx (7 : Int32) dL_sound_868 rfl ?_
      obtain ⟨r10, hr11, h⟩ := bnd h
      refine J_rdL hx (kP_venue hC hW (okS_e hr11)) ml_L_124 cw_venue st_venue ini_L hy_venue (rest := [.int l10]) rfl rfl (by decide) (by decide) (Nat.le_of_ble_eq_true rfl) (Nat.le_refl 0) (Nat.le_refl 0) dL_sound_870 ?_
      refine J_iadd hx dL_sound_873 ?_
      refine J_is hx (by decide) (hc_of rfl) rfl dL_sound_874 ?_
      refine J_iinc hx (v' := (l11 + 1)) rfl rfl (by decide) (hc_of rfl) rfl dL_sound_876 ?_
      refine J_goto hx 816 dL_sound_879 rfl ?_
      exact ih _ _ _ _ _ _ _ _ _ _  hW h
def sL_sound_713 (k247 : Wl → Int32 → Int32 → Int32 → Int32 → Int32 → Int32 → Int32 → Option (Bool × Wl)) (w : Wl) (l1 : Int32) (l2 : Int32) (l3 : Int32) (l4 : Int32) (l5 : Int32) (l6 : Int32) (l7 : Int32) (l8 : Int32) (l13 : Int32) (l15 : Int32) (s0 : Int32) : Option (Bool × Wl) := (if l15 = s0 then (if l8 < 0 then k247 w l1 l2 l3 l4 l5 l6 (l7 + 1) else (sO_crate w l8 (3 : Int32)).bind (fun r3 => (sO_crate w l7 (3 : Int32)).bind (fun r5 => (if r3 = r5 then (sO_crate w l8 (4 : Int32)).bind (fun r8 => (sO_crate w l7 (4 : Int32)).bind (fun r10 => (if r8 = r10 then (sO_crate w l8 (5 : Int32)).bind (fun r13 => (sO_crate w l7 (5 : Int32)).bind (fun r15 => (if r13 = r15 then (if l13 = 0 then k247 w l1 l2 l3 l4 l5 l6 (l7 + 1) else (sO_crate w l8 (1 : Int32)).bind (fun r19 => (if r19 = 0 then some (false, w) else k247 w l1 l2 l3 l4 l5 l6 (l7 + 1)))) else some (false, w)))) else some (false, w)))) else some (false, w))))) else some (false, w))
theorem tL_sound_713 {X : Cx} {B : Bs} {sz : Nat} {r : (Bool × Wl)} (hx : Fx X cL_sound 17 RL 9 0 0) (hC : GC (xΓ X) B) (htr : (xl X).stackTraces = false) (hr : Rt X (some .boolean) 0 0 (WΨ (xΓ X) B (some (.int (bI r.1))) r.2 sz)) (k247 : Wl → Int32 → Int32 → Int32 → Int32 → Int32 → Int32 → Int32 → Option (Bool × Wl)) (hk247 : ∀ (w : Wl) (l1 : Int32) (l2 : Int32) (l3 : Int32) (l4 : Int32) (l5 : Int32) (l6 : Int32) (l7 : Int32) {G : Gf} (hW : Wd (xΓ X) B w G) (h : k247 w l1 l2 l3 l4 l5 l6 l7 = some r), J X 17 G sz 0 0 247 [some (.ref (B.1 + 0)), some (.int l1), some (.int l2), some (.int l3), some (.int l4), some (.int l5), some (.int l6), some (.int l7), none, none, none, none, none, none, none, none, none] []) : ∀ (w : Wl) (l1 : Int32) (l2 : Int32) (l3 : Int32) (l4 : Int32) (l5 : Int32) (l6 : Int32) (l7 : Int32) (l8 : Int32) (l13 : Int32) (l15 : Int32) (s0 : Int32) {G : Gf} (hW : Wd (xΓ X) B w G) (h : sL_sound_713 k247  w l1 l2 l3 l4 l5 l6 l7 l8 l13 l15 s0 = some r), J X 17 G sz 0 0 713 [some (.ref (B.1 + 0)), some (.int l1), some (.int l2), some (.int l3), some (.int l4), some (.int l5), some (.int l6), some (.int l7), some (.int l8), none, none, none, none, some (.int l13), none, some (.int l15), none] [.int s0] := by
  intro w l1 l2 l3 l4 l5 l6 l7 l8 l13 l15 s0 G hW h
  unfold sL_sound_713 at h
  refine J_is hx (by decide) (hc_of rfl) rfl dL_sound_713 ?_
  refine J_il hx rfl dL_sound_715 ?_
  refine J_il hx rfl dL_sound_717 ?_
  refine J_icmp_ne hx 793 dL_sound_719 rfl (fun h1 => ?_) (fun h1 => ?_)
  · replace h := neg h h1
    refine J_iconst hx (0 : Int32) dL_sound_793 rfl ?_
    obtain rfl := Option.some.inj h
    exact J_zretW (b := false) hx hr hW dL_sound_794 (Nat.le_refl 0) (Nat.le_refl 0)
  · replace h := pos h h1
    refine J_il hx rfl dL_sound_722 ?_
    refine J_if_lt hx 795 dL_sound_724 rfl (fun h2 => ?_) (fun h2 => ?_)
    · replace h := pos h h2
      refine J_iinc hx (v' := (l7 + 1)) rfl rfl (by decide) (hc_of rfl) rfl dL_sound_795 ?_
      refine J_goto hx 247 dL_sound_798 rfl ?_
      refine J_lw (ls' := [some (.ref (B.1 + 0)), some (.int l1), some (.int l2), some (.int l3), some (.int l4), some (.int l5), some (.int l6), some (.int (l7 + 1)), none, none, none, none, none, none, none, none, none]) (lwS (lwS (lwS (lwS (lwS (lwS (lwS (lwS (lwN (lwN (lwN (lwN (lwN (lwN (lwN (lwN (lwN lwZ))))))))))))))))) ?_
      exact hk247 _ _ _ _ _ _ _ _  hW h
    · replace h := neg h h2
      refine J_al4 hx rfl rfl dL_sound_727 ?_
      refine J_il hx rfl dL_sound_728 ?_
      refine J_iconst hx (3 : Int32) dL_sound_730 rfl ?_
      obtain ⟨r3, hr4, h⟩ := bnd h
      refine J_rdL hx (kP_crate hC hW (okS_e hr4)) ml_L_118 cw_crate st_crate ini_L hy_crate (rest := []) rfl rfl (by decide) (by decide) (Nat.le_of_ble_eq_true rfl) (Nat.le_refl 0) (Nat.le_refl 0) dL_sound_731 ?_
      refine J_al4 hx rfl rfl dL_sound_734 ?_
      refine J_il hx rfl dL_sound_735 ?_
      refine J_iconst hx (3 : Int32) dL_sound_737 rfl ?_
      obtain ⟨r5, hr6, h⟩ := bnd h
      refine J_rdL hx (kP_crate hC hW (okS_e hr6)) ml_L_118 cw_crate st_crate ini_L hy_crate (rest := [.int r3]) rfl rfl (by decide) (by decide) (Nat.le_of_ble_eq_true rfl) (Nat.le_refl 0) (Nat.le_refl 0) dL_sound_738 ?_
      refine J_icmp_ne hx 793 dL_sound_741 rfl (fun h7 => ?_) (fun h7 => ?_)
      · replace h := neg h h7
        refine J_iconst hx (0 : Int32) dL_sound_793 rfl ?_
        obtain rfl := Option.some.inj h
        exact J_zretW (b := false) hx hr hW dL_sound_794 (Nat.le_refl 0) (Nat.le_refl 0)
      · replace h := pos h h7
        refine J_al4 hx rfl rfl dL_sound_744 ?_
        refine J_il hx rfl dL_sound_745 ?_
        refine J_iconst hx (4 : Int32) dL_sound_747 rfl ?_
        obtain ⟨r8, hr9, h⟩ := bnd h
        refine J_rdL hx (kP_crate hC hW (okS_e hr9)) ml_L_118 cw_crate st_crate ini_L hy_crate (rest := []) rfl rfl (by decide) (by decide) (Nat.le_of_ble_eq_true rfl) (Nat.le_refl 0) (Nat.le_refl 0) dL_sound_748 ?_
        refine J_al4 hx rfl rfl dL_sound_751 ?_
        refine J_il hx rfl dL_sound_752 ?_
        refine J_iconst hx (4 : Int32) dL_sound_754 rfl ?_
        obtain ⟨r10, hr11, h⟩ := bnd h
        refine J_rdL hx (kP_crate hC hW (okS_e hr11)) ml_L_118 cw_crate st_crate ini_L hy_crate (rest := [.int r8]) rfl rfl (by decide) (by decide) (Nat.le_of_ble_eq_true rfl) (Nat.le_refl 0) (Nat.le_refl 0) dL_sound_755 ?_
        refine J_icmp_ne hx 793 dL_sound_758 rfl (fun h12 => ?_) (fun h12 => ?_)
        · replace h := neg h h12
          refine J_iconst hx (0 : Int32) dL_sound_793 rfl ?_
          obtain rfl := Option.some.inj h
          exact J_zretW (b := false) hx hr hW dL_sound_794 (Nat.le_refl 0) (Nat.le_refl 0)
        · replace h := pos h h12
          refine J_al4 hx rfl rfl dL_sound_761 ?_
          refine J_il hx rfl dL_sound_762 ?_
          refine J_iconst hx (5 : Int32) dL_sound_764 rfl ?_
          obtain ⟨r13, hr14, h⟩ := bnd h
          refine J_rdL hx (kP_crate hC hW (okS_e hr14)) ml_L_118 cw_crate st_crate ini_L hy_crate (rest := []) rfl rfl (by decide) (by decide) (Nat.le_of_ble_eq_true rfl) (Nat.le_refl 0) (Nat.le_refl 0) dL_sound_765 ?_
          refine J_al4 hx rfl rfl dL_sound_768 ?_
          refine J_il hx rfl dL_sound_769 ?_
          refine J_iconst hx (5 : Int32) dL_sound_771 rfl ?_
          obtain ⟨r15, hr16, h⟩ := bnd h
          refine J_rdL hx (kP_crate hC hW (okS_e hr16)) ml_L_118 cw_crate st_crate ini_L hy_crate (rest := [.int r13]) rfl rfl (by decide) (by decide) (Nat.le_of_ble_eq_true rfl) (Nat.le_refl 0) (Nat.le_refl 0) dL_sound_772 ?_
          refine J_icmp_ne hx 793 dL_sound_775 rfl (fun h17 => ?_) (fun h17 => ?_)
          · replace h := neg h h17
            refine J_iconst hx (0 : Int32) dL_sound_793 rfl ?_
            obtain rfl := Option.some.inj h
            exact J_zretW (b := false) hx hr hW dL_sound_794 (Nat.le_refl 0) (Nat.le_refl 0)
          · replace h := pos h h17
            refine J_il hx rfl dL_sound_778 ?_
            refine J_if_eq hx 795 dL_sound_780 rfl (fun h18 => ?_) (fun h18 => ?_)
            · replace h := pos h h18
              refine J_iinc hx (v' := (l7 + 1)) rfl rfl (by decide) (hc_of rfl) rfl dL_sound_795 ?_
              refine J_goto hx 247 dL_sound_798 rfl ?_
              refine J_lw (ls' := [some (.ref (B.1 + 0)), some (.int l1), some (.int l2), some (.int l3), some (.int l4), some (.int l5), some (.int l6), some (.int (l7 + 1)), none, none, none, none, none, none, none, none, none]) (lwS (lwS (lwS (lwS (lwS (lwS (lwS (lwS (lwN (lwN (lwN (lwN (lwN (lwN (lwN (lwN (lwN lwZ))))))))))))))))) ?_
              exact hk247 _ _ _ _ _ _ _ _  hW h
            · replace h := neg h h18
              refine J_al4 hx rfl rfl dL_sound_783 ?_
              refine J_il hx rfl dL_sound_784 ?_
              refine J_iconst hx (1 : Int32) dL_sound_786 rfl ?_
              obtain ⟨r19, hr20, h⟩ := bnd h
              refine J_rdL hx (kP_crate hC hW (okS_e hr20)) ml_L_118 cw_crate st_crate ini_L hy_crate (rest := []) rfl rfl (by decide) (by decide) (Nat.le_of_ble_eq_true rfl) (Nat.le_refl 0) (Nat.le_refl 0) dL_sound_787 ?_
              refine J_if_ne hx 795 dL_sound_790 rfl (fun h21 => ?_) (fun h21 => ?_)
              · replace h := neg h h21
                refine J_iinc hx (v' := (l7 + 1)) rfl rfl (by decide) (hc_of rfl) rfl dL_sound_795 ?_
                refine J_goto hx 247 dL_sound_798 rfl ?_
                refine J_lw (ls' := [some (.ref (B.1 + 0)), some (.int l1), some (.int l2), some (.int l3), some (.int l4), some (.int l5), some (.int l6), some (.int (l7 + 1)), none, none, none, none, none, none, none, none, none]) (lwS (lwS (lwS (lwS (lwS (lwS (lwS (lwS (lwN (lwN (lwN (lwN (lwN (lwN (lwN (lwN (lwN lwZ))))))))))))))))) ?_
                exact hk247 _ _ _ _ _ _ _ _  hW h
              · replace h := pos h h21
                refine J_iconst hx (0 : Int32) dL_sound_793 rfl ?_
                obtain rfl := Option.some.inj h
                exact J_zretW (b := false) hx hr hW dL_sound_794 (Nat.le_refl 0) (Nat.le_refl 0)
def sL_sound_670 (k247 : Wl → Int32 → Int32 → Int32 → Int32 → Int32 → Int32 → Int32 → Option (Bool × Wl)) (w : Wl) (l1 : Int32) (l2 : Int32) (l3 : Int32) (l4 : Int32) (l5 : Int32) (l6 : Int32) (l7 : Int32) (l8 : Int32) (l13 : Int32) (l14 : Int32) (l15 : Int32) (s0 : Int32) (s1 : Int32) : Option (Bool × Wl) := (if s0 = s1 then (if l14 = 0 then (if l8 < 0 then sL_sound_713 k247 w l1 l2 l3 l4 l5 l6 l7 l8 l13 l15 (1 : Int32) else (sO_crate w l8 (1 : Int32)).bind (fun r4 => (if r4 = (1 : Int32) then (sO_crate w l8 (13 : Int32)).bind (fun r7 => (if r7 = (1 : Int32) then sL_sound_713 k247 w l1 l2 l3 l4 l5 l6 l7 l8 l13 l15 (1 : Int32) else sL_sound_713 k247 w l1 l2 l3 l4 l5 l6 l7 l8 l13 l15 (0 : Int32))) else sL_sound_713 k247 w l1 l2 l3 l4 l5 l6 l7 l8 l13 l15 (0 : Int32)))) else sL_sound_713 k247 w l1 l2 l3 l4 l5 l6 l7 l8 l13 l15 (0 : Int32)) else some (false, w))
theorem tL_sound_670 {X : Cx} {B : Bs} {sz : Nat} {r : (Bool × Wl)} (hx : Fx X cL_sound 17 RL 9 0 0) (hC : GC (xΓ X) B) (htr : (xl X).stackTraces = false) (hr : Rt X (some .boolean) 0 0 (WΨ (xΓ X) B (some (.int (bI r.1))) r.2 sz)) (k247 : Wl → Int32 → Int32 → Int32 → Int32 → Int32 → Int32 → Int32 → Option (Bool × Wl)) (hk247 : ∀ (w : Wl) (l1 : Int32) (l2 : Int32) (l3 : Int32) (l4 : Int32) (l5 : Int32) (l6 : Int32) (l7 : Int32) {G : Gf} (hW : Wd (xΓ X) B w G) (h : k247 w l1 l2 l3 l4 l5 l6 l7 = some r), J X 17 G sz 0 0 247 [some (.ref (B.1 + 0)), some (.int l1), some (.int l2), some (.int l3), some (.int l4), some (.int l5), some (.int l6), some (.int l7), none, none, none, none, none, none, none, none, none] []) : ∀ (w : Wl) (l1 : Int32) (l2 : Int32) (l3 : Int32) (l4 : Int32) (l5 : Int32) (l6 : Int32) (l7 : Int32) (l8 : Int32) (l13 : Int32) (l14 : Int32) (l15 : Int32) (s0 : Int32) (s1 : Int32) {G : Gf} (hW : Wd (xΓ X) B w G) (h : sL_sound_670 k247  w l1 l2 l3 l4 l5 l6 l7 l8 l13 l14 l15 s0 s1 = some r), J X 17 G sz 0 0 670 [some (.ref (B.1 + 0)), some (.int l1), some (.int l2), some (.int l3), some (.int l4), some (.int l5), some (.int l6), some (.int l7), some (.int l8), none, none, none, none, some (.int l13), some (.int l14), some (.int l15), none] [.int s1, .int s0] := by
  intro w l1 l2 l3 l4 l5 l6 l7 l8 l13 l14 l15 s0 s1 G hW h
  unfold sL_sound_670 at h
  refine J_icmp_eq hx 675 dL_sound_670 rfl (fun h1 => ?_) (fun h1 => ?_)
  · replace h := pos h h1
    refine J_il hx rfl dL_sound_675 ?_
    refine J_if_ne hx 712 dL_sound_677 rfl (fun h2 => ?_) (fun h2 => ?_)
    · replace h := neg h h2
      refine J_iconst hx (0 : Int32) dL_sound_712 rfl ?_
      refine J_lw (ls' := [some (.ref (B.1 + 0)), some (.int l1), some (.int l2), some (.int l3), some (.int l4), some (.int l5), some (.int l6), some (.int l7), some (.int l8), none, none, none, none, some (.int l13), none, some (.int l15), none]) (lwS (lwS (lwS (lwS (lwS (lwS (lwS (lwS (lwS (lwN (lwN (lwN (lwN (lwS (lwN (lwS (lwN lwZ))))))))))))))))) ?_
      exact tL_sound_713 hx hC htr hr _ hk247 _ _ _ _ _ _ _ _ _ _ _ _  hW h
    · replace h := pos h h2
      refine J_il hx rfl dL_sound_680 ?_
      refine J_if_lt hx 708 dL_sound_682 rfl (fun h3 => ?_) (fun h3 => ?_)
      · replace h := pos h h3
        refine J_iconst hx (1 : Int32) dL_sound_708 rfl ?_
        refine J_goto hx 713 dL_sound_709 rfl ?_
        refine J_lw (ls' := [some (.ref (B.1 + 0)), some (.int l1), some (.int l2), some (.int l3), some (.int l4), some (.int l5), some (.int l6), some (.int l7), some (.int l8), none, none, none, none, some (.int l13), none, some (.int l15), none]) (lwS (lwS (lwS (lwS (lwS (lwS (lwS (lwS (lwS (lwN (lwN (lwN (lwN (lwS (lwN (lwS (lwN lwZ))))))))))))))))) ?_
        exact tL_sound_713 hx hC htr hr _ hk247 _ _ _ _ _ _ _ _ _ _ _ _  hW h
      · replace h := neg h h3
        refine J_al4 hx rfl rfl dL_sound_685 ?_
        refine J_il hx rfl dL_sound_686 ?_
        refine J_iconst hx (1 : Int32) dL_sound_688 rfl ?_
        obtain ⟨r4, hr5, h⟩ := bnd h
        refine J_rdL hx (kP_crate hC hW (okS_e hr5)) ml_L_118 cw_crate st_crate ini_L hy_crate (rest := []) rfl rfl (by decide) (by decide) (Nat.le_of_ble_eq_true rfl) (Nat.le_refl 0) (Nat.le_refl 0) dL_sound_689 ?_
        refine J_iconst hx (1 : Int32) dL_sound_692 rfl ?_
        refine J_icmp_ne hx 712 dL_sound_693 rfl (fun h6 => ?_) (fun h6 => ?_)
        · replace h := neg h h6
          refine J_iconst hx (0 : Int32) dL_sound_712 rfl ?_
          refine J_lw (ls' := [some (.ref (B.1 + 0)), some (.int l1), some (.int l2), some (.int l3), some (.int l4), some (.int l5), some (.int l6), some (.int l7), some (.int l8), none, none, none, none, some (.int l13), none, some (.int l15), none]) (lwS (lwS (lwS (lwS (lwS (lwS (lwS (lwS (lwS (lwN (lwN (lwN (lwN (lwS (lwN (lwS (lwN lwZ))))))))))))))))) ?_
          exact tL_sound_713 hx hC htr hr _ hk247 _ _ _ _ _ _ _ _ _ _ _ _  hW h
        · replace h := pos h h6
          refine J_al4 hx rfl rfl dL_sound_696 ?_
          refine J_il hx rfl dL_sound_697 ?_
          refine J_bipush hx (13 : Int32) dL_sound_699 rfl ?_
          obtain ⟨r7, hr8, h⟩ := bnd h
          refine J_rdL hx (kP_crate hC hW (okS_e hr8)) ml_L_118 cw_crate st_crate ini_L hy_crate (rest := []) rfl rfl (by decide) (by decide) (Nat.le_of_ble_eq_true rfl) (Nat.le_refl 0) (Nat.le_refl 0) dL_sound_701 ?_
          refine J_iconst hx (1 : Int32) dL_sound_704 rfl ?_
          refine J_icmp_ne hx 712 dL_sound_705 rfl (fun h9 => ?_) (fun h9 => ?_)
          · replace h := neg h h9
            refine J_iconst hx (0 : Int32) dL_sound_712 rfl ?_
            refine J_lw (ls' := [some (.ref (B.1 + 0)), some (.int l1), some (.int l2), some (.int l3), some (.int l4), some (.int l5), some (.int l6), some (.int l7), some (.int l8), none, none, none, none, some (.int l13), none, some (.int l15), none]) (lwS (lwS (lwS (lwS (lwS (lwS (lwS (lwS (lwS (lwN (lwN (lwN (lwN (lwS (lwN (lwS (lwN lwZ))))))))))))))))) ?_
            exact tL_sound_713 hx hC htr hr _ hk247 _ _ _ _ _ _ _ _ _ _ _ _  hW h
          · replace h := pos h h9
            refine J_iconst hx (1 : Int32) dL_sound_708 rfl ?_
            refine J_goto hx 713 dL_sound_709 rfl ?_
            refine J_lw (ls' := [some (.ref (B.1 + 0)), some (.int l1), some (.int l2), some (.int l3), some (.int l4), some (.int l5), some (.int l6), some (.int l7), some (.int l8), none, none, none, none, some (.int l13), none, some (.int l15), none]) (lwS (lwS (lwS (lwS (lwS (lwS (lwS (lwS (lwS (lwN (lwN (lwN (lwN (lwS (lwN (lwS (lwN lwZ))))))))))))))))) ?_
            exact tL_sound_713 hx hC htr hr _ hk247 _ _ _ _ _ _ _ _ _ _ _ _  hW h
  · replace h := neg h h1
    refine J_iconst hx (0 : Int32) dL_sound_673 rfl ?_
    obtain rfl := Option.some.inj h
    exact J_zretW (b := false) hx hr hW dL_sound_674 (Nat.le_refl 0) (Nat.le_refl 0)
def sL_sound_655 (k247 : Wl → Int32 → Int32 → Int32 → Int32 → Int32 → Int32 → Int32 → Option (Bool × Wl)) (w : Wl) (l1 : Int32) (l2 : Int32) (l3 : Int32) (l4 : Int32) (l5 : Int32) (l6 : Int32) (l7 : Int32) (l8 : Int32) (l13 : Int32) (l14 : Int32) (l15 : Int32) (s0 : Int32) : Option (Bool × Wl) := (if l13 = 0 then (if l14 = 0 then sL_sound_670 k247 w l1 l2 l3 l4 l5 l6 l7 l8 l13 l14 l15 s0 (0 : Int32) else sL_sound_670 k247 w l1 l2 l3 l4 l5 l6 l7 l8 l13 l14 l15 s0 (1 : Int32)) else sL_sound_670 k247 w l1 l2 l3 l4 l5 l6 l7 l8 l13 l14 l15 s0 (1 : Int32))
theorem tL_sound_655 {X : Cx} {B : Bs} {sz : Nat} {r : (Bool × Wl)} (hx : Fx X cL_sound 17 RL 9 0 0) (hC : GC (xΓ X) B) (htr : (xl X).stackTraces = false) (hr : Rt X (some .boolean) 0 0 (WΨ (xΓ X) B (some (.int (bI r.1))) r.2 sz)) (k247 : Wl → Int32 → Int32 → Int32 → Int32 → Int32 → Int32 → Int32 → Option (Bool × Wl)) (hk247 : ∀ (w : Wl) (l1 : Int32) (l2 : Int32) (l3 : Int32) (l4 : Int32) (l5 : Int32) (l6 : Int32) (l7 : Int32) {G : Gf} (hW : Wd (xΓ X) B w G) (h : k247 w l1 l2 l3 l4 l5 l6 l7 = some r), J X 17 G sz 0 0 247 [some (.ref (B.1 + 0)), some (.int l1), some (.int l2), some (.int l3), some (.int l4), some (.int l5), some (.int l6), some (.int l7), none, none, none, none, none, none, none, none, none] []) : ∀ (w : Wl) (l1 : Int32) (l2 : Int32) (l3 : Int32) (l4 : Int32) (l5 : Int32) (l6 : Int32) (l7 : Int32) (l8 : Int32) (l13 : Int32) (l14 : Int32) (l15 : Int32) (s0 : Int32) {G : Gf} (hW : Wd (xΓ X) B w G) (h : sL_sound_655 k247  w l1 l2 l3 l4 l5 l6 l7 l8 l13 l14 l15 s0 = some r), J X 17 G sz 0 0 655 [some (.ref (B.1 + 0)), some (.int l1), some (.int l2), some (.int l3), some (.int l4), some (.int l5), some (.int l6), some (.int l7), some (.int l8), none, none, none, none, some (.int l13), some (.int l14), some (.int l15), none] [.int s0] := by
  intro w l1 l2 l3 l4 l5 l6 l7 l8 l13 l14 l15 s0 G hW h
  unfold sL_sound_655 at h
  refine J_il hx rfl dL_sound_655 ?_
  refine J_if_ne hx 665 dL_sound_657 rfl (fun h1 => ?_) (fun h1 => ?_)
  · replace h := neg h h1
    refine J_iconst hx (1 : Int32) dL_sound_665 rfl ?_
    refine J_goto hx 670 dL_sound_666 rfl ?_
    exact tL_sound_670 hx hC htr hr _ hk247 _ _ _ _ _ _ _ _ _ _ _ _ _ _  hW h
  · replace h := pos h h1
    refine J_il hx rfl dL_sound_660 ?_
    refine J_if_eq hx 669 dL_sound_662 rfl (fun h2 => ?_) (fun h2 => ?_)
    · replace h := pos h h2
      refine J_iconst hx (0 : Int32) dL_sound_669 rfl ?_
      exact tL_sound_670 hx hC htr hr _ hk247 _ _ _ _ _ _ _ _ _ _ _ _ _ _  hW h
    · replace h := neg h h2
      refine J_iconst hx (1 : Int32) dL_sound_665 rfl ?_
      refine J_goto hx 670 dL_sound_666 rfl ?_
      exact tL_sound_670 hx hC htr hr _ hk247 _ _ _ _ _ _ _ _ _ _ _ _ _ _  hW h
def sL_sound_635 (k247 : Wl → Int32 → Int32 → Int32 → Int32 → Int32 → Int32 → Int32 → Option (Bool × Wl)) (w : Wl) (l1 : Int32) (l2 : Int32) (l3 : Int32) (l4 : Int32) (l5 : Int32) (l6 : Int32) (l7 : Int32) (l8 : Int32) (l13 : Int32) (l14 : Int32) (l15 : Int32) (s0 : Int32) (s1 : Int32) : Option (Bool × Wl) := (if s0 = s1 then (sO_crate w l7 (9 : Int32)).bind (fun r2 => (if r2 = (-1 : Int32) then sL_sound_655 k247 w l1 l2 l3 l4 l5 l6 l7 l8 l13 l14 l15 (1 : Int32) else sL_sound_655 k247 w l1 l2 l3 l4 l5 l6 l7 l8 l13 l14 l15 (0 : Int32))) else some (false, w))
theorem tL_sound_635 {X : Cx} {B : Bs} {sz : Nat} {r : (Bool × Wl)} (hx : Fx X cL_sound 17 RL 9 0 0) (hC : GC (xΓ X) B) (htr : (xl X).stackTraces = false) (hr : Rt X (some .boolean) 0 0 (WΨ (xΓ X) B (some (.int (bI r.1))) r.2 sz)) (k247 : Wl → Int32 → Int32 → Int32 → Int32 → Int32 → Int32 → Int32 → Option (Bool × Wl)) (hk247 : ∀ (w : Wl) (l1 : Int32) (l2 : Int32) (l3 : Int32) (l4 : Int32) (l5 : Int32) (l6 : Int32) (l7 : Int32) {G : Gf} (hW : Wd (xΓ X) B w G) (h : k247 w l1 l2 l3 l4 l5 l6 l7 = some r), J X 17 G sz 0 0 247 [some (.ref (B.1 + 0)), some (.int l1), some (.int l2), some (.int l3), some (.int l4), some (.int l5), some (.int l6), some (.int l7), none, none, none, none, none, none, none, none, none] []) : ∀ (w : Wl) (l1 : Int32) (l2 : Int32) (l3 : Int32) (l4 : Int32) (l5 : Int32) (l6 : Int32) (l7 : Int32) (l8 : Int32) (l13 : Int32) (l14 : Int32) (l15 : Int32) (s0 : Int32) (s1 : Int32) {G : Gf} (hW : Wd (xΓ X) B w G) (h : sL_sound_635 k247  w l1 l2 l3 l4 l5 l6 l7 l8 l13 l14 l15 s0 s1 = some r), J X 17 G sz 0 0 635 [some (.ref (B.1 + 0)), some (.int l1), some (.int l2), some (.int l3), some (.int l4), some (.int l5), some (.int l6), some (.int l7), some (.int l8), none, none, none, none, some (.int l13), some (.int l14), some (.int l15), none] [.int s1, .int s0] := by
  intro w l1 l2 l3 l4 l5 l6 l7 l8 l13 l14 l15 s0 s1 G hW h
  unfold sL_sound_635 at h
  refine J_icmp_ne hx 673 dL_sound_635 rfl (fun h1 => ?_) (fun h1 => ?_)
  · replace h := neg h h1
    refine J_iconst hx (0 : Int32) dL_sound_673 rfl ?_
    obtain rfl := Option.some.inj h
    exact J_zretW (b := false) hx hr hW dL_sound_674 (Nat.le_refl 0) (Nat.le_refl 0)
  · replace h := pos h h1
    refine J_al4 hx rfl rfl dL_sound_638 ?_
    refine J_il hx rfl dL_sound_639 ?_
    refine J_bipush hx (9 : Int32) dL_sound_641 rfl ?_
    obtain ⟨r2, hr3, h⟩ := bnd h
    refine J_rdL hx (kP_crate hC hW (okS_e hr3)) ml_L_118 cw_crate st_crate ini_L hy_crate (rest := []) rfl rfl (by decide) (by decide) (Nat.le_of_ble_eq_true rfl) (Nat.le_refl 0) (Nat.le_refl 0) dL_sound_643 ?_
    refine J_iconst hx (-1 : Int32) dL_sound_646 rfl ?_
    refine J_icmp_ne hx 654 dL_sound_647 rfl (fun h4 => ?_) (fun h4 => ?_)
    · replace h := neg h h4
      refine J_iconst hx (0 : Int32) dL_sound_654 rfl ?_
      exact tL_sound_655 hx hC htr hr _ hk247 _ _ _ _ _ _ _ _ _ _ _ _ _  hW h
    · replace h := pos h h4
      refine J_iconst hx (1 : Int32) dL_sound_650 rfl ?_
      refine J_goto hx 655 dL_sound_651 rfl ?_
      exact tL_sound_655 hx hC htr hr _ hk247 _ _ _ _ _ _ _ _ _ _ _ _ _  hW h
def sL_sound_613 (k247 : Wl → Int32 → Int32 → Int32 → Int32 → Int32 → Int32 → Int32 → Option (Bool × Wl)) (w : Wl) (l1 : Int32) (l2 : Int32) (l3 : Int32) (l4 : Int32) (l5 : Int32) (l6 : Int32) (l7 : Int32) (l8 : Int32) (l13 : Int32) (l14 : Int32) (l15 : Int32) (s0 : Int32) (s1 : Int32) : Option (Bool × Wl) := (if s0 = s1 then (sO_crate w l7 (8 : Int32)).bind (fun r2 => (if r2 = (-1 : Int32) then sL_sound_635 k247 w l1 l2 l3 l4 l5 l6 l7 l8 l13 l14 l15 l13 (1 : Int32) else sL_sound_635 k247 w l1 l2 l3 l4 l5 l6 l7 l8 l13 l14 l15 l13 (0 : Int32))) else some (false, w))
theorem tL_sound_613 {X : Cx} {B : Bs} {sz : Nat} {r : (Bool × Wl)} (hx : Fx X cL_sound 17 RL 9 0 0) (hC : GC (xΓ X) B) (htr : (xl X).stackTraces = false) (hr : Rt X (some .boolean) 0 0 (WΨ (xΓ X) B (some (.int (bI r.1))) r.2 sz)) (k247 : Wl → Int32 → Int32 → Int32 → Int32 → Int32 → Int32 → Int32 → Option (Bool × Wl)) (hk247 : ∀ (w : Wl) (l1 : Int32) (l2 : Int32) (l3 : Int32) (l4 : Int32) (l5 : Int32) (l6 : Int32) (l7 : Int32) {G : Gf} (hW : Wd (xΓ X) B w G) (h : k247 w l1 l2 l3 l4 l5 l6 l7 = some r), J X 17 G sz 0 0 247 [some (.ref (B.1 + 0)), some (.int l1), some (.int l2), some (.int l3), some (.int l4), some (.int l5), some (.int l6), some (.int l7), none, none, none, none, none, none, none, none, none] []) : ∀ (w : Wl) (l1 : Int32) (l2 : Int32) (l3 : Int32) (l4 : Int32) (l5 : Int32) (l6 : Int32) (l7 : Int32) (l8 : Int32) (l13 : Int32) (l14 : Int32) (l15 : Int32) (s0 : Int32) (s1 : Int32) {G : Gf} (hW : Wd (xΓ X) B w G) (h : sL_sound_613 k247  w l1 l2 l3 l4 l5 l6 l7 l8 l13 l14 l15 s0 s1 = some r), J X 17 G sz 0 0 613 [some (.ref (B.1 + 0)), some (.int l1), some (.int l2), some (.int l3), some (.int l4), some (.int l5), some (.int l6), some (.int l7), some (.int l8), none, none, none, none, some (.int l13), some (.int l14), some (.int l15), none] [.int s1, .int s0] := by
  intro w l1 l2 l3 l4 l5 l6 l7 l8 l13 l14 l15 s0 s1 G hW h
  unfold sL_sound_613 at h
  refine J_icmp_ne hx 673 dL_sound_613 rfl (fun h1 => ?_) (fun h1 => ?_)
  · replace h := neg h h1
    refine J_iconst hx (0 : Int32) dL_sound_673 rfl ?_
    obtain rfl := Option.some.inj h
    exact J_zretW (b := false) hx hr hW dL_sound_674 (Nat.le_refl 0) (Nat.le_refl 0)
  · replace h := pos h h1
    refine J_il hx rfl dL_sound_616 ?_
    refine J_al4 hx rfl rfl dL_sound_618 ?_
    refine J_il hx rfl dL_sound_619 ?_
    refine J_bipush hx (8 : Int32) dL_sound_621 rfl ?_
    obtain ⟨r2, hr3, h⟩ := bnd h
    refine J_rdL hx (kP_crate hC hW (okS_e hr3)) ml_L_118 cw_crate st_crate ini_L hy_crate (rest := [.int l13]) rfl rfl (by decide) (by decide) (Nat.le_of_ble_eq_true rfl) (Nat.le_refl 0) (Nat.le_refl 0) dL_sound_623 ?_
    refine J_iconst hx (-1 : Int32) dL_sound_626 rfl ?_
    refine J_icmp_ne hx 634 dL_sound_627 rfl (fun h4 => ?_) (fun h4 => ?_)
    · replace h := neg h h4
      refine J_iconst hx (0 : Int32) dL_sound_634 rfl ?_
      exact tL_sound_635 hx hC htr hr _ hk247 _ _ _ _ _ _ _ _ _ _ _ _ _ _  hW h
    · replace h := pos h h4
      refine J_iconst hx (1 : Int32) dL_sound_630 rfl ?_
      refine J_goto hx 635 dL_sound_631 rfl ?_
      exact tL_sound_635 hx hC htr hr _ hk247 _ _ _ _ _ _ _ _ _ _ _ _ _ _  hW h
def sL_sound_588 (k247 : Wl → Int32 → Int32 → Int32 → Int32 → Int32 → Int32 → Int32 → Option (Bool × Wl)) (w : Wl) (l1 : Int32) (l2 : Int32) (l3 : Int32) (l4 : Int32) (l5 : Int32) (l6 : Int32) (l7 : Int32) (l8 : Int32) (l13 : Int32) (l14 : Int32) (l15 : Int32) (s0 : Int32) (s1 : Int32) : Option (Bool × Wl) := (if s0 = s1 then (sO_crate w l7 (5 : Int32)).bind (fun r2 => (sO_whole w (0 : Int32)).bind (fun r4 => (if r2 ≤ r4 then sL_sound_613 k247 w l1 l2 l3 l4 l5 l6 l7 l8 l13 l14 l15 l14 (0 : Int32) else sL_sound_613 k247 w l1 l2 l3 l4 l5 l6 l7 l8 l13 l14 l15 l14 (1 : Int32)))) else some (false, w))
theorem tL_sound_588 {X : Cx} {B : Bs} {sz : Nat} {r : (Bool × Wl)} (hx : Fx X cL_sound 17 RL 9 0 0) (hC : GC (xΓ X) B) (htr : (xl X).stackTraces = false) (hr : Rt X (some .boolean) 0 0 (WΨ (xΓ X) B (some (.int (bI r.1))) r.2 sz)) (k247 : Wl → Int32 → Int32 → Int32 → Int32 → Int32 → Int32 → Int32 → Option (Bool × Wl)) (hk247 : ∀ (w : Wl) (l1 : Int32) (l2 : Int32) (l3 : Int32) (l4 : Int32) (l5 : Int32) (l6 : Int32) (l7 : Int32) {G : Gf} (hW : Wd (xΓ X) B w G) (h : k247 w l1 l2 l3 l4 l5 l6 l7 = some r), J X 17 G sz 0 0 247 [some (.ref (B.1 + 0)), some (.int l1), some (.int l2), some (.int l3), some (.int l4), some (.int l5), some (.int l6), some (.int l7), none, none, none, none, none, none, none, none, none] []) : ∀ (w : Wl) (l1 : Int32) (l2 : Int32) (l3 : Int32) (l4 : Int32) (l5 : Int32) (l6 : Int32) (l7 : Int32) (l8 : Int32) (l13 : Int32) (l14 : Int32) (l15 : Int32) (s0 : Int32) (s1 : Int32) {G : Gf} (hW : Wd (xΓ X) B w G) (h : sL_sound_588 k247  w l1 l2 l3 l4 l5 l6 l7 l8 l13 l14 l15 s0 s1 = some r), J X 17 G sz 0 0 588 [some (.ref (B.1 + 0)), some (.int l1), some (.int l2), some (.int l3), some (.int l4), some (.int l5), some (.int l6), some (.int l7), some (.int l8), none, none, none, none, some (.int l13), some (.int l14), some (.int l15), none] [.int s1, .int s0] := by
  intro w l1 l2 l3 l4 l5 l6 l7 l8 l13 l14 l15 s0 s1 G hW h
  unfold sL_sound_588 at h
  refine J_icmp_ne hx 673 dL_sound_588 rfl (fun h1 => ?_) (fun h1 => ?_)
  · replace h := neg h h1
    refine J_iconst hx (0 : Int32) dL_sound_673 rfl ?_
    obtain rfl := Option.some.inj h
    exact J_zretW (b := false) hx hr hW dL_sound_674 (Nat.le_refl 0) (Nat.le_refl 0)
  · replace h := pos h h1
    refine J_il hx rfl dL_sound_591 ?_
    refine J_al4 hx rfl rfl dL_sound_593 ?_
    refine J_il hx rfl dL_sound_594 ?_
    refine J_iconst hx (5 : Int32) dL_sound_596 rfl ?_
    obtain ⟨r2, hr3, h⟩ := bnd h
    refine J_rdL hx (kP_crate hC hW (okS_e hr3)) ml_L_118 cw_crate st_crate ini_L hy_crate (rest := [.int l14]) rfl rfl (by decide) (by decide) (Nat.le_of_ble_eq_true rfl) (Nat.le_refl 0) (Nat.le_refl 0) dL_sound_597 ?_
    refine J_al4 hx rfl rfl dL_sound_600 ?_
    refine J_iconst hx (0 : Int32) dL_sound_601 rfl ?_
    obtain ⟨r4, hr5, h⟩ := bnd h
    refine J_rdL hx (kP_whole hC hW (okS_e hr5)) ml_L_110 cw_whole st_whole ini_L hy_whole (rest := [.int r2, .int l14]) rfl rfl (by decide) (by decide) (Nat.le_of_ble_eq_true rfl) (Nat.le_refl 0) (Nat.le_refl 0) dL_sound_602 ?_
    refine J_icmp_le hx 612 dL_sound_605 rfl (fun h6 => ?_) (fun h6 => ?_)
    · replace h := pos h h6
      refine J_iconst hx (0 : Int32) dL_sound_612 rfl ?_
      exact tL_sound_613 hx hC htr hr _ hk247 _ _ _ _ _ _ _ _ _ _ _ _ _ _  hW h
    · replace h := neg h h6
      refine J_iconst hx (1 : Int32) dL_sound_608 rfl ?_
      refine J_goto hx 613 dL_sound_609 rfl ?_
      exact tL_sound_613 hx hC htr hr _ hk247 _ _ _ _ _ _ _ _ _ _ _ _ _ _  hW h
def sL_sound_571 (k247 : Wl → Int32 → Int32 → Int32 → Int32 → Int32 → Int32 → Int32 → Option (Bool × Wl)) (w : Wl) (l1 : Int32) (l2 : Int32) (l3 : Int32) (l4 : Int32) (l5 : Int32) (l6 : Int32) (l7 : Int32) (l8 : Int32) (l13 : Int32) (l14 : Int32) (l15 : Int32) : Option (Bool × Wl) := (sO_crate w l7 (4 : Int32)).bind (fun r1 => (if r1 < 0 then sL_sound_588 k247 w l1 l2 l3 l4 l5 l6 l7 l8 l13 l14 l15 l14 (0 : Int32) else sL_sound_588 k247 w l1 l2 l3 l4 l5 l6 l7 l8 l13 l14 l15 l14 (1 : Int32)))
theorem tL_sound_571 {X : Cx} {B : Bs} {sz : Nat} {r : (Bool × Wl)} (hx : Fx X cL_sound 17 RL 9 0 0) (hC : GC (xΓ X) B) (htr : (xl X).stackTraces = false) (hr : Rt X (some .boolean) 0 0 (WΨ (xΓ X) B (some (.int (bI r.1))) r.2 sz)) (k247 : Wl → Int32 → Int32 → Int32 → Int32 → Int32 → Int32 → Int32 → Option (Bool × Wl)) (hk247 : ∀ (w : Wl) (l1 : Int32) (l2 : Int32) (l3 : Int32) (l4 : Int32) (l5 : Int32) (l6 : Int32) (l7 : Int32) {G : Gf} (hW : Wd (xΓ X) B w G) (h : k247 w l1 l2 l3 l4 l5 l6 l7 = some r), J X 17 G sz 0 0 247 [some (.ref (B.1 + 0)), some (.int l1), some (.int l2), some (.int l3), some (.int l4), some (.int l5), some (.int l6), some (.int l7), none, none, none, none, none, none, none, none, none] []) : ∀ (w : Wl) (l1 : Int32) (l2 : Int32) (l3 : Int32) (l4 : Int32) (l5 : Int32) (l6 : Int32) (l7 : Int32) (l8 : Int32) (l13 : Int32) (l14 : Int32) (l15 : Int32) {G : Gf} (hW : Wd (xΓ X) B w G) (h : sL_sound_571 k247  w l1 l2 l3 l4 l5 l6 l7 l8 l13 l14 l15 = some r), J X 17 G sz 0 0 571 [some (.ref (B.1 + 0)), some (.int l1), some (.int l2), some (.int l3), some (.int l4), some (.int l5), some (.int l6), some (.int l7), some (.int l8), none, none, none, none, some (.int l13), some (.int l14), some (.int l15), none] [] := by
  intro w l1 l2 l3 l4 l5 l6 l7 l8 l13 l14 l15 G hW h
  unfold sL_sound_571 at h
  refine J_il hx rfl dL_sound_571 ?_
  refine J_al4 hx rfl rfl dL_sound_573 ?_
  refine J_il hx rfl dL_sound_574 ?_
  refine J_iconst hx (4 : Int32) dL_sound_576 rfl ?_
  obtain ⟨r1, hr2, h⟩ := bnd h
  refine J_rdL hx (kP_crate hC hW (okS_e hr2)) ml_L_118 cw_crate st_crate ini_L hy_crate (rest := [.int l14]) rfl rfl (by decide) (by decide) (Nat.le_of_ble_eq_true rfl) (Nat.le_refl 0) (Nat.le_refl 0) dL_sound_577 ?_
  refine J_if_lt hx 587 dL_sound_580 rfl (fun h3 => ?_) (fun h3 => ?_)
  · replace h := pos h h3
    refine J_iconst hx (0 : Int32) dL_sound_587 rfl ?_
    exact tL_sound_588 hx hC htr hr _ hk247 _ _ _ _ _ _ _ _ _ _ _ _ _ _  hW h
  · replace h := neg h h3
    refine J_iconst hx (1 : Int32) dL_sound_583 rfl ?_
    refine J_goto hx 588 dL_sound_584 rfl ?_
    exact tL_sound_588 hx hC htr hr _ hk247 _ _ _ _ _ _ _ _ _ _ _ _ _ _  hW h
def sL_sound_561 (k247 : Wl → Int32 → Int32 → Int32 → Int32 → Int32 → Int32 → Int32 → Option (Bool × Wl)) (w : Wl) (l1 : Int32) (l2 : Int32) (l3 : Int32) (l4 : Int32) (l5 : Int32) (l6 : Int32) (l7 : Int32) (l8 : Int32) (l13 : Int32) (l14 : Int32) (l15 : Int32) : Option (Bool × Wl) := (if l14 = 0 then sL_sound_571 k247 w l1 l2 l3 l4 l5 l6 l7 l8 l13 l14 l15 else (if l15 = 0 then sL_sound_571 k247 w l1 l2 l3 l4 l5 l6 l7 l8 l13 l14 l15 else some (false, w)))
theorem tL_sound_561 {X : Cx} {B : Bs} {sz : Nat} {r : (Bool × Wl)} (hx : Fx X cL_sound 17 RL 9 0 0) (hC : GC (xΓ X) B) (htr : (xl X).stackTraces = false) (hr : Rt X (some .boolean) 0 0 (WΨ (xΓ X) B (some (.int (bI r.1))) r.2 sz)) (k247 : Wl → Int32 → Int32 → Int32 → Int32 → Int32 → Int32 → Int32 → Option (Bool × Wl)) (hk247 : ∀ (w : Wl) (l1 : Int32) (l2 : Int32) (l3 : Int32) (l4 : Int32) (l5 : Int32) (l6 : Int32) (l7 : Int32) {G : Gf} (hW : Wd (xΓ X) B w G) (h : k247 w l1 l2 l3 l4 l5 l6 l7 = some r), J X 17 G sz 0 0 247 [some (.ref (B.1 + 0)), some (.int l1), some (.int l2), some (.int l3), some (.int l4), some (.int l5), some (.int l6), some (.int l7), none, none, none, none, none, none, none, none, none] []) : ∀ (w : Wl) (l1 : Int32) (l2 : Int32) (l3 : Int32) (l4 : Int32) (l5 : Int32) (l6 : Int32) (l7 : Int32) (l8 : Int32) (l13 : Int32) (l14 : Int32) (l15 : Int32) {G : Gf} (hW : Wd (xΓ X) B w G) (h : sL_sound_561 k247  w l1 l2 l3 l4 l5 l6 l7 l8 l13 l14 l15 = some r), J X 17 G sz 0 0 561 [some (.ref (B.1 + 0)), some (.int l1), some (.int l2), some (.int l3), some (.int l4), some (.int l5), some (.int l6), some (.int l7), some (.int l8), none, none, none, none, some (.int l13), some (.int l14), some (.int l15), none] [] := by
  intro w l1 l2 l3 l4 l5 l6 l7 l8 l13 l14 l15 G hW h
  unfold sL_sound_561 at h
  refine J_il hx rfl dL_sound_561 ?_
  refine J_if_eq hx 571 dL_sound_563 rfl (fun h1 => ?_) (fun h1 => ?_)
  · replace h := pos h h1
    exact tL_sound_571 hx hC htr hr _ hk247 _ _ _ _ _ _ _ _ _ _ _ _  hW h
  · replace h := neg h h1
    refine J_il hx rfl dL_sound_566 ?_
    refine J_if_ne hx 673 dL_sound_568 rfl (fun h2 => ?_) (fun h2 => ?_)
    · replace h := neg h h2
      refine J_iconst hx (0 : Int32) dL_sound_673 rfl ?_
      obtain rfl := Option.some.inj h
      exact J_zretW (b := false) hx hr hW dL_sound_674 (Nat.le_refl 0) (Nat.le_refl 0)
    · replace h := pos h h2
      exact tL_sound_571 hx hC htr hr _ hk247 _ _ _ _ _ _ _ _ _ _ _ _  hW h
def sL_sound_499 (k247 : Wl → Int32 → Int32 → Int32 → Int32 → Int32 → Int32 → Int32 → Option (Bool × Wl)) (w : Wl) (l1 : Int32) (l2 : Int32) (l4 : Int32) (l5 : Int32) (l6 : Int32) (l7 : Int32) (l8 : Int32) (l9 : Int32) (l10 : Int32) (l11 : Int32) (l12 : Int32) (l13 : Int32) (l14 : Int32) (l15 : Int32) (s0 : Int32) (s1 : Int32) : Option (Bool × Wl) := (sO_crate w l7 (10 : Int32)).bind (fun r1 => (if r1 = l9 then (sO_crate w l7 (12 : Int32)).bind (fun r4 => (if r4 = l10 then (sO_crate w l7 (11 : Int32)).bind (fun r7 => (if r7 = l11 then (sO_allReadyAt w l7).bind (fun r10 => (if r10.1 = l12 then (if l13 = 0 then sL_sound_561 k247 r10.2 l1 l2 (s0 + s1) l4 l5 l6 l7 l8 l13 l14 l15 else (if l15 = 0 then some (false, r10.2) else sL_sound_561 k247 r10.2 l1 l2 (s0 + s1) l4 l5 l6 l7 l8 l13 l14 l15)) else some (false, r10.2))) else some (false, w))) else some (false, w))) else some (false, w)))
theorem tL_sound_499 {X : Cx} {B : Bs} {sz : Nat} {r : (Bool × Wl)} (hx : Fx X cL_sound 17 RL 9 0 0) (hC : GC (xΓ X) B) (htr : (xl X).stackTraces = false) (hr : Rt X (some .boolean) 0 0 (WΨ (xΓ X) B (some (.int (bI r.1))) r.2 sz)) (k247 : Wl → Int32 → Int32 → Int32 → Int32 → Int32 → Int32 → Int32 → Option (Bool × Wl)) (hk247 : ∀ (w : Wl) (l1 : Int32) (l2 : Int32) (l3 : Int32) (l4 : Int32) (l5 : Int32) (l6 : Int32) (l7 : Int32) {G : Gf} (hW : Wd (xΓ X) B w G) (h : k247 w l1 l2 l3 l4 l5 l6 l7 = some r), J X 17 G sz 0 0 247 [some (.ref (B.1 + 0)), some (.int l1), some (.int l2), some (.int l3), some (.int l4), some (.int l5), some (.int l6), some (.int l7), none, none, none, none, none, none, none, none, none] []) : ∀ (w : Wl) (l1 : Int32) (l2 : Int32) (l4 : Int32) (l5 : Int32) (l6 : Int32) (l7 : Int32) (l8 : Int32) (l9 : Int32) (l10 : Int32) (l11 : Int32) (l12 : Int32) (l13 : Int32) (l14 : Int32) (l15 : Int32) (s0 : Int32) (s1 : Int32) {G : Gf} (hW : Wd (xΓ X) B w G) (h : sL_sound_499 k247  w l1 l2 l4 l5 l6 l7 l8 l9 l10 l11 l12 l13 l14 l15 s0 s1 = some r), J X 17 G sz 0 0 499 [some (.ref (B.1 + 0)), some (.int l1), some (.int l2), none, some (.int l4), some (.int l5), some (.int l6), some (.int l7), some (.int l8), some (.int l9), some (.int l10), some (.int l11), some (.int l12), some (.int l13), some (.int l14), some (.int l15), none] [.int s1, .int s0] := by
  intro w l1 l2 l4 l5 l6 l7 l8 l9 l10 l11 l12 l13 l14 l15 s0 s1 G hW h
  unfold sL_sound_499 at h
  refine J_iadd hx dL_sound_499 ?_
  refine J_is4 hx rfl (by decide) (hc_of rfl) rfl dL_sound_500 ?_
  refine J_al4 hx rfl rfl dL_sound_501 ?_
  refine J_il hx rfl dL_sound_502 ?_
  refine J_bipush hx (10 : Int32) dL_sound_504 rfl ?_
  obtain ⟨r1, hr2, h⟩ := bnd h
  refine J_rdL hx (kP_crate hC hW (okS_e hr2)) ml_L_118 cw_crate st_crate ini_L hy_crate (rest := []) rfl rfl (by decide) (by decide) (Nat.le_of_ble_eq_true rfl) (Nat.le_refl 0) (Nat.le_refl 0) dL_sound_506 ?_
  refine J_il hx rfl dL_sound_509 ?_
  refine J_icmp_ne hx 673 dL_sound_511 rfl (fun h3 => ?_) (fun h3 => ?_)
  · replace h := neg h h3
    refine J_iconst hx (0 : Int32) dL_sound_673 rfl ?_
    obtain rfl := Option.some.inj h
    exact J_zretW (b := false) hx hr hW dL_sound_674 (Nat.le_refl 0) (Nat.le_refl 0)
  · replace h := pos h h3
    refine J_al4 hx rfl rfl dL_sound_514 ?_
    refine J_il hx rfl dL_sound_515 ?_
    refine J_bipush hx (12 : Int32) dL_sound_517 rfl ?_
    obtain ⟨r4, hr5, h⟩ := bnd h
    refine J_rdL hx (kP_crate hC hW (okS_e hr5)) ml_L_118 cw_crate st_crate ini_L hy_crate (rest := []) rfl rfl (by decide) (by decide) (Nat.le_of_ble_eq_true rfl) (Nat.le_refl 0) (Nat.le_refl 0) dL_sound_519 ?_
    refine J_il hx rfl dL_sound_522 ?_
    refine J_icmp_ne hx 673 dL_sound_524 rfl (fun h6 => ?_) (fun h6 => ?_)
    · replace h := neg h h6
      refine J_iconst hx (0 : Int32) dL_sound_673 rfl ?_
      obtain rfl := Option.some.inj h
      exact J_zretW (b := false) hx hr hW dL_sound_674 (Nat.le_refl 0) (Nat.le_refl 0)
    · replace h := pos h h6
      refine J_al4 hx rfl rfl dL_sound_527 ?_
      refine J_il hx rfl dL_sound_528 ?_
      refine J_bipush hx (11 : Int32) dL_sound_530 rfl ?_
      obtain ⟨r7, hr8, h⟩ := bnd h
      refine J_rdL hx (kP_crate hC hW (okS_e hr8)) ml_L_118 cw_crate st_crate ini_L hy_crate (rest := []) rfl rfl (by decide) (by decide) (Nat.le_of_ble_eq_true rfl) (Nat.le_refl 0) (Nat.le_refl 0) dL_sound_532 ?_
      refine J_il hx rfl dL_sound_535 ?_
      refine J_icmp_ne hx 673 dL_sound_537 rfl (fun h9 => ?_) (fun h9 => ?_)
      · replace h := neg h h9
        refine J_iconst hx (0 : Int32) dL_sound_673 rfl ?_
        obtain rfl := Option.some.inj h
        exact J_zretW (b := false) hx hr hW dL_sound_674 (Nat.le_refl 0) (Nat.le_refl 0)
      · replace h := pos h h9
        refine J_al4 hx rfl rfl dL_sound_540 ?_
        refine J_il hx rfl dL_sound_541 ?_
        obtain ⟨r10, hr11, h⟩ := bnd h
        refine J_wrL hx (kP_allReadyAt hC hW (okS_e hr11)) ml_L_122 cw_allReadyAt st_allReadyAt ini_L hy_allReadyAt (rest := []) rfl rfl (by decide) (by decide) (Nat.le_of_ble_eq_true rfl) (Nat.le_refl 0) (Nat.le_refl 0) dL_sound_543 fun G12 hW13 => ?_
        show J X 17 G12 sz 0 0 546 [some (.ref (B.1 + 0)), some (.int l1), some (.int l2), some (.int (s0 + s1)), some (.int l4), some (.int l5), some (.int l6), some (.int l7), some (.int l8), some (.int l9), some (.int l10), some (.int l11), some (.int l12), some (.int l13), some (.int l14), some (.int l15), none] [.int r10.1]
        refine J_il hx rfl dL_sound_546 ?_
        refine J_icmp_ne hx 673 dL_sound_548 rfl (fun h14 => ?_) (fun h14 => ?_)
        · replace h := neg h h14
          refine J_iconst hx (0 : Int32) dL_sound_673 rfl ?_
          obtain rfl := Option.some.inj h
          exact J_zretW (b := false) hx hr hW13 dL_sound_674 (Nat.le_refl 0) (Nat.le_refl 0)
        · replace h := pos h h14
          refine J_il hx rfl dL_sound_551 ?_
          refine J_if_eq hx 561 dL_sound_553 rfl (fun h15 => ?_) (fun h15 => ?_)
          · replace h := pos h h15
            refine J_lw (ls' := [some (.ref (B.1 + 0)), some (.int l1), some (.int l2), some (.int (s0 + s1)), some (.int l4), some (.int l5), some (.int l6), some (.int l7), some (.int l8), none, none, none, none, some (.int l13), some (.int l14), some (.int l15), none]) (lwS (lwS (lwS (lwS (lwS (lwS (lwS (lwS (lwS (lwN (lwN (lwN (lwN (lwS (lwS (lwS (lwN lwZ))))))))))))))))) ?_
            exact tL_sound_561 hx hC htr hr _ hk247 _ _ _ _ _ _ _ _ _ _ _ _  hW13 h
          · replace h := neg h h15
            refine J_il hx rfl dL_sound_556 ?_
            refine J_if_eq hx 673 dL_sound_558 rfl (fun h16 => ?_) (fun h16 => ?_)
            · replace h := pos h h16
              refine J_iconst hx (0 : Int32) dL_sound_673 rfl ?_
              obtain rfl := Option.some.inj h
              exact J_zretW (b := false) hx hr hW13 dL_sound_674 (Nat.le_refl 0) (Nat.le_refl 0)
            · replace h := neg h h16
              refine J_lw (ls' := [some (.ref (B.1 + 0)), some (.int l1), some (.int l2), some (.int (s0 + s1)), some (.int l4), some (.int l5), some (.int l6), some (.int l7), some (.int l8), none, none, none, none, some (.int l13), some (.int l14), some (.int l15), none]) (lwS (lwS (lwS (lwS (lwS (lwS (lwS (lwS (lwS (lwN (lwN (lwN (lwN (lwS (lwS (lwS (lwN lwZ))))))))))))))))) ?_
              exact tL_sound_561 hx hC htr hr _ hk247 _ _ _ _ _ _ _ _ _ _ _ _  hW13 h
def sL_sound_486 (k247 : Wl → Int32 → Int32 → Int32 → Int32 → Int32 → Int32 → Int32 → Option (Bool × Wl)) (w : Wl) (l1 : Int32) (l2 : Int32) (l3 : Int32) (l4 : Int32) (l5 : Int32) (l6 : Int32) (l7 : Int32) (l8 : Int32) (l9 : Int32) (l10 : Int32) (l11 : Int32) (l12 : Int32) (l13 : Int32) (l14 : Int32) (s0 : Int32) : Option (Bool × Wl) := (if l13 = 0 then sL_sound_499 k247 w l1 l2 l4 l5 l6 l7 l8 l9 l10 l11 l12 l13 l14 s0 l3 (0 : Int32) else sL_sound_499 k247 w l1 l2 l4 l5 l6 l7 l8 l9 l10 l11 l12 l13 l14 s0 l3 (1 : Int32))
theorem tL_sound_486 {X : Cx} {B : Bs} {sz : Nat} {r : (Bool × Wl)} (hx : Fx X cL_sound 17 RL 9 0 0) (hC : GC (xΓ X) B) (htr : (xl X).stackTraces = false) (hr : Rt X (some .boolean) 0 0 (WΨ (xΓ X) B (some (.int (bI r.1))) r.2 sz)) (k247 : Wl → Int32 → Int32 → Int32 → Int32 → Int32 → Int32 → Int32 → Option (Bool × Wl)) (hk247 : ∀ (w : Wl) (l1 : Int32) (l2 : Int32) (l3 : Int32) (l4 : Int32) (l5 : Int32) (l6 : Int32) (l7 : Int32) {G : Gf} (hW : Wd (xΓ X) B w G) (h : k247 w l1 l2 l3 l4 l5 l6 l7 = some r), J X 17 G sz 0 0 247 [some (.ref (B.1 + 0)), some (.int l1), some (.int l2), some (.int l3), some (.int l4), some (.int l5), some (.int l6), some (.int l7), none, none, none, none, none, none, none, none, none] []) : ∀ (w : Wl) (l1 : Int32) (l2 : Int32) (l3 : Int32) (l4 : Int32) (l5 : Int32) (l6 : Int32) (l7 : Int32) (l8 : Int32) (l9 : Int32) (l10 : Int32) (l11 : Int32) (l12 : Int32) (l13 : Int32) (l14 : Int32) (s0 : Int32) {G : Gf} (hW : Wd (xΓ X) B w G) (h : sL_sound_486 k247  w l1 l2 l3 l4 l5 l6 l7 l8 l9 l10 l11 l12 l13 l14 s0 = some r), J X 17 G sz 0 0 486 [some (.ref (B.1 + 0)), some (.int l1), some (.int l2), some (.int l3), some (.int l4), some (.int l5), some (.int l6), some (.int l7), some (.int l8), some (.int l9), some (.int l10), some (.int l11), some (.int l12), some (.int l13), some (.int l14), none, none] [.int s0] := by
  intro w l1 l2 l3 l4 l5 l6 l7 l8 l9 l10 l11 l12 l13 l14 s0 G hW h
  unfold sL_sound_486 at h
  refine J_is hx (by decide) (hc_of rfl) rfl dL_sound_486 ?_
  refine J_il4 hx rfl rfl dL_sound_488 ?_
  refine J_il hx rfl dL_sound_489 ?_
  refine J_if_eq hx 498 dL_sound_491 rfl (fun h1 => ?_) (fun h1 => ?_)
  · replace h := pos h h1
    refine J_iconst hx (0 : Int32) dL_sound_498 rfl ?_
    refine J_lw (ls' := [some (.ref (B.1 + 0)), some (.int l1), some (.int l2), none, some (.int l4), some (.int l5), some (.int l6), some (.int l7), some (.int l8), some (.int l9), some (.int l10), some (.int l11), some (.int l12), some (.int l13), some (.int l14), some (.int s0), none]) (lwS (lwS (lwS (lwN (lwS (lwS (lwS (lwS (lwS (lwS (lwS (lwS (lwS (lwS (lwS (lwS (lwN lwZ))))))))))))))))) ?_
    exact tL_sound_499 hx hC htr hr _ hk247 _ _ _ _ _ _ _ _ _ _ _ _ _ _ _ _ _  hW h
  · replace h := neg h h1
    refine J_iconst hx (1 : Int32) dL_sound_494 rfl ?_
    refine J_goto hx 499 dL_sound_495 rfl ?_
    refine J_lw (ls' := [some (.ref (B.1 + 0)), some (.int l1), some (.int l2), none, some (.int l4), some (.int l5), some (.int l6), some (.int l7), some (.int l8), some (.int l9), some (.int l10), some (.int l11), some (.int l12), some (.int l13), some (.int l14), some (.int s0), none]) (lwS (lwS (lwS (lwN (lwS (lwS (lwS (lwS (lwS (lwS (lwS (lwS (lwS (lwS (lwS (lwS (lwN lwZ))))))))))))))))) ?_
    exact tL_sound_499 hx hC htr hr _ hk247 _ _ _ _ _ _ _ _ _ _ _ _ _ _ _ _ _  hW h
def sL_sound_467 (k247 : Wl → Int32 → Int32 → Int32 → Int32 → Int32 → Int32 → Int32 → Option (Bool × Wl)) (w : Wl) (l1 : Int32) (l2 : Int32) (l3 : Int32) (l4 : Int32) (l5 : Int32) (l6 : Int32) (l7 : Int32) (l8 : Int32) (l9 : Int32) (l10 : Int32) (l11 : Int32) (l12 : Int32) (l13 : Int32) (s0 : Int32) : Option (Bool × Wl) := (sO_crate w l7 (13 : Int32)).bind (fun r1 => (if r1 = (1 : Int32) then sL_sound_486 k247 w l1 l2 l3 l4 l5 l6 l7 l8 l9 l10 l11 l12 l13 s0 (1 : Int32) else sL_sound_486 k247 w l1 l2 l3 l4 l5 l6 l7 l8 l9 l10 l11 l12 l13 s0 (0 : Int32)))
theorem tL_sound_467 {X : Cx} {B : Bs} {sz : Nat} {r : (Bool × Wl)} (hx : Fx X cL_sound 17 RL 9 0 0) (hC : GC (xΓ X) B) (htr : (xl X).stackTraces = false) (hr : Rt X (some .boolean) 0 0 (WΨ (xΓ X) B (some (.int (bI r.1))) r.2 sz)) (k247 : Wl → Int32 → Int32 → Int32 → Int32 → Int32 → Int32 → Int32 → Option (Bool × Wl)) (hk247 : ∀ (w : Wl) (l1 : Int32) (l2 : Int32) (l3 : Int32) (l4 : Int32) (l5 : Int32) (l6 : Int32) (l7 : Int32) {G : Gf} (hW : Wd (xΓ X) B w G) (h : k247 w l1 l2 l3 l4 l5 l6 l7 = some r), J X 17 G sz 0 0 247 [some (.ref (B.1 + 0)), some (.int l1), some (.int l2), some (.int l3), some (.int l4), some (.int l5), some (.int l6), some (.int l7), none, none, none, none, none, none, none, none, none] []) : ∀ (w : Wl) (l1 : Int32) (l2 : Int32) (l3 : Int32) (l4 : Int32) (l5 : Int32) (l6 : Int32) (l7 : Int32) (l8 : Int32) (l9 : Int32) (l10 : Int32) (l11 : Int32) (l12 : Int32) (l13 : Int32) (s0 : Int32) {G : Gf} (hW : Wd (xΓ X) B w G) (h : sL_sound_467 k247  w l1 l2 l3 l4 l5 l6 l7 l8 l9 l10 l11 l12 l13 s0 = some r), J X 17 G sz 0 0 467 [some (.ref (B.1 + 0)), some (.int l1), some (.int l2), some (.int l3), some (.int l4), some (.int l5), some (.int l6), some (.int l7), some (.int l8), some (.int l9), some (.int l10), some (.int l11), some (.int l12), some (.int l13), none, none, none] [.int s0] := by
  intro w l1 l2 l3 l4 l5 l6 l7 l8 l9 l10 l11 l12 l13 s0 G hW h
  unfold sL_sound_467 at h
  refine J_is hx (by decide) (hc_of rfl) rfl dL_sound_467 ?_
  refine J_al4 hx rfl rfl dL_sound_469 ?_
  refine J_il hx rfl dL_sound_470 ?_
  refine J_bipush hx (13 : Int32) dL_sound_472 rfl ?_
  obtain ⟨r1, hr2, h⟩ := bnd h
  refine J_rdL hx (kP_crate hC hW (okS_e hr2)) ml_L_118 cw_crate st_crate ini_L hy_crate (rest := []) rfl rfl (by decide) (by decide) (Nat.le_of_ble_eq_true rfl) (Nat.le_refl 0) (Nat.le_refl 0) dL_sound_474 ?_
  refine J_iconst hx (1 : Int32) dL_sound_477 rfl ?_
  refine J_icmp_ne hx 485 dL_sound_478 rfl (fun h3 => ?_) (fun h3 => ?_)
  · replace h := neg h h3
    refine J_iconst hx (0 : Int32) dL_sound_485 rfl ?_
    exact tL_sound_486 hx hC htr hr _ hk247 _ _ _ _ _ _ _ _ _ _ _ _ _ _ _ _  hW h
  · replace h := pos h h3
    refine J_iconst hx (1 : Int32) dL_sound_481 rfl ?_
    refine J_goto hx 486 dL_sound_482 rfl ?_
    exact tL_sound_486 hx hC htr hr _ hk247 _ _ _ _ _ _ _ _ _ _ _ _ _ _ _ _  hW h
def sL_sound_449 (k247 : Wl → Int32 → Int32 → Int32 → Int32 → Int32 → Int32 → Int32 → Option (Bool × Wl)) (w : Wl) (l1 : Int32) (l2 : Int32) (l3 : Int32) (l4 : Int32) (l5 : Int32) (l6 : Int32) (l7 : Int32) (l8 : Int32) (l9 : Int32) (l10 : Int32) (l11 : Int32) (l12 : Int32) (s0 : Int32) : Option (Bool × Wl) := (sO_crate w l7 (3 : Int32)).bind (fun r1 => (if r1 = (-1 : Int32) then sL_sound_467 k247 w l1 l2 l3 l4 l5 l6 l7 l8 l9 l10 l11 l12 s0 (1 : Int32) else sL_sound_467 k247 w l1 l2 l3 l4 l5 l6 l7 l8 l9 l10 l11 l12 s0 (0 : Int32)))
theorem tL_sound_449 {X : Cx} {B : Bs} {sz : Nat} {r : (Bool × Wl)} (hx : Fx X cL_sound 17 RL 9 0 0) (hC : GC (xΓ X) B) (htr : (xl X).stackTraces = false) (hr : Rt X (some .boolean) 0 0 (WΨ (xΓ X) B (some (.int (bI r.1))) r.2 sz)) (k247 : Wl → Int32 → Int32 → Int32 → Int32 → Int32 → Int32 → Int32 → Option (Bool × Wl)) (hk247 : ∀ (w : Wl) (l1 : Int32) (l2 : Int32) (l3 : Int32) (l4 : Int32) (l5 : Int32) (l6 : Int32) (l7 : Int32) {G : Gf} (hW : Wd (xΓ X) B w G) (h : k247 w l1 l2 l3 l4 l5 l6 l7 = some r), J X 17 G sz 0 0 247 [some (.ref (B.1 + 0)), some (.int l1), some (.int l2), some (.int l3), some (.int l4), some (.int l5), some (.int l6), some (.int l7), none, none, none, none, none, none, none, none, none] []) : ∀ (w : Wl) (l1 : Int32) (l2 : Int32) (l3 : Int32) (l4 : Int32) (l5 : Int32) (l6 : Int32) (l7 : Int32) (l8 : Int32) (l9 : Int32) (l10 : Int32) (l11 : Int32) (l12 : Int32) (s0 : Int32) {G : Gf} (hW : Wd (xΓ X) B w G) (h : sL_sound_449 k247  w l1 l2 l3 l4 l5 l6 l7 l8 l9 l10 l11 l12 s0 = some r), J X 17 G sz 0 0 449 [some (.ref (B.1 + 0)), some (.int l1), some (.int l2), some (.int l3), some (.int l4), some (.int l5), some (.int l6), some (.int l7), some (.int l8), some (.int l9), some (.int l10), some (.int l11), some (.int l12), none, none, none, none] [.int s0] := by
  intro w l1 l2 l3 l4 l5 l6 l7 l8 l9 l10 l11 l12 s0 G hW h
  unfold sL_sound_449 at h
  refine J_is hx (by decide) (hc_of rfl) rfl dL_sound_449 ?_
  refine J_al4 hx rfl rfl dL_sound_451 ?_
  refine J_il hx rfl dL_sound_452 ?_
  refine J_iconst hx (3 : Int32) dL_sound_454 rfl ?_
  obtain ⟨r1, hr2, h⟩ := bnd h
  refine J_rdL hx (kP_crate hC hW (okS_e hr2)) ml_L_118 cw_crate st_crate ini_L hy_crate (rest := []) rfl rfl (by decide) (by decide) (Nat.le_of_ble_eq_true rfl) (Nat.le_refl 0) (Nat.le_refl 0) dL_sound_455 ?_
  refine J_iconst hx (-1 : Int32) dL_sound_458 rfl ?_
  refine J_icmp_ne hx 466 dL_sound_459 rfl (fun h3 => ?_) (fun h3 => ?_)
  · replace h := neg h h3
    refine J_iconst hx (0 : Int32) dL_sound_466 rfl ?_
    exact tL_sound_467 hx hC htr hr _ hk247 _ _ _ _ _ _ _ _ _ _ _ _ _ _ _  hW h
  · replace h := pos h h3
    refine J_iconst hx (1 : Int32) dL_sound_462 rfl ?_
    refine J_goto hx 467 dL_sound_463 rfl ?_
    exact tL_sound_467 hx hC htr hr _ hk247 _ _ _ _ _ _ _ _ _ _ _ _ _ _ _  hW h
def sL_sound_410 (k247 : Wl → Int32 → Int32 → Int32 → Int32 → Int32 → Int32 → Int32 → Option (Bool × Wl)) (k371 : Wl → Int32 → Int32 → Int32 → Int32 → Int32 → Int32 → Int32 → Int32 → Int32 → Int32 → Int32 → Int32 → Int32 → Option (Bool × Wl)) (w : Wl) (l1 : Int32) (l2 : Int32) (l3 : Int32) (l4 : Int32) (l5 : Int32) (l6 : Int32) (l7 : Int32) (l8 : Int32) (l9 : Int32) (l10 : Int32) (l11 : Int32) (l12 : Int32) (l13 : Int32) (l14 : Int32) : Option (Bool × Wl) := (if l14 = l7 then k371 w l1 l2 l3 l4 l5 l6 l7 l8 l9 l10 (l11 + (1 : Int32)) l12 (l13 + 1) else k371 w l1 l2 l3 l4 l5 l6 l7 l8 l9 l10 (l11 + (0 : Int32)) l12 (l13 + 1))
theorem tL_sound_410 {X : Cx} {B : Bs} {sz : Nat} {r : (Bool × Wl)} (hx : Fx X cL_sound 17 RL 9 0 0) (hC : GC (xΓ X) B) (htr : (xl X).stackTraces = false) (hr : Rt X (some .boolean) 0 0 (WΨ (xΓ X) B (some (.int (bI r.1))) r.2 sz)) (k247 : Wl → Int32 → Int32 → Int32 → Int32 → Int32 → Int32 → Int32 → Option (Bool × Wl)) (hk247 : ∀ (w : Wl) (l1 : Int32) (l2 : Int32) (l3 : Int32) (l4 : Int32) (l5 : Int32) (l6 : Int32) (l7 : Int32) {G : Gf} (hW : Wd (xΓ X) B w G) (h : k247 w l1 l2 l3 l4 l5 l6 l7 = some r), J X 17 G sz 0 0 247 [some (.ref (B.1 + 0)), some (.int l1), some (.int l2), some (.int l3), some (.int l4), some (.int l5), some (.int l6), some (.int l7), none, none, none, none, none, none, none, none, none] []) (k371 : Wl → Int32 → Int32 → Int32 → Int32 → Int32 → Int32 → Int32 → Int32 → Int32 → Int32 → Int32 → Int32 → Int32 → Option (Bool × Wl)) (hk371 : ∀ (w : Wl) (l1 : Int32) (l2 : Int32) (l3 : Int32) (l4 : Int32) (l5 : Int32) (l6 : Int32) (l7 : Int32) (l8 : Int32) (l9 : Int32) (l10 : Int32) (l11 : Int32) (l12 : Int32) (l13 : Int32) {G : Gf} (hW : Wd (xΓ X) B w G) (h : k371 w l1 l2 l3 l4 l5 l6 l7 l8 l9 l10 l11 l12 l13 = some r), J X 17 G sz 0 0 371 [some (.ref (B.1 + 0)), some (.int l1), some (.int l2), some (.int l3), some (.int l4), some (.int l5), some (.int l6), some (.int l7), some (.int l8), some (.int l9), some (.int l10), some (.int l11), some (.int l12), some (.int l13), none, none, none] []) : ∀ (w : Wl) (l1 : Int32) (l2 : Int32) (l3 : Int32) (l4 : Int32) (l5 : Int32) (l6 : Int32) (l7 : Int32) (l8 : Int32) (l9 : Int32) (l10 : Int32) (l11 : Int32) (l12 : Int32) (l13 : Int32) (l14 : Int32) {G : Gf} (hW : Wd (xΓ X) B w G) (h : sL_sound_410 k247 k371  w l1 l2 l3 l4 l5 l6 l7 l8 l9 l10 l11 l12 l13 l14 = some r), J X 17 G sz 0 0 410 [some (.ref (B.1 + 0)), some (.int l1), some (.int l2), some (.int l3), some (.int l4), some (.int l5), some (.int l6), some (.int l7), some (.int l8), some (.int l9), some (.int l10), some (.int l11), some (.int l12), some (.int l13), some (.int l14), none, none] [] := by
  intro w l1 l2 l3 l4 l5 l6 l7 l8 l9 l10 l11 l12 l13 l14 G hW h
  unfold sL_sound_410 at h
  refine J_il hx rfl dL_sound_410 ?_
  refine J_il hx rfl dL_sound_412 ?_
  refine J_il hx rfl dL_sound_414 ?_
  refine J_icmp_ne hx 423 dL_sound_416 rfl (fun h1 => ?_) (fun h1 => ?_)
  · replace h := neg h h1
    refine J_iconst hx (0 : Int32) dL_sound_423 rfl ?_
    refine J_iadd hx dL_sound_424 ?_
    refine J_is hx (by decide) (hc_of rfl) rfl dL_sound_425 ?_
    refine J_iinc hx (v' := (l13 + 1)) rfl rfl (by decide) (hc_of rfl) rfl dL_sound_427 ?_
    refine J_goto hx 371 dL_sound_430 rfl ?_
    refine J_lw (ls' := [some (.ref (B.1 + 0)), some (.int l1), some (.int l2), some (.int l3), some (.int l4), some (.int l5), some (.int l6), some (.int l7), some (.int l8), some (.int l9), some (.int l10), some (.int (l11 + (0 : Int32))), some (.int l12), some (.int (l13 + 1)), none, none, none]) (lwS (lwS (lwS (lwS (lwS (lwS (lwS (lwS (lwS (lwS (lwS (lwS (lwS (lwS (lwN (lwN (lwN lwZ))))))))))))))))) ?_
    exact hk371 _ _ _ _ _ _ _ _ _ _ _ _ _ _  hW h
  · replace h := pos h h1
    refine J_iconst hx (1 : Int32) dL_sound_419 rfl ?_
    refine J_goto hx 424 dL_sound_420 rfl ?_
    refine J_iadd hx dL_sound_424 ?_
    refine J_is hx (by decide) (hc_of rfl) rfl dL_sound_425 ?_
    refine J_iinc hx (v' := (l13 + 1)) rfl rfl (by decide) (hc_of rfl) rfl dL_sound_427 ?_
    refine J_goto hx 371 dL_sound_430 rfl ?_
    refine J_lw (ls' := [some (.ref (B.1 + 0)), some (.int l1), some (.int l2), some (.int l3), some (.int l4), some (.int l5), some (.int l6), some (.int l7), some (.int l8), some (.int l9), some (.int l10), some (.int (l11 + (1 : Int32))), some (.int l12), some (.int (l13 + 1)), none, none, none]) (lwS (lwS (lwS (lwS (lwS (lwS (lwS (lwS (lwS (lwS (lwS (lwS (lwS (lwS (lwN (lwN (lwN lwZ))))))))))))))))) ?_
    exact hk371 _ _ _ _ _ _ _ _ _ _ _ _ _ _  hW h
def sL_sound_386 (k247 : Wl → Int32 → Int32 → Int32 → Int32 → Int32 → Int32 → Int32 → Option (Bool × Wl)) (k371 : Wl → Int32 → Int32 → Int32 → Int32 → Int32 → Int32 → Int32 → Int32 → Int32 → Int32 → Int32 → Int32 → Int32 → Option (Bool × Wl)) : Nat → Wl → Int32 → Int32 → Int32 → Int32 → Int32 → Int32 → Int32 → Int32 → Int32 → Int32 → Int32 → Int32 → Int32 → Int32 → Option (Bool × Wl)
  | 0, _, _, _, _, _, _, _, _, _, _, _, _, _, _, _ => none
  | n + 1, w, l1, l2, l3, l4, l5, l6, l7, l8, l9, l10, l11, l12, l13, l14 => (if l14 < 0 then sL_sound_410 k247 k371 w l1 l2 l3 l4 l5 l6 l7 l8 l9 l10 l11 l12 l13 l14 else (if l14 = l7 then sL_sound_410 k247 k371 w l1 l2 l3 l4 l5 l6 l7 l8 l9 l10 l11 l12 l13 l14 else (sO_crate w l14 (2 : Int32)).bind (fun r3 => sL_sound_386 k247 k371 n w l1 l2 l3 l4 l5 l6 l7 l8 l9 l10 l11 l12 l13 r3)))
theorem tL_sound_386 {X : Cx} {B : Bs} {sz : Nat} {r : (Bool × Wl)} (hx : Fx X cL_sound 17 RL 9 0 0) (hC : GC (xΓ X) B) (htr : (xl X).stackTraces = false) (hr : Rt X (some .boolean) 0 0 (WΨ (xΓ X) B (some (.int (bI r.1))) r.2 sz)) (k247 : Wl → Int32 → Int32 → Int32 → Int32 → Int32 → Int32 → Int32 → Option (Bool × Wl)) (hk247 : ∀ (w : Wl) (l1 : Int32) (l2 : Int32) (l3 : Int32) (l4 : Int32) (l5 : Int32) (l6 : Int32) (l7 : Int32) {G : Gf} (hW : Wd (xΓ X) B w G) (h : k247 w l1 l2 l3 l4 l5 l6 l7 = some r), J X 17 G sz 0 0 247 [some (.ref (B.1 + 0)), some (.int l1), some (.int l2), some (.int l3), some (.int l4), some (.int l5), some (.int l6), some (.int l7), none, none, none, none, none, none, none, none, none] []) (k371 : Wl → Int32 → Int32 → Int32 → Int32 → Int32 → Int32 → Int32 → Int32 → Int32 → Int32 → Int32 → Int32 → Int32 → Option (Bool × Wl)) (hk371 : ∀ (w : Wl) (l1 : Int32) (l2 : Int32) (l3 : Int32) (l4 : Int32) (l5 : Int32) (l6 : Int32) (l7 : Int32) (l8 : Int32) (l9 : Int32) (l10 : Int32) (l11 : Int32) (l12 : Int32) (l13 : Int32) {G : Gf} (hW : Wd (xΓ X) B w G) (h : k371 w l1 l2 l3 l4 l5 l6 l7 l8 l9 l10 l11 l12 l13 = some r), J X 17 G sz 0 0 371 [some (.ref (B.1 + 0)), some (.int l1), some (.int l2), some (.int l3), some (.int l4), some (.int l5), some (.int l6), some (.int l7), some (.int l8), some (.int l9), some (.int l10), some (.int l11), some (.int l12), some (.int l13), none, none, none] []) : ∀ (n : Nat), ∀ (w : Wl) (l1 : Int32) (l2 : Int32) (l3 : Int32) (l4 : Int32) (l5 : Int32) (l6 : Int32) (l7 : Int32) (l8 : Int32) (l9 : Int32) (l10 : Int32) (l11 : Int32) (l12 : Int32) (l13 : Int32) (l14 : Int32) {G : Gf} (hW : Wd (xΓ X) B w G) (h : sL_sound_386 k247 k371 n w l1 l2 l3 l4 l5 l6 l7 l8 l9 l10 l11 l12 l13 l14 = some r), J X 17 G sz 0 0 386 [some (.ref (B.1 + 0)), some (.int l1), some (.int l2), some (.int l3), some (.int l4), some (.int l5), some (.int l6), some (.int l7), some (.int l8), some (.int l9), some (.int l10), some (.int l11), some (.int l12), some (.int l13), some (.int l14), none, none] [] := by
  intro n
  induction n with
  | zero => intro w l1 l2 l3 l4 l5 l6 l7 l8 l9 l10 l11 l12 l13 l14 G hW h; rw [sL_sound_386.eq_1] at h; cases h
  | succ n ih =>
    intro w l1 l2 l3 l4 l5 l6 l7 l8 l9 l10 l11 l12 l13 l14 G hW h
    rw [sL_sound_386.eq_2] at h
    refine J_il hx rfl dL_sound_386 ?_
    refine J_if_lt hx 410 dL_sound_388 rfl (fun h1 => ?_) (fun h1 => ?_)
    · replace h := pos h h1
      exact tL_sound_410 hx hC htr hr _ hk247 _ hk371 _ _ _ _ _ _ _ _ _ _ _ _ _ _ _  hW h
    · replace h := neg h h1
      refine J_il hx rfl dL_sound_391 ?_
      refine J_il hx rfl dL_sound_393 ?_
      refine J_icmp_eq hx 410 dL_sound_395 rfl (fun h2 => ?_) (fun h2 => ?_)
      · replace h := pos h h2
        exact tL_sound_410 hx hC htr hr _ hk247 _ hk371 _ _ _ _ _ _ _ _ _ _ _ _ _ _ _  hW h
      · replace h := neg h h2
        refine J_al4 hx rfl rfl dL_sound_398 ?_
        refine J_il hx rfl dL_sound_399 ?_
        refine J_iconst hx (2 : Int32) dL_sound_401 rfl ?_
        obtain ⟨r3, hr4, h⟩ := bnd h
        refine J_rdL hx (kP_crate hC hW (okS_e hr4)) ml_L_118 cw_crate st_crate ini_L hy_crate (rest := []) rfl rfl (by decide) (by decide) (Nat.le_of_ble_eq_true rfl) (Nat.le_refl 0) (Nat.le_refl 0) dL_sound_402 ?_
        refine J_is hx (by decide) (hc_of rfl) rfl dL_sound_405 ?_
        refine J_goto hx 386 dL_sound_407 rfl ?_
        exact ih _ _ _ _ _ _ _ _ _ _ _ _ _ _ _  hW h
def sL_sound_371 (k247 : Wl → Int32 → Int32 → Int32 → Int32 → Int32 → Int32 → Int32 → Option (Bool × Wl)) : Nat → Wl → Int32 → Int32 → Int32 → Int32 → Int32 → Int32 → Int32 → Int32 → Int32 → Int32 → Int32 → Int32 → Int32 → Option (Bool × Wl)
  | 0, _, _, _, _, _, _, _, _, _, _, _, _, _, _ => none
  | n + 1, w, l1, l2, l3, l4, l5, l6, l7, l8, l9, l10, l11, l12, l13 => (if l1 ≤ l13 then (sO_crate w l7 (1 : Int32)).bind (fun r2 => (if r2 = (1 : Int32) then sL_sound_449 k247 w l1 l2 l3 l4 l5 l6 l7 l8 l9 l10 l11 l12 (1 : Int32) else sL_sound_449 k247 w l1 l2 l3 l4 l5 l6 l7 l8 l9 l10 l11 l12 (0 : Int32))) else (sO_crate w l13 (2 : Int32)).bind (fun r5 => sL_sound_386 k247 (fun w l1 l2 l3 l4 l5 l6 l7 l8 l9 l10 l11 l12 l13 => sL_sound_371 k247 n w l1 l2 l3 l4 l5 l6 l7 l8 l9 l10 l11 l12 l13) FU w l1 l2 l3 l4 l5 l6 l7 l8 l9 l10 l11 l12 l13 r5))
theorem tL_sound_371 {X : Cx} {B : Bs} {sz : Nat} {r : (Bool × Wl)} (hx : Fx X cL_sound 17 RL 9 0 0) (hC : GC (xΓ X) B) (htr : (xl X).stackTraces = false) (hr : Rt X (some .boolean) 0 0 (WΨ (xΓ X) B (some (.int (bI r.1))) r.2 sz)) (k247 : Wl → Int32 → Int32 → Int32 → Int32 → Int32 → Int32 → Int32 → Option (Bool × Wl)) (hk247 : ∀ (w : Wl) (l1 : Int32) (l2 : Int32) (l3 : Int32) (l4 : Int32) (l5 : Int32) (l6 : Int32) (l7 : Int32) {G : Gf} (hW : Wd (xΓ X) B w G) (h : k247 w l1 l2 l3 l4 l5 l6 l7 = some r), J X 17 G sz 0 0 247 [some (.ref (B.1 + 0)), some (.int l1), some (.int l2), some (.int l3), some (.int l4), some (.int l5), some (.int l6), some (.int l7), none, none, none, none, none, none, none, none, none] []) : ∀ (n : Nat), ∀ (w : Wl) (l1 : Int32) (l2 : Int32) (l3 : Int32) (l4 : Int32) (l5 : Int32) (l6 : Int32) (l7 : Int32) (l8 : Int32) (l9 : Int32) (l10 : Int32) (l11 : Int32) (l12 : Int32) (l13 : Int32) {G : Gf} (hW : Wd (xΓ X) B w G) (h : sL_sound_371 k247 n w l1 l2 l3 l4 l5 l6 l7 l8 l9 l10 l11 l12 l13 = some r), J X 17 G sz 0 0 371 [some (.ref (B.1 + 0)), some (.int l1), some (.int l2), some (.int l3), some (.int l4), some (.int l5), some (.int l6), some (.int l7), some (.int l8), some (.int l9), some (.int l10), some (.int l11), some (.int l12), some (.int l13), none, none, none] [] := by
  intro n
  induction n with
  | zero => intro w l1 l2 l3 l4 l5 l6 l7 l8 l9 l10 l11 l12 l13 G hW h; rw [sL_sound_371.eq_1] at h; cases h
  | succ n ih =>
    intro w l1 l2 l3 l4 l5 l6 l7 l8 l9 l10 l11 l12 l13 G hW h
    rw [sL_sound_371.eq_2] at h
    refine J_il hx rfl dL_sound_371 ?_
    refine J_il4 hx rfl rfl dL_sound_373 ?_
    refine J_icmp_ge hx 433 dL_sound_374 rfl (fun h1 => ?_) (fun h1 => ?_)
    · replace h := pos h h1
      refine J_al4 hx rfl rfl dL_sound_433 ?_
      refine J_il hx rfl dL_sound_434 ?_
      refine J_iconst hx (1 : Int32) dL_sound_436 rfl ?_
      obtain ⟨r2, hr3, h⟩ := bnd h
      refine J_rdL hx (kP_crate hC hW (okS_e hr3)) ml_L_118 cw_crate st_crate ini_L hy_crate (rest := []) rfl rfl (by decide) (by decide) (Nat.le_of_ble_eq_true rfl) (Nat.le_refl 0) (Nat.le_refl 0) dL_sound_437 ?_
      refine J_iconst hx (1 : Int32) dL_sound_440 rfl ?_
      refine J_icmp_ne hx 448 dL_sound_441 rfl (fun h4 => ?_) (fun h4 => ?_)
      · replace h := neg h h4
        refine J_iconst hx (0 : Int32) dL_sound_448 rfl ?_
        refine J_lw (ls' := [some (.ref (B.1 + 0)), some (.int l1), some (.int l2), some (.int l3), some (.int l4), some (.int l5), some (.int l6), some (.int l7), some (.int l8), some (.int l9), some (.int l10), some (.int l11), some (.int l12), none, none, none, none]) (lwS (lwS (lwS (lwS (lwS (lwS (lwS (lwS (lwS (lwS (lwS (lwS (lwS (lwN (lwN (lwN (lwN lwZ))))))))))))))))) ?_
        exact tL_sound_449 hx hC htr hr _ hk247 _ _ _ _ _ _ _ _ _ _ _ _ _ _  hW h
      · replace h := pos h h4
        refine J_iconst hx (1 : Int32) dL_sound_444 rfl ?_
        refine J_goto hx 449 dL_sound_445 rfl ?_
        refine J_lw (ls' := [some (.ref (B.1 + 0)), some (.int l1), some (.int l2), some (.int l3), some (.int l4), some (.int l5), some (.int l6), some (.int l7), some (.int l8), some (.int l9), some (.int l10), some (.int l11), some (.int l12), none, none, none, none]) (lwS (lwS (lwS (lwS (lwS (lwS (lwS (lwS (lwS (lwS (lwS (lwS (lwS (lwN (lwN (lwN (lwN lwZ))))))))))))))))) ?_
        exact tL_sound_449 hx hC htr hr _ hk247 _ _ _ _ _ _ _ _ _ _ _ _ _ _  hW h
    · replace h := neg h h1
      refine J_al4 hx rfl rfl dL_sound_377 ?_
      refine J_il hx rfl dL_sound_378 ?_
      refine J_iconst hx (2 : Int32) dL_sound_380 rfl ?_
      obtain ⟨r5, hr6, h⟩ := bnd h
      refine J_rdL hx (kP_crate hC hW (okS_e hr6)) ml_L_118 cw_crate st_crate ini_L hy_crate (rest := []) rfl rfl (by decide) (by decide) (Nat.le_of_ble_eq_true rfl) (Nat.le_refl 0) (Nat.le_refl 0) dL_sound_381 ?_
      refine J_is hx (by decide) (hc_of rfl) rfl dL_sound_384 ?_
      exact tL_sound_386 hx hC htr hr _ hk247 _ ih _ _ _ _ _ _ _ _ _ _ _ _ _ _ _ _  hW h
def sL_sound_316 (k247 : Wl → Int32 → Int32 → Int32 → Int32 → Int32 → Int32 → Int32 → Option (Bool × Wl)) (k277 : Wl → Int32 → Int32 → Int32 → Int32 → Int32 → Int32 → Int32 → Int32 → Int32 → Int32 → Int32 → Int32 → Int32 → Option (Bool × Wl)) (w : Wl) (l1 : Int32) (l2 : Int32) (l3 : Int32) (l4 : Int32) (l5 : Int32) (l6 : Int32) (l7 : Int32) (l8 : Int32) (l9 : Int32) (l10 : Int32) (l11 : Int32) (l12 : Int32) (l13 : Int32) (l14 : Int32) : Option (Bool × Wl) := (if l14 = l7 then (sO_work w l13 (1 : Int32)).bind (fun r2 => (sO_readyAt w l13).bind (fun r4 => (if r4.1 ≤ l12 then k277 r4.2 l1 l2 l3 l4 l5 l6 l7 l8 (l9 + 1) (l10 + r2) l11 l12 (l13 + 1) else (sO_readyAt r4.2 l13).bind (fun r9 => k277 r9.2 l1 l2 l3 l4 l5 l6 l7 l8 (l9 + 1) (l10 + r2) l11 r9.1 (l13 + 1))))) else k277 w l1 l2 l3 l4 l5 l6 l7 l8 l9 l10 l11 l12 (l13 + 1))
theorem tL_sound_316 {X : Cx} {B : Bs} {sz : Nat} {r : (Bool × Wl)} (hx : Fx X cL_sound 17 RL 9 0 0) (hC : GC (xΓ X) B) (htr : (xl X).stackTraces = false) (hr : Rt X (some .boolean) 0 0 (WΨ (xΓ X) B (some (.int (bI r.1))) r.2 sz)) (k247 : Wl → Int32 → Int32 → Int32 → Int32 → Int32 → Int32 → Int32 → Option (Bool × Wl)) (hk247 : ∀ (w : Wl) (l1 : Int32) (l2 : Int32) (l3 : Int32) (l4 : Int32) (l5 : Int32) (l6 : Int32) (l7 : Int32) {G : Gf} (hW : Wd (xΓ X) B w G) (h : k247 w l1 l2 l3 l4 l5 l6 l7 = some r), J X 17 G sz 0 0 247 [some (.ref (B.1 + 0)), some (.int l1), some (.int l2), some (.int l3), some (.int l4), some (.int l5), some (.int l6), some (.int l7), none, none, none, none, none, none, none, none, none] []) (k277 : Wl → Int32 → Int32 → Int32 → Int32 → Int32 → Int32 → Int32 → Int32 → Int32 → Int32 → Int32 → Int32 → Int32 → Option (Bool × Wl)) (hk277 : ∀ (w : Wl) (l1 : Int32) (l2 : Int32) (l3 : Int32) (l4 : Int32) (l5 : Int32) (l6 : Int32) (l7 : Int32) (l8 : Int32) (l9 : Int32) (l10 : Int32) (l11 : Int32) (l12 : Int32) (l13 : Int32) {G : Gf} (hW : Wd (xΓ X) B w G) (h : k277 w l1 l2 l3 l4 l5 l6 l7 l8 l9 l10 l11 l12 l13 = some r), J X 17 G sz 0 0 277 [some (.ref (B.1 + 0)), some (.int l1), some (.int l2), some (.int l3), some (.int l4), some (.int l5), some (.int l6), some (.int l7), some (.int l8), some (.int l9), some (.int l10), some (.int l11), some (.int l12), some (.int l13), none, none, none] []) : ∀ (w : Wl) (l1 : Int32) (l2 : Int32) (l3 : Int32) (l4 : Int32) (l5 : Int32) (l6 : Int32) (l7 : Int32) (l8 : Int32) (l9 : Int32) (l10 : Int32) (l11 : Int32) (l12 : Int32) (l13 : Int32) (l14 : Int32) {G : Gf} (hW : Wd (xΓ X) B w G) (h : sL_sound_316 k247 k277  w l1 l2 l3 l4 l5 l6 l7 l8 l9 l10 l11 l12 l13 l14 = some r), J X 17 G sz 0 0 316 [some (.ref (B.1 + 0)), some (.int l1), some (.int l2), some (.int l3), some (.int l4), some (.int l5), some (.int l6), some (.int l7), some (.int l8), some (.int l9), some (.int l10), some (.int l11), some (.int l12), some (.int l13), some (.int l14), none, none] [] := by
  intro w l1 l2 l3 l4 l5 l6 l7 l8 l9 l10 l11 l12 l13 l14 G hW h
  unfold sL_sound_316 at h
  refine J_il hx rfl dL_sound_316 ?_
  refine J_il hx rfl dL_sound_318 ?_
  refine J_icmp_ne hx 362 dL_sound_320 rfl (fun h1 => ?_) (fun h1 => ?_)
  · replace h := neg h h1
    refine J_iinc hx (v' := (l13 + 1)) rfl rfl (by decide) (hc_of rfl) rfl dL_sound_362 ?_
    refine J_goto hx 277 dL_sound_365 rfl ?_
    refine J_lw (ls' := [some (.ref (B.1 + 0)), some (.int l1), some (.int l2), some (.int l3), some (.int l4), some (.int l5), some (.int l6), some (.int l7), some (.int l8), some (.int l9), some (.int l10), some (.int l11), some (.int l12), some (.int (l13 + 1)), none, none, none]) (lwS (lwS (lwS (lwS (lwS (lwS (lwS (lwS (lwS (lwS (lwS (lwS (lwS (lwS (lwN (lwN (lwN lwZ))))))))))))))))) ?_
    exact hk277 _ _ _ _ _ _ _ _ _ _ _ _ _ _  hW h
  · replace h := pos h h1
    refine J_iinc hx (v' := (l9 + 1)) rfl rfl (by decide) (hc_of rfl) rfl dL_sound_323 ?_
    refine J_il hx rfl dL_sound_326 ?_
    refine J_al4 hx rfl rfl dL_sound_328 ?_
    refine J_il hx rfl dL_sound_329 ?_
    refine J_iconst hx (1 : Int32) dL_sound_331 rfl ?_
    obtain ⟨r2, hr3, h⟩ := bnd h
    refine J_rdL hx (kP_work hC hW (okS_e hr3)) ml_L_115 cw_work st_work ini_L hy_work (rest := [.int l10]) rfl rfl (by decide) (by decide) (Nat.le_of_ble_eq_true rfl) (Nat.le_refl 0) (Nat.le_refl 0) dL_sound_332 ?_
    refine J_iadd hx dL_sound_335 ?_
    refine J_is hx (by decide) (hc_of rfl) rfl dL_sound_336 ?_
    refine J_al4 hx rfl rfl dL_sound_338 ?_
    refine J_il hx rfl dL_sound_339 ?_
    obtain ⟨r4, hr5, h⟩ := bnd h
    refine J_wrL hx (kP_readyAt hC hW (okS_e hr5)) ml_L_120 cw_readyAt st_readyAt ini_L hy_readyAt (rest := []) rfl rfl (by decide) (by decide) (Nat.le_of_ble_eq_true rfl) (Nat.le_refl 0) (Nat.le_refl 0) dL_sound_341 fun G6 hW7 => ?_
    show J X 17 G6 sz 0 0 344 [some (.ref (B.1 + 0)), some (.int l1), some (.int l2), some (.int l3), some (.int l4), some (.int l5), some (.int l6), some (.int l7), some (.int l8), some (.int (l9 + 1)), some (.int (l10 + r2)), some (.int l11), some (.int l12), some (.int l13), some (.int l14), none, none] [.int r4.1]
    refine J_il hx rfl dL_sound_344 ?_
    refine J_icmp_le hx 358 dL_sound_346 rfl (fun h8 => ?_) (fun h8 => ?_)
    · replace h := pos h h8
      refine J_il hx rfl dL_sound_358 ?_
      refine J_is hx (by decide) (hc_of rfl) rfl dL_sound_360 ?_
      refine J_iinc hx (v' := (l13 + 1)) rfl rfl (by decide) (hc_of rfl) rfl dL_sound_362 ?_
      refine J_goto hx 277 dL_sound_365 rfl ?_
      refine J_lw (ls' := [some (.ref (B.1 + 0)), some (.int l1), some (.int l2), some (.int l3), some (.int l4), some (.int l5), some (.int l6), some (.int l7), some (.int l8), some (.int (l9 + 1)), some (.int (l10 + r2)), some (.int l11), some (.int l12), some (.int (l13 + 1)), none, none, none]) (lwS (lwS (lwS (lwS (lwS (lwS (lwS (lwS (lwS (lwS (lwS (lwS (lwS (lwS (lwN (lwN (lwN lwZ))))))))))))))))) ?_
      exact hk277 _ _ _ _ _ _ _ _ _ _ _ _ _ _  hW7 h
    · replace h := neg h h8
      refine J_al4 hx rfl rfl dL_sound_349 ?_
      refine J_il hx rfl dL_sound_350 ?_
      obtain ⟨r9, hr10, h⟩ := bnd h
      refine J_wrL hx (kP_readyAt hC hW7 (okS_e hr10)) ml_L_120 cw_readyAt st_readyAt ini_L hy_readyAt (rest := []) rfl rfl (by decide) (by decide) (Nat.le_of_ble_eq_true rfl) (Nat.le_refl 0) (Nat.le_refl 0) dL_sound_352 fun G11 hW12 => ?_
      show J X 17 G11 sz 0 0 355 [some (.ref (B.1 + 0)), some (.int l1), some (.int l2), some (.int l3), some (.int l4), some (.int l5), some (.int l6), some (.int l7), some (.int l8), some (.int (l9 + 1)), some (.int (l10 + r2)), some (.int l11), some (.int l12), some (.int l13), some (.int l14), none, none] [.int r9.1]
      refine J_goto hx 360 dL_sound_355 rfl ?_
      refine J_is hx (by decide) (hc_of rfl) rfl dL_sound_360 ?_
      refine J_iinc hx (v' := (l13 + 1)) rfl rfl (by decide) (hc_of rfl) rfl dL_sound_362 ?_
      refine J_goto hx 277 dL_sound_365 rfl ?_
      refine J_lw (ls' := [some (.ref (B.1 + 0)), some (.int l1), some (.int l2), some (.int l3), some (.int l4), some (.int l5), some (.int l6), some (.int l7), some (.int l8), some (.int (l9 + 1)), some (.int (l10 + r2)), some (.int l11), some (.int r9.1), some (.int (l13 + 1)), none, none, none]) (lwS (lwS (lwS (lwS (lwS (lwS (lwS (lwS (lwS (lwS (lwS (lwS (lwS (lwS (lwN (lwN (lwN lwZ))))))))))))))))) ?_
      exact hk277 _ _ _ _ _ _ _ _ _ _ _ _ _ _  hW12 h
def sL_sound_292 (k247 : Wl → Int32 → Int32 → Int32 → Int32 → Int32 → Int32 → Int32 → Option (Bool × Wl)) (k277 : Wl → Int32 → Int32 → Int32 → Int32 → Int32 → Int32 → Int32 → Int32 → Int32 → Int32 → Int32 → Int32 → Int32 → Option (Bool × Wl)) : Nat → Wl → Int32 → Int32 → Int32 → Int32 → Int32 → Int32 → Int32 → Int32 → Int32 → Int32 → Int32 → Int32 → Int32 → Int32 → Option (Bool × Wl)
  | 0, _, _, _, _, _, _, _, _, _, _, _, _, _, _, _ => none
  | n + 1, w, l1, l2, l3, l4, l5, l6, l7, l8, l9, l10, l11, l12, l13, l14 => (if l14 < 0 then sL_sound_316 k247 k277 w l1 l2 l3 l4 l5 l6 l7 l8 l9 l10 l11 l12 l13 l14 else (if l14 = l7 then sL_sound_316 k247 k277 w l1 l2 l3 l4 l5 l6 l7 l8 l9 l10 l11 l12 l13 l14 else (sO_crate w l14 (2 : Int32)).bind (fun r3 => sL_sound_292 k247 k277 n w l1 l2 l3 l4 l5 l6 l7 l8 l9 l10 l11 l12 l13 r3)))
theorem tL_sound_292 {X : Cx} {B : Bs} {sz : Nat} {r : (Bool × Wl)} (hx : Fx X cL_sound 17 RL 9 0 0) (hC : GC (xΓ X) B) (htr : (xl X).stackTraces = false) (hr : Rt X (some .boolean) 0 0 (WΨ (xΓ X) B (some (.int (bI r.1))) r.2 sz)) (k247 : Wl → Int32 → Int32 → Int32 → Int32 → Int32 → Int32 → Int32 → Option (Bool × Wl)) (hk247 : ∀ (w : Wl) (l1 : Int32) (l2 : Int32) (l3 : Int32) (l4 : Int32) (l5 : Int32) (l6 : Int32) (l7 : Int32) {G : Gf} (hW : Wd (xΓ X) B w G) (h : k247 w l1 l2 l3 l4 l5 l6 l7 = some r), J X 17 G sz 0 0 247 [some (.ref (B.1 + 0)), some (.int l1), some (.int l2), some (.int l3), some (.int l4), some (.int l5), some (.int l6), some (.int l7), none, none, none, none, none, none, none, none, none] []) (k277 : Wl → Int32 → Int32 → Int32 → Int32 → Int32 → Int32 → Int32 → Int32 → Int32 → Int32 → Int32 → Int32 → Int32 → Option (Bool × Wl)) (hk277 : ∀ (w : Wl) (l1 : Int32) (l2 : Int32) (l3 : Int32) (l4 : Int32) (l5 : Int32) (l6 : Int32) (l7 : Int32) (l8 : Int32) (l9 : Int32) (l10 : Int32) (l11 : Int32) (l12 : Int32) (l13 : Int32) {G : Gf} (hW : Wd (xΓ X) B w G) (h : k277 w l1 l2 l3 l4 l5 l6 l7 l8 l9 l10 l11 l12 l13 = some r), J X 17 G sz 0 0 277 [some (.ref (B.1 + 0)), some (.int l1), some (.int l2), some (.int l3), some (.int l4), some (.int l5), some (.int l6), some (.int l7), some (.int l8), some (.int l9), some (.int l10), some (.int l11), some (.int l12), some (.int l13), none, none, none] []) : ∀ (n : Nat), ∀ (w : Wl) (l1 : Int32) (l2 : Int32) (l3 : Int32) (l4 : Int32) (l5 : Int32) (l6 : Int32) (l7 : Int32) (l8 : Int32) (l9 : Int32) (l10 : Int32) (l11 : Int32) (l12 : Int32) (l13 : Int32) (l14 : Int32) {G : Gf} (hW : Wd (xΓ X) B w G) (h : sL_sound_292 k247 k277 n w l1 l2 l3 l4 l5 l6 l7 l8 l9 l10 l11 l12 l13 l14 = some r), J X 17 G sz 0 0 292 [some (.ref (B.1 + 0)), some (.int l1), some (.int l2), some (.int l3), some (.int l4), some (.int l5), some (.int l6), some (.int l7), some (.int l8), some (.int l9), some (.int l10), some (.int l11), some (.int l12), some (.int l13), some (.int l14), none, none] [] := by
  intro n
  induction n with
  | zero => intro w l1 l2 l3 l4 l5 l6 l7 l8 l9 l10 l11 l12 l13 l14 G hW h; rw [sL_sound_292.eq_1] at h; cases h
  | succ n ih =>
    intro w l1 l2 l3 l4 l5 l6 l7 l8 l9 l10 l11 l12 l13 l14 G hW h
    rw [sL_sound_292.eq_2] at h
    refine J_il hx rfl dL_sound_292 ?_
    refine J_if_lt hx 316 dL_sound_294 rfl (fun h1 => ?_) (fun h1 => ?_)
    · replace h := pos h h1
      exact tL_sound_316 hx hC htr hr _ hk247 _ hk277 _ _ _ _ _ _ _ _ _ _ _ _ _ _ _  hW h
    · replace h := neg h h1
      refine J_il hx rfl dL_sound_297 ?_
      refine J_il hx rfl dL_sound_299 ?_
      refine J_icmp_eq hx 316 dL_sound_301 rfl (fun h2 => ?_) (fun h2 => ?_)
      · replace h := pos h h2
        exact tL_sound_316 hx hC htr hr _ hk247 _ hk277 _ _ _ _ _ _ _ _ _ _ _ _ _ _ _  hW h
      · replace h := neg h h2
        refine J_al4 hx rfl rfl dL_sound_304 ?_
        refine J_il hx rfl dL_sound_305 ?_
        refine J_iconst hx (2 : Int32) dL_sound_307 rfl ?_
        obtain ⟨r3, hr4, h⟩ := bnd h
        refine J_rdL hx (kP_crate hC hW (okS_e hr4)) ml_L_118 cw_crate st_crate ini_L hy_crate (rest := []) rfl rfl (by decide) (by decide) (Nat.le_of_ble_eq_true rfl) (Nat.le_refl 0) (Nat.le_refl 0) dL_sound_308 ?_
        refine J_is hx (by decide) (hc_of rfl) rfl dL_sound_311 ?_
        refine J_goto hx 292 dL_sound_313 rfl ?_
        exact ih _ _ _ _ _ _ _ _ _ _ _ _ _ _ _  hW h
def sL_sound_277 (k247 : Wl → Int32 → Int32 → Int32 → Int32 → Int32 → Int32 → Int32 → Option (Bool × Wl)) : Nat → Wl → Int32 → Int32 → Int32 → Int32 → Int32 → Int32 → Int32 → Int32 → Int32 → Int32 → Int32 → Int32 → Int32 → Option (Bool × Wl)
  | 0, _, _, _, _, _, _, _, _, _, _, _, _, _, _ => none
  | n + 1, w, l1, l2, l3, l4, l5, l6, l7, l8, l9, l10, l11, l12, l13 => (if l2 ≤ l13 then sL_sound_371 k247 FU w l1 l2 l3 l4 l5 l6 l7 l8 l9 l10 l11 l12 (0 : Int32) else (sO_work w l13 (4 : Int32)).bind (fun r2 => sL_sound_292 k247 (fun w l1 l2 l3 l4 l5 l6 l7 l8 l9 l10 l11 l12 l13 => sL_sound_277 k247 n w l1 l2 l3 l4 l5 l6 l7 l8 l9 l10 l11 l12 l13) FU w l1 l2 l3 l4 l5 l6 l7 l8 l9 l10 l11 l12 l13 r2))
theorem tL_sound_277 {X : Cx} {B : Bs} {sz : Nat} {r : (Bool × Wl)} (hx : Fx X cL_sound 17 RL 9 0 0) (hC : GC (xΓ X) B) (htr : (xl X).stackTraces = false) (hr : Rt X (some .boolean) 0 0 (WΨ (xΓ X) B (some (.int (bI r.1))) r.2 sz)) (k247 : Wl → Int32 → Int32 → Int32 → Int32 → Int32 → Int32 → Int32 → Option (Bool × Wl)) (hk247 : ∀ (w : Wl) (l1 : Int32) (l2 : Int32) (l3 : Int32) (l4 : Int32) (l5 : Int32) (l6 : Int32) (l7 : Int32) {G : Gf} (hW : Wd (xΓ X) B w G) (h : k247 w l1 l2 l3 l4 l5 l6 l7 = some r), J X 17 G sz 0 0 247 [some (.ref (B.1 + 0)), some (.int l1), some (.int l2), some (.int l3), some (.int l4), some (.int l5), some (.int l6), some (.int l7), none, none, none, none, none, none, none, none, none] []) : ∀ (n : Nat), ∀ (w : Wl) (l1 : Int32) (l2 : Int32) (l3 : Int32) (l4 : Int32) (l5 : Int32) (l6 : Int32) (l7 : Int32) (l8 : Int32) (l9 : Int32) (l10 : Int32) (l11 : Int32) (l12 : Int32) (l13 : Int32) {G : Gf} (hW : Wd (xΓ X) B w G) (h : sL_sound_277 k247 n w l1 l2 l3 l4 l5 l6 l7 l8 l9 l10 l11 l12 l13 = some r), J X 17 G sz 0 0 277 [some (.ref (B.1 + 0)), some (.int l1), some (.int l2), some (.int l3), some (.int l4), some (.int l5), some (.int l6), some (.int l7), some (.int l8), some (.int l9), some (.int l10), some (.int l11), some (.int l12), some (.int l13), none, none, none] [] := by
  intro n
  induction n with
  | zero => intro w l1 l2 l3 l4 l5 l6 l7 l8 l9 l10 l11 l12 l13 G hW h; rw [sL_sound_277.eq_1] at h; cases h
  | succ n ih =>
    intro w l1 l2 l3 l4 l5 l6 l7 l8 l9 l10 l11 l12 l13 G hW h
    rw [sL_sound_277.eq_2] at h
    refine J_il hx rfl dL_sound_277 ?_
    refine J_il4 hx rfl rfl dL_sound_279 ?_
    refine J_icmp_ge hx 368 dL_sound_280 rfl (fun h1 => ?_) (fun h1 => ?_)
    · replace h := pos h h1
      refine J_iconst hx (0 : Int32) dL_sound_368 rfl ?_
      refine J_is hx (by decide) (hc_of rfl) rfl dL_sound_369 ?_
      exact tL_sound_371 hx hC htr hr _ hk247 _ _ _ _ _ _ _ _ _ _ _ _ _ _ _  hW h
    · replace h := neg h h1
      refine J_al4 hx rfl rfl dL_sound_283 ?_
      refine J_il hx rfl dL_sound_284 ?_
      refine J_iconst hx (4 : Int32) dL_sound_286 rfl ?_
      obtain ⟨r2, hr3, h⟩ := bnd h
      refine J_rdL hx (kP_work hC hW (okS_e hr3)) ml_L_115 cw_work st_work ini_L hy_work (rest := []) rfl rfl (by decide) (by decide) (Nat.le_of_ble_eq_true rfl) (Nat.le_refl 0) (Nat.le_refl 0) dL_sound_287 ?_
      refine J_is hx (by decide) (hc_of rfl) rfl dL_sound_290 ?_
      exact tL_sound_292 hx hC htr hr _ hk247 _ ih _ _ _ _ _ _ _ _ _ _ _ _ _ _ _ _  hW h
def sL_sound_247 : Nat → Wl → Int32 → Int32 → Int32 → Int32 → Int32 → Int32 → Int32 → Option (Bool × Wl)
  | 0, _, _, _, _, _, _, _, _ => none
  | n + 1, w, l1, l2, l3, l4, l5, l6, l7 => (if l1 ≤ l7 then sL_sound_816 FU w l3 l4 l5 l6 (0 : Int32) (0 : Int32) (0 : Int32) (0 : Int32) (0 : Int32) else (sO_crate w l7 (2 : Int32)).bind (fun r2 => sL_sound_277 (fun w l1 l2 l3 l4 l5 l6 l7 => sL_sound_247 n w l1 l2 l3 l4 l5 l6 l7) FU w l1 l2 l3 l4 l5 l6 l7 r2 (0 : Int32) (0 : Int32) (0 : Int32) (-1 : Int32) (0 : Int32)))
theorem tL_sound_247 {X : Cx} {B : Bs} {sz : Nat} {r : (Bool × Wl)} (hx : Fx X cL_sound 17 RL 9 0 0) (hC : GC (xΓ X) B) (htr : (xl X).stackTraces = false) (hr : Rt X (some .boolean) 0 0 (WΨ (xΓ X) B (some (.int (bI r.1))) r.2 sz)) : ∀ (n : Nat), ∀ (w : Wl) (l1 : Int32) (l2 : Int32) (l3 : Int32) (l4 : Int32) (l5 : Int32) (l6 : Int32) (l7 : Int32) {G : Gf} (hW : Wd (xΓ X) B w G) (h : sL_sound_247 n w l1 l2 l3 l4 l5 l6 l7 = some r), J X 17 G sz 0 0 247 [some (.ref (B.1 + 0)), some (.int l1), some (.int l2), some (.int l3), some (.int l4), some (.int l5), some (.int l6), some (.int l7), none, none, none, none, none, none, none, none, none] [] := by
  intro n
  induction n with
  | zero => intro w l1 l2 l3 l4 l5 l6 l7 G hW h; rw [sL_sound_247.eq_1] at h; cases h
  | succ n ih =>
    intro w l1 l2 l3 l4 l5 l6 l7 G hW h
    rw [sL_sound_247.eq_2] at h
    refine J_il hx rfl dL_sound_247 ?_
    refine J_il4 hx rfl rfl dL_sound_249 ?_
    refine J_icmp_ge hx 801 dL_sound_250 rfl (fun h1 => ?_) (fun h1 => ?_)
    · replace h := pos h h1
      refine J_iconst hx (0 : Int32) dL_sound_801 rfl ?_
      refine J_is hx (by decide) (hc_of rfl) rfl dL_sound_802 ?_
      refine J_iconst hx (0 : Int32) dL_sound_804 rfl ?_
      refine J_is hx (by decide) (hc_of rfl) rfl dL_sound_805 ?_
      refine J_iconst hx (0 : Int32) dL_sound_807 rfl ?_
      refine J_is hx (by decide) (hc_of rfl) rfl dL_sound_808 ?_
      refine J_iconst hx (0 : Int32) dL_sound_810 rfl ?_
      refine J_is hx (by decide) (hc_of rfl) rfl dL_sound_811 ?_
      refine J_iconst hx (0 : Int32) dL_sound_813 rfl ?_
      refine J_is hx (by decide) (hc_of rfl) rfl dL_sound_814 ?_
      refine J_lw (ls' := [some (.ref (B.1 + 0)), none, none, some (.int l3), some (.int l4), some (.int l5), some (.int l6), some (.int (0 : Int32)), some (.int (0 : Int32)), some (.int (0 : Int32)), some (.int (0 : Int32)), some (.int (0 : Int32)), none, none, none, none, none]) (lwS (lwN (lwN (lwS (lwS (lwS (lwS (lwS (lwS (lwS (lwS (lwS (lwN (lwN (lwN (lwN (lwN lwZ))))))))))))))))) ?_
      exact tL_sound_816 hx hC htr hr _ _ _ _ _ _ _ _ _ _ _  hW h
    · replace h := neg h h1
      refine J_al4 hx rfl rfl dL_sound_253 ?_
      refine J_il hx rfl dL_sound_254 ?_
      refine J_iconst hx (2 : Int32) dL_sound_256 rfl ?_
      obtain ⟨r2, hr3, h⟩ := bnd h
      refine J_rdL hx (kP_crate hC hW (okS_e hr3)) ml_L_118 cw_crate st_crate ini_L hy_crate (rest := []) rfl rfl (by decide) (by decide) (Nat.le_of_ble_eq_true rfl) (Nat.le_refl 0) (Nat.le_refl 0) dL_sound_257 ?_
      refine J_is hx (by decide) (hc_of rfl) rfl dL_sound_260 ?_
      refine J_iconst hx (0 : Int32) dL_sound_262 rfl ?_
      refine J_is hx (by decide) (hc_of rfl) rfl dL_sound_263 ?_
      refine J_iconst hx (0 : Int32) dL_sound_265 rfl ?_
      refine J_is hx (by decide) (hc_of rfl) rfl dL_sound_266 ?_
      refine J_iconst hx (0 : Int32) dL_sound_268 rfl ?_
      refine J_is hx (by decide) (hc_of rfl) rfl dL_sound_269 ?_
      refine J_iconst hx (-1 : Int32) dL_sound_271 rfl ?_
      refine J_is hx (by decide) (hc_of rfl) rfl dL_sound_272 ?_
      refine J_iconst hx (0 : Int32) dL_sound_274 rfl ?_
      refine J_is hx (by decide) (hc_of rfl) rfl dL_sound_275 ?_
      exact tL_sound_277 hx hC htr hr _ ih _ _ _ _ _ _ _ _ _ _ _ _ _ _ _  hW h
def sL_sound_226 (k26 : Wl → Int32 → Int32 → Int32 → Int32 → Int32 → Int32 → Int32 → Option (Bool × Wl)) (w : Wl) (l1 : Int32) (l2 : Int32) (l3 : Int32) (l4 : Int32) (l5 : Int32) (l6 : Int32) (l7 : Int32) (l9 : Int32) : Option (Bool × Wl) := (sO_whole w (1 : Int32)).bind (fun r1 => (if l9 < r1 then k26 w l1 l2 l3 l4 l5 l6 (l7 + 1) else some (false, w)))
theorem tL_sound_226 {X : Cx} {B : Bs} {sz : Nat} {r : (Bool × Wl)} (hx : Fx X cL_sound 17 RL 9 0 0) (hC : GC (xΓ X) B) (htr : (xl X).stackTraces = false) (hr : Rt X (some .boolean) 0 0 (WΨ (xΓ X) B (some (.int (bI r.1))) r.2 sz)) (k26 : Wl → Int32 → Int32 → Int32 → Int32 → Int32 → Int32 → Int32 → Option (Bool × Wl)) (hk26 : ∀ (w : Wl) (l1 : Int32) (l2 : Int32) (l3 : Int32) (l4 : Int32) (l5 : Int32) (l6 : Int32) (l7 : Int32) {G : Gf} (hW : Wd (xΓ X) B w G) (h : k26 w l1 l2 l3 l4 l5 l6 l7 = some r), J X 17 G sz 0 0 26 [some (.ref (B.1 + 0)), some (.int l1), some (.int l2), some (.int l3), some (.int l4), some (.int l5), some (.int l6), some (.int l7), none, none, none, none, none, none, none, none, none] []) : ∀ (w : Wl) (l1 : Int32) (l2 : Int32) (l3 : Int32) (l4 : Int32) (l5 : Int32) (l6 : Int32) (l7 : Int32) (l9 : Int32) {G : Gf} (hW : Wd (xΓ X) B w G) (h : sL_sound_226 k26  w l1 l2 l3 l4 l5 l6 l7 l9 = some r), J X 17 G sz 0 0 226 [some (.ref (B.1 + 0)), some (.int l1), some (.int l2), some (.int l3), some (.int l4), some (.int l5), some (.int l6), some (.int l7), none, some (.int l9), none, none, none, none, none, none, none] [] := by
  intro w l1 l2 l3 l4 l5 l6 l7 l9 G hW h
  unfold sL_sound_226 at h
  refine J_il hx rfl dL_sound_226 ?_
  refine J_al4 hx rfl rfl dL_sound_228 ?_
  refine J_iconst hx (1 : Int32) dL_sound_229 rfl ?_
  obtain ⟨r1, hr2, h⟩ := bnd h
  refine J_rdL hx (kP_whole hC hW (okS_e hr2)) ml_L_110 cw_whole st_whole ini_L hy_whole (rest := [.int l9]) rfl rfl (by decide) (by decide) (Nat.le_of_ble_eq_true rfl) (Nat.le_refl 0) (Nat.le_refl 0) dL_sound_230 ?_
  refine J_icmp_lt hx 238 dL_sound_233 rfl (fun h3 => ?_) (fun h3 => ?_)
  · replace h := pos h h3
    refine J_iinc hx (v' := (l7 + 1)) rfl rfl (by decide) (hc_of rfl) rfl dL_sound_238 ?_
    refine J_goto hx 26 dL_sound_241 rfl ?_
    refine J_lw (ls' := [some (.ref (B.1 + 0)), some (.int l1), some (.int l2), some (.int l3), some (.int l4), some (.int l5), some (.int l6), some (.int (l7 + 1)), none, none, none, none, none, none, none, none, none]) (lwS (lwS (lwS (lwS (lwS (lwS (lwS (lwS (lwN (lwN (lwN (lwN (lwN (lwN (lwN (lwN (lwN lwZ))))))))))))))))) ?_
    exact hk26 _ _ _ _ _ _ _ _  hW h
  · replace h := neg h h3
    refine J_iconst hx (0 : Int32) dL_sound_236 rfl ?_
    obtain rfl := Option.some.inj h
    exact J_zretW (b := false) hx hr hW dL_sound_237 (Nat.le_refl 0) (Nat.le_refl 0)
def sL_sound_201 (k26 : Wl → Int32 → Int32 → Int32 → Int32 → Int32 → Int32 → Int32 → Option (Bool × Wl)) (w : Wl) (l1 : Int32) (l2 : Int32) (l3 : Int32) (l4 : Int32) (l5 : Int32) (l6 : Int32) (l7 : Int32) (l9 : Int32) (l11 : Int32) (l13 : Int32) : Option (Bool × Wl) := (sO_whole w (0 : Int32)).bind (fun r1 => (if l13 < r1 then some (false, w) else (if l11 = 0 then (if l13 = r1 then sL_sound_226 k26 w l1 l2 l3 l4 l5 l6 l7 l9 else some (false, w)) else sL_sound_226 k26 w l1 l2 l3 l4 l5 l6 l7 l9)))
theorem tL_sound_201 {X : Cx} {B : Bs} {sz : Nat} {r : (Bool × Wl)} (hx : Fx X cL_sound 17 RL 9 0 0) (hC : GC (xΓ X) B) (htr : (xl X).stackTraces = false) (hr : Rt X (some .boolean) 0 0 (WΨ (xΓ X) B (some (.int (bI r.1))) r.2 sz)) (k26 : Wl → Int32 → Int32 → Int32 → Int32 → Int32 → Int32 → Int32 → Option (Bool × Wl)) (hk26 : ∀ (w : Wl) (l1 : Int32) (l2 : Int32) (l3 : Int32) (l4 : Int32) (l5 : Int32) (l6 : Int32) (l7 : Int32) {G : Gf} (hW : Wd (xΓ X) B w G) (h : k26 w l1 l2 l3 l4 l5 l6 l7 = some r), J X 17 G sz 0 0 26 [some (.ref (B.1 + 0)), some (.int l1), some (.int l2), some (.int l3), some (.int l4), some (.int l5), some (.int l6), some (.int l7), none, none, none, none, none, none, none, none, none] []) : ∀ (w : Wl) (l1 : Int32) (l2 : Int32) (l3 : Int32) (l4 : Int32) (l5 : Int32) (l6 : Int32) (l7 : Int32) (l9 : Int32) (l11 : Int32) (l13 : Int32) {G : Gf} (hW : Wd (xΓ X) B w G) (h : sL_sound_201 k26  w l1 l2 l3 l4 l5 l6 l7 l9 l11 l13 = some r), J X 17 G sz 0 0 201 [some (.ref (B.1 + 0)), some (.int l1), some (.int l2), some (.int l3), some (.int l4), some (.int l5), some (.int l6), some (.int l7), none, some (.int l9), none, some (.int l11), none, some (.int l13), none, none, none] [] := by
  intro w l1 l2 l3 l4 l5 l6 l7 l9 l11 l13 G hW h
  unfold sL_sound_201 at h
  refine J_il hx rfl dL_sound_201 ?_
  refine J_al4 hx rfl rfl dL_sound_203 ?_
  refine J_iconst hx (0 : Int32) dL_sound_204 rfl ?_
  obtain ⟨r1, hr2, h⟩ := bnd h
  refine J_rdL hx (kP_whole hC hW (okS_e hr2)) ml_L_110 cw_whole st_whole ini_L hy_whole (rest := [.int l13]) rfl rfl (by decide) (by decide) (Nat.le_of_ble_eq_true rfl) (Nat.le_refl 0) (Nat.le_refl 0) dL_sound_205 ?_
  refine J_icmp_lt hx 236 dL_sound_208 rfl (fun h3 => ?_) (fun h3 => ?_)
  · replace h := pos h h3
    refine J_iconst hx (0 : Int32) dL_sound_236 rfl ?_
    obtain rfl := Option.some.inj h
    exact J_zretW (b := false) hx hr hW dL_sound_237 (Nat.le_refl 0) (Nat.le_refl 0)
  · replace h := neg h h3
    refine J_il hx rfl dL_sound_211 ?_
    refine J_if_ne hx 226 dL_sound_213 rfl (fun h4 => ?_) (fun h4 => ?_)
    · replace h := neg h h4
      refine J_lw (ls' := [some (.ref (B.1 + 0)), some (.int l1), some (.int l2), some (.int l3), some (.int l4), some (.int l5), some (.int l6), some (.int l7), none, some (.int l9), none, none, none, none, none, none, none]) (lwS (lwS (lwS (lwS (lwS (lwS (lwS (lwS (lwN (lwS (lwN (lwN (lwN (lwN (lwN (lwN (lwN lwZ))))))))))))))))) ?_
      exact tL_sound_226 hx hC htr hr _ hk26 _ _ _ _ _ _ _ _ _  hW h
    · replace h := pos h h4
      refine J_il hx rfl dL_sound_216 ?_
      refine J_al4 hx rfl rfl dL_sound_218 ?_
      refine J_iconst hx (0 : Int32) dL_sound_219 rfl ?_
      refine J_rdL hx (kP_whole hC hW (okS_e hr2)) ml_L_110 cw_whole st_whole ini_L hy_whole (rest := [.int l13]) rfl rfl (by decide) (by decide) (Nat.le_of_ble_eq_true rfl) (Nat.le_refl 0) (Nat.le_refl 0) dL_sound_220 ?_
      refine J_icmp_ne hx 236 dL_sound_223 rfl (fun h5 => ?_) (fun h5 => ?_)
      · replace h := neg h h5
        refine J_iconst hx (0 : Int32) dL_sound_236 rfl ?_
        obtain rfl := Option.some.inj h
        exact J_zretW (b := false) hx hr hW dL_sound_237 (Nat.le_refl 0) (Nat.le_refl 0)
      · replace h := pos h h5
        refine J_lw (ls' := [some (.ref (B.1 + 0)), some (.int l1), some (.int l2), some (.int l3), some (.int l4), some (.int l5), some (.int l6), some (.int l7), none, some (.int l9), none, none, none, none, none, none, none]) (lwS (lwS (lwS (lwS (lwS (lwS (lwS (lwS (lwN (lwS (lwN (lwN (lwN (lwN (lwN (lwN (lwN lwZ))))))))))))))))) ?_
        exact tL_sound_226 hx hC htr hr _ hk26 _ _ _ _ _ _ _ _ _  hW h
def sL_sound_191 (k26 : Wl → Int32 → Int32 → Int32 → Int32 → Int32 → Int32 → Int32 → Option (Bool × Wl)) (w : Wl) (l1 : Int32) (l2 : Int32) (l3 : Int32) (l4 : Int32) (l5 : Int32) (l6 : Int32) (l7 : Int32) (l8 : Int32) (l9 : Int32) (l11 : Int32) (l13 : Int32) : Option (Bool × Wl) := (if 0 ≤ l8 then sL_sound_201 k26 w l1 l2 l3 l4 l5 l6 l7 l9 l11 l13 else (if l9 < 0 then some (false, w) else sL_sound_201 k26 w l1 l2 l3 l4 l5 l6 l7 l9 l11 l13))
theorem tL_sound_191 {X : Cx} {B : Bs} {sz : Nat} {r : (Bool × Wl)} (hx : Fx X cL_sound 17 RL 9 0 0) (hC : GC (xΓ X) B) (htr : (xl X).stackTraces = false) (hr : Rt X (some .boolean) 0 0 (WΨ (xΓ X) B (some (.int (bI r.1))) r.2 sz)) (k26 : Wl → Int32 → Int32 → Int32 → Int32 → Int32 → Int32 → Int32 → Option (Bool × Wl)) (hk26 : ∀ (w : Wl) (l1 : Int32) (l2 : Int32) (l3 : Int32) (l4 : Int32) (l5 : Int32) (l6 : Int32) (l7 : Int32) {G : Gf} (hW : Wd (xΓ X) B w G) (h : k26 w l1 l2 l3 l4 l5 l6 l7 = some r), J X 17 G sz 0 0 26 [some (.ref (B.1 + 0)), some (.int l1), some (.int l2), some (.int l3), some (.int l4), some (.int l5), some (.int l6), some (.int l7), none, none, none, none, none, none, none, none, none] []) : ∀ (w : Wl) (l1 : Int32) (l2 : Int32) (l3 : Int32) (l4 : Int32) (l5 : Int32) (l6 : Int32) (l7 : Int32) (l8 : Int32) (l9 : Int32) (l11 : Int32) (l13 : Int32) {G : Gf} (hW : Wd (xΓ X) B w G) (h : sL_sound_191 k26  w l1 l2 l3 l4 l5 l6 l7 l8 l9 l11 l13 = some r), J X 17 G sz 0 0 191 [some (.ref (B.1 + 0)), some (.int l1), some (.int l2), some (.int l3), some (.int l4), some (.int l5), some (.int l6), some (.int l7), some (.int l8), some (.int l9), none, some (.int l11), none, some (.int l13), none, none, none] [] := by
  intro w l1 l2 l3 l4 l5 l6 l7 l8 l9 l11 l13 G hW h
  unfold sL_sound_191 at h
  refine J_il hx rfl dL_sound_191 ?_
  refine J_if_ge hx 201 dL_sound_193 rfl (fun h1 => ?_) (fun h1 => ?_)
  · replace h := pos h h1
    refine J_lw (ls' := [some (.ref (B.1 + 0)), some (.int l1), some (.int l2), some (.int l3), some (.int l4), some (.int l5), some (.int l6), some (.int l7), none, some (.int l9), none, some (.int l11), none, some (.int l13), none, none, none]) (lwS (lwS (lwS (lwS (lwS (lwS (lwS (lwS (lwN (lwS (lwN (lwS (lwN (lwS (lwN (lwN (lwN lwZ))))))))))))))))) ?_
    exact tL_sound_201 hx hC htr hr _ hk26 _ _ _ _ _ _ _ _ _ _ _  hW h
  · replace h := neg h h1
    refine J_il hx rfl dL_sound_196 ?_
    refine J_if_lt hx 236 dL_sound_198 rfl (fun h2 => ?_) (fun h2 => ?_)
    · replace h := pos h h2
      refine J_iconst hx (0 : Int32) dL_sound_236 rfl ?_
      obtain rfl := Option.some.inj h
      exact J_zretW (b := false) hx hr hW dL_sound_237 (Nat.le_refl 0) (Nat.le_refl 0)
    · replace h := neg h h2
      refine J_lw (ls' := [some (.ref (B.1 + 0)), some (.int l1), some (.int l2), some (.int l3), some (.int l4), some (.int l5), some (.int l6), some (.int l7), none, some (.int l9), none, some (.int l11), none, some (.int l13), none, none, none]) (lwS (lwS (lwS (lwS (lwS (lwS (lwS (lwS (lwN (lwS (lwN (lwS (lwN (lwS (lwN (lwN (lwN lwZ))))))))))))))))) ?_
      exact tL_sound_201 hx hC htr hr _ hk26 _ _ _ _ _ _ _ _ _ _ _  hW h
def sL_sound_129 (k26 : Wl → Int32 → Int32 → Int32 → Int32 → Int32 → Int32 → Int32 → Option (Bool × Wl)) (k101 : Wl → Int32 → Int32 → Int32 → Int32 → Int32 → Int32 → Int32 → Int32 → Int32 → Int32 → Int32 → Int32 → Option (Bool × Wl)) (w : Wl) (l1 : Int32) (l2 : Int32) (l3 : Int32) (l4 : Int32) (l5 : Int32) (l6 : Int32) (l7 : Int32) (l8 : Int32) (l9 : Int32) (l10 : Int32) (l12 : Int32) (s0 : Int32) : Option (Bool × Wl) := (sO_crate w l12 (2 : Int32)).bind (fun r1 => k101 w l1 l2 l3 l4 l5 l6 l7 l8 l9 l10 s0 r1)
theorem tL_sound_129 {X : Cx} {B : Bs} {sz : Nat} {r : (Bool × Wl)} (hx : Fx X cL_sound 17 RL 9 0 0) (hC : GC (xΓ X) B) (htr : (xl X).stackTraces = false) (hr : Rt X (some .boolean) 0 0 (WΨ (xΓ X) B (some (.int (bI r.1))) r.2 sz)) (k26 : Wl → Int32 → Int32 → Int32 → Int32 → Int32 → Int32 → Int32 → Option (Bool × Wl)) (hk26 : ∀ (w : Wl) (l1 : Int32) (l2 : Int32) (l3 : Int32) (l4 : Int32) (l5 : Int32) (l6 : Int32) (l7 : Int32) {G : Gf} (hW : Wd (xΓ X) B w G) (h : k26 w l1 l2 l3 l4 l5 l6 l7 = some r), J X 17 G sz 0 0 26 [some (.ref (B.1 + 0)), some (.int l1), some (.int l2), some (.int l3), some (.int l4), some (.int l5), some (.int l6), some (.int l7), none, none, none, none, none, none, none, none, none] []) (k101 : Wl → Int32 → Int32 → Int32 → Int32 → Int32 → Int32 → Int32 → Int32 → Int32 → Int32 → Int32 → Int32 → Option (Bool × Wl)) (hk101 : ∀ (w : Wl) (l1 : Int32) (l2 : Int32) (l3 : Int32) (l4 : Int32) (l5 : Int32) (l6 : Int32) (l7 : Int32) (l8 : Int32) (l9 : Int32) (l10 : Int32) (l11 : Int32) (l12 : Int32) {G : Gf} (hW : Wd (xΓ X) B w G) (h : k101 w l1 l2 l3 l4 l5 l6 l7 l8 l9 l10 l11 l12 = some r), J X 17 G sz 0 0 101 [some (.ref (B.1 + 0)), some (.int l1), some (.int l2), some (.int l3), some (.int l4), some (.int l5), some (.int l6), some (.int l7), some (.int l8), some (.int l9), some (.int l10), some (.int l11), some (.int l12), none, none, none, none] []) : ∀ (w : Wl) (l1 : Int32) (l2 : Int32) (l3 : Int32) (l4 : Int32) (l5 : Int32) (l6 : Int32) (l7 : Int32) (l8 : Int32) (l9 : Int32) (l10 : Int32) (l12 : Int32) (s0 : Int32) {G : Gf} (hW : Wd (xΓ X) B w G) (h : sL_sound_129 k26 k101  w l1 l2 l3 l4 l5 l6 l7 l8 l9 l10 l12 s0 = some r), J X 17 G sz 0 0 129 [some (.ref (B.1 + 0)), some (.int l1), some (.int l2), some (.int l3), some (.int l4), some (.int l5), some (.int l6), some (.int l7), some (.int l8), some (.int l9), some (.int l10), none, some (.int l12), none, none, none, none] [.int s0] := by
  intro w l1 l2 l3 l4 l5 l6 l7 l8 l9 l10 l12 s0 G hW h
  unfold sL_sound_129 at h
  refine J_is hx (by decide) (hc_of rfl) rfl dL_sound_129 ?_
  refine J_al4 hx rfl rfl dL_sound_131 ?_
  refine J_il hx rfl dL_sound_132 ?_
  refine J_iconst hx (2 : Int32) dL_sound_134 rfl ?_
  obtain ⟨r1, hr2, h⟩ := bnd h
  refine J_rdL hx (kP_crate hC hW (okS_e hr2)) ml_L_118 cw_crate st_crate ini_L hy_crate (rest := []) rfl rfl (by decide) (by decide) (Nat.le_of_ble_eq_true rfl) (Nat.le_refl 0) (Nat.le_refl 0) dL_sound_135 ?_
  refine J_is hx (by decide) (hc_of rfl) rfl dL_sound_138 ?_
  refine J_goto hx 101 dL_sound_140 rfl ?_
  exact hk101 _ _ _ _ _ _ _ _ _ _ _ _ _  hW h
def sL_sound_101 (k26 : Wl → Int32 → Int32 → Int32 → Int32 → Int32 → Int32 → Int32 → Option (Bool × Wl)) : Nat → Wl → Int32 → Int32 → Int32 → Int32 → Int32 → Int32 → Int32 → Int32 → Int32 → Int32 → Int32 → Int32 → Option (Bool × Wl)
  | 0, _, _, _, _, _, _, _, _, _, _, _, _, _ => none
  | n + 1, w, l1, l2, l3, l4, l5, l6, l7, l8, l9, l10, l11, l12 => (if l12 < 0 then (sO_readyAt w l7).bind (fun r2 => (sO_work r2.2 l7 (6 : Int32)).bind (fun r6 => (if r6 = l10 then (sO_work r2.2 l7 (2 : Int32)).bind (fun r9 => (if r9 < 0 then some (false, r2.2) else (if l8 < 0 then sL_sound_191 k26 r2.2 l1 l2 l3 l4 l5 l6 l7 l8 l9 l11 r2.1 else (sO_crate r2.2 l8 (3 : Int32)).bind (fun r13 => (if l9 = r13 then sL_sound_191 k26 r2.2 l1 l2 l3 l4 l5 l6 l7 l8 l9 l11 r2.1 else some (false, r2.2)))))) else some (false, r2.2)))) else (if l11 = 0 then (sO_crate w l12 (1 : Int32)).bind (fun r17 => (if r17 = 0 then sL_sound_129 k26 (fun w l1 l2 l3 l4 l5 l6 l7 l8 l9 l10 l11 l12 => sL_sound_101 k26 n w l1 l2 l3 l4 l5 l6 l7 l8 l9 l10 l11 l12) w l1 l2 l3 l4 l5 l6 l7 l8 l9 (l10 + 1) l12 (1 : Int32) else sL_sound_129 k26 (fun w l1 l2 l3 l4 l5 l6 l7 l8 l9 l10 l11 l12 => sL_sound_101 k26 n w l1 l2 l3 l4 l5 l6 l7 l8 l9 l10 l11 l12) w l1 l2 l3 l4 l5 l6 l7 l8 l9 (l10 + 1) l12 (0 : Int32))) else sL_sound_129 k26 (fun w l1 l2 l3 l4 l5 l6 l7 l8 l9 l10 l11 l12 => sL_sound_101 k26 n w l1 l2 l3 l4 l5 l6 l7 l8 l9 l10 l11 l12) w l1 l2 l3 l4 l5 l6 l7 l8 l9 (l10 + 1) l12 (1 : Int32)))
theorem tL_sound_101 {X : Cx} {B : Bs} {sz : Nat} {r : (Bool × Wl)} (hx : Fx X cL_sound 17 RL 9 0 0) (hC : GC (xΓ X) B) (htr : (xl X).stackTraces = false) (hr : Rt X (some .boolean) 0 0 (WΨ (xΓ X) B (some (.int (bI r.1))) r.2 sz)) (k26 : Wl → Int32 → Int32 → Int32 → Int32 → Int32 → Int32 → Int32 → Option (Bool × Wl)) (hk26 : ∀ (w : Wl) (l1 : Int32) (l2 : Int32) (l3 : Int32) (l4 : Int32) (l5 : Int32) (l6 : Int32) (l7 : Int32) {G : Gf} (hW : Wd (xΓ X) B w G) (h : k26 w l1 l2 l3 l4 l5 l6 l7 = some r), J X 17 G sz 0 0 26 [some (.ref (B.1 + 0)), some (.int l1), some (.int l2), some (.int l3), some (.int l4), some (.int l5), some (.int l6), some (.int l7), none, none, none, none, none, none, none, none, none] []) : ∀ (n : Nat), ∀ (w : Wl) (l1 : Int32) (l2 : Int32) (l3 : Int32) (l4 : Int32) (l5 : Int32) (l6 : Int32) (l7 : Int32) (l8 : Int32) (l9 : Int32) (l10 : Int32) (l11 : Int32) (l12 : Int32) {G : Gf} (hW : Wd (xΓ X) B w G) (h : sL_sound_101 k26 n w l1 l2 l3 l4 l5 l6 l7 l8 l9 l10 l11 l12 = some r), J X 17 G sz 0 0 101 [some (.ref (B.1 + 0)), some (.int l1), some (.int l2), some (.int l3), some (.int l4), some (.int l5), some (.int l6), some (.int l7), some (.int l8), some (.int l9), some (.int l10), some (.int l11), some (.int l12), none, none, none, none] [] := by
  intro n
  induction n with
  | zero => intro w l1 l2 l3 l4 l5 l6 l7 l8 l9 l10 l11 l12 G hW h; rw [sL_sound_101.eq_1] at h; cases h
  | succ n ih =>
    intro w l1 l2 l3 l4 l5 l6 l7 l8 l9 l10 l11 l12 G hW h
    rw [sL_sound_101.eq_2] at h
    refine J_il hx rfl dL_sound_101 ?_
    refine J_if_lt hx 143 dL_sound_103 rfl (fun h1 => ?_) (fun h1 => ?_)
    · replace h := pos h h1
      refine J_al4 hx rfl rfl dL_sound_143 ?_
      refine J_il hx rfl dL_sound_144 ?_
      obtain ⟨r2, hr3, h⟩ := bnd h
      refine J_wrL hx (kP_readyAt hC hW (okS_e hr3)) ml_L_120 cw_readyAt st_readyAt ini_L hy_readyAt (rest := []) rfl rfl (by decide) (by decide) (Nat.le_of_ble_eq_true rfl) (Nat.le_refl 0) (Nat.le_refl 0) dL_sound_146 fun G4 hW5 => ?_
      show J X 17 G4 sz 0 0 149 [some (.ref (B.1 + 0)), some (.int l1), some (.int l2), some (.int l3), some (.int l4), some (.int l5), some (.int l6), some (.int l7), some (.int l8), some (.int l9), some (.int l10), some (.int l11), some (.int l12), none, none, none, none] [.int r2.1]
      refine J_is hx (by decide) (hc_of rfl) rfl dL_sound_149 ?_
      refine J_al4 hx rfl rfl dL_sound_151 ?_
      refine J_il hx rfl dL_sound_152 ?_
      refine J_bipush hx (6 : Int32) dL_sound_154 rfl ?_
      obtain ⟨r6, hr7, h⟩ := bnd h
      refine J_rdL hx (kP_work hC hW5 (okS_e hr7)) ml_L_115 cw_work st_work ini_L hy_work (rest := []) rfl rfl (by decide) (by decide) (Nat.le_of_ble_eq_true rfl) (Nat.le_refl 0) (Nat.le_refl 0) dL_sound_156 ?_
      refine J_il hx rfl dL_sound_159 ?_
      refine J_icmp_ne hx 236 dL_sound_161 rfl (fun h8 => ?_) (fun h8 => ?_)
      · replace h := neg h h8
        refine J_iconst hx (0 : Int32) dL_sound_236 rfl ?_
        obtain rfl := Option.some.inj h
        exact J_zretW (b := false) hx hr hW5 dL_sound_237 (Nat.le_refl 0) (Nat.le_refl 0)
      · replace h := pos h h8
        refine J_al4 hx rfl rfl dL_sound_164 ?_
        refine J_il hx rfl dL_sound_165 ?_
        refine J_iconst hx (2 : Int32) dL_sound_167 rfl ?_
        obtain ⟨r9, hr10, h⟩ := bnd h
        refine J_rdL hx (kP_work hC hW5 (okS_e hr10)) ml_L_115 cw_work st_work ini_L hy_work (rest := []) rfl rfl (by decide) (by decide) (Nat.le_of_ble_eq_true rfl) (Nat.le_refl 0) (Nat.le_refl 0) dL_sound_168 ?_
        refine J_if_lt hx 236 dL_sound_171 rfl (fun h11 => ?_) (fun h11 => ?_)
        · replace h := pos h h11
          refine J_iconst hx (0 : Int32) dL_sound_236 rfl ?_
          obtain rfl := Option.some.inj h
          exact J_zretW (b := false) hx hr hW5 dL_sound_237 (Nat.le_refl 0) (Nat.le_refl 0)
        · replace h := neg h h11
          refine J_il hx rfl dL_sound_174 ?_
          refine J_if_lt hx 191 dL_sound_176 rfl (fun h12 => ?_) (fun h12 => ?_)
          · replace h := pos h h12
            refine J_lw (ls' := [some (.ref (B.1 + 0)), some (.int l1), some (.int l2), some (.int l3), some (.int l4), some (.int l5), some (.int l6), some (.int l7), some (.int l8), some (.int l9), none, some (.int l11), none, some (.int r2.1), none, none, none]) (lwS (lwS (lwS (lwS (lwS (lwS (lwS (lwS (lwS (lwS (lwN (lwS (lwN (lwS (lwN (lwN (lwN lwZ))))))))))))))))) ?_
            exact tL_sound_191 hx hC htr hr _ hk26 _ _ _ _ _ _ _ _ _ _ _ _  hW5 h
          · replace h := neg h h12
            refine J_il hx rfl dL_sound_179 ?_
            refine J_al4 hx rfl rfl dL_sound_181 ?_
            refine J_il hx rfl dL_sound_182 ?_
            refine J_iconst hx (3 : Int32) dL_sound_184 rfl ?_
            obtain ⟨r13, hr14, h⟩ := bnd h
            refine J_rdL hx (kP_crate hC hW5 (okS_e hr14)) ml_L_118 cw_crate st_crate ini_L hy_crate (rest := [.int l9]) rfl rfl (by decide) (by decide) (Nat.le_of_ble_eq_true rfl) (Nat.le_refl 0) (Nat.le_refl 0) dL_sound_185 ?_
            refine J_icmp_ne hx 236 dL_sound_188 rfl (fun h15 => ?_) (fun h15 => ?_)
            · replace h := neg h h15
              refine J_iconst hx (0 : Int32) dL_sound_236 rfl ?_
              obtain rfl := Option.some.inj h
              exact J_zretW (b := false) hx hr hW5 dL_sound_237 (Nat.le_refl 0) (Nat.le_refl 0)
            · replace h := pos h h15
              refine J_lw (ls' := [some (.ref (B.1 + 0)), some (.int l1), some (.int l2), some (.int l3), some (.int l4), some (.int l5), some (.int l6), some (.int l7), some (.int l8), some (.int l9), none, some (.int l11), none, some (.int r2.1), none, none, none]) (lwS (lwS (lwS (lwS (lwS (lwS (lwS (lwS (lwS (lwS (lwN (lwS (lwN (lwS (lwN (lwN (lwN lwZ))))))))))))))))) ?_
              exact tL_sound_191 hx hC htr hr _ hk26 _ _ _ _ _ _ _ _ _ _ _ _  hW5 h
    · replace h := neg h h1
      refine J_iinc hx (v' := (l10 + 1)) rfl rfl (by decide) (hc_of rfl) rfl dL_sound_106 ?_
      refine J_il hx rfl dL_sound_109 ?_
      refine J_if_ne hx 124 dL_sound_111 rfl (fun h16 => ?_) (fun h16 => ?_)
      · replace h := neg h h16
        refine J_iconst hx (1 : Int32) dL_sound_124 rfl ?_
        refine J_goto hx 129 dL_sound_125 rfl ?_
        refine J_lw (ls' := [some (.ref (B.1 + 0)), some (.int l1), some (.int l2), some (.int l3), some (.int l4), some (.int l5), some (.int l6), some (.int l7), some (.int l8), some (.int l9), some (.int (l10 + 1)), none, some (.int l12), none, none, none, none]) (lwS (lwS (lwS (lwS (lwS (lwS (lwS (lwS (lwS (lwS (lwS (lwN (lwS (lwN (lwN (lwN (lwN lwZ))))))))))))))))) ?_
        exact tL_sound_129 hx hC htr hr _ hk26 _ ih _ _ _ _ _ _ _ _ _ _ _ _ _  hW h
      · replace h := pos h h16
        refine J_al4 hx rfl rfl dL_sound_114 ?_
        refine J_il hx rfl dL_sound_115 ?_
        refine J_iconst hx (1 : Int32) dL_sound_117 rfl ?_
        obtain ⟨r17, hr18, h⟩ := bnd h
        refine J_rdL hx (kP_crate hC hW (okS_e hr18)) ml_L_118 cw_crate st_crate ini_L hy_crate (rest := []) rfl rfl (by decide) (by decide) (Nat.le_of_ble_eq_true rfl) (Nat.le_refl 0) (Nat.le_refl 0) dL_sound_118 ?_
        refine J_if_ne hx 128 dL_sound_121 rfl (fun h19 => ?_) (fun h19 => ?_)
        · replace h := neg h h19
          refine J_iconst hx (0 : Int32) dL_sound_128 rfl ?_
          refine J_lw (ls' := [some (.ref (B.1 + 0)), some (.int l1), some (.int l2), some (.int l3), some (.int l4), some (.int l5), some (.int l6), some (.int l7), some (.int l8), some (.int l9), some (.int (l10 + 1)), none, some (.int l12), none, none, none, none]) (lwS (lwS (lwS (lwS (lwS (lwS (lwS (lwS (lwS (lwS (lwS (lwN (lwS (lwN (lwN (lwN (lwN lwZ))))))))))))))))) ?_
          exact tL_sound_129 hx hC htr hr _ hk26 _ ih _ _ _ _ _ _ _ _ _ _ _ _ _  hW h
        · replace h := pos h h19
          refine J_iconst hx (1 : Int32) dL_sound_124 rfl ?_
          refine J_goto hx 129 dL_sound_125 rfl ?_
          refine J_lw (ls' := [some (.ref (B.1 + 0)), some (.int l1), some (.int l2), some (.int l3), some (.int l4), some (.int l5), some (.int l6), some (.int l7), some (.int l8), some (.int l9), some (.int (l10 + 1)), none, some (.int l12), none, none, none, none]) (lwS (lwS (lwS (lwS (lwS (lwS (lwS (lwS (lwS (lwS (lwS (lwN (lwS (lwN (lwN (lwN (lwN lwZ))))))))))))))))) ?_
          exact tL_sound_129 hx hC htr hr _ hk26 _ ih _ _ _ _ _ _ _ _ _ _ _ _ _  hW h
def sL_sound_63 (k26 : Wl → Int32 → Int32 → Int32 → Int32 → Int32 → Int32 → Int32 → Option (Bool × Wl)) (w : Wl) (l1 : Int32) (l2 : Int32) (l3 : Int32) (l5 : Int32) (l6 : Int32) (l7 : Int32) (l8 : Int32) (l9 : Int32) (s0 : Int32) (s1 : Int32) : Option (Bool × Wl) := (sO_work w l7 (7 : Int32)).bind (fun r1 => (sO_work w l7 (1 : Int32)).bind (fun r3 => sL_sound_101 k26 FU w l1 l2 l3 (s0 + s1) (l5 + r1) (l6 + r3) l7 l8 l9 (0 : Int32) (0 : Int32) l8))
theorem tL_sound_63 {X : Cx} {B : Bs} {sz : Nat} {r : (Bool × Wl)} (hx : Fx X cL_sound 17 RL 9 0 0) (hC : GC (xΓ X) B) (htr : (xl X).stackTraces = false) (hr : Rt X (some .boolean) 0 0 (WΨ (xΓ X) B (some (.int (bI r.1))) r.2 sz)) (k26 : Wl → Int32 → Int32 → Int32 → Int32 → Int32 → Int32 → Int32 → Option (Bool × Wl)) (hk26 : ∀ (w : Wl) (l1 : Int32) (l2 : Int32) (l3 : Int32) (l4 : Int32) (l5 : Int32) (l6 : Int32) (l7 : Int32) {G : Gf} (hW : Wd (xΓ X) B w G) (h : k26 w l1 l2 l3 l4 l5 l6 l7 = some r), J X 17 G sz 0 0 26 [some (.ref (B.1 + 0)), some (.int l1), some (.int l2), some (.int l3), some (.int l4), some (.int l5), some (.int l6), some (.int l7), none, none, none, none, none, none, none, none, none] []) : ∀ (w : Wl) (l1 : Int32) (l2 : Int32) (l3 : Int32) (l5 : Int32) (l6 : Int32) (l7 : Int32) (l8 : Int32) (l9 : Int32) (s0 : Int32) (s1 : Int32) {G : Gf} (hW : Wd (xΓ X) B w G) (h : sL_sound_63 k26  w l1 l2 l3 l5 l6 l7 l8 l9 s0 s1 = some r), J X 17 G sz 0 0 63 [some (.ref (B.1 + 0)), some (.int l1), some (.int l2), some (.int l3), none, some (.int l5), some (.int l6), some (.int l7), some (.int l8), some (.int l9), none, none, none, none, none, none, none] [.int s1, .int s0] := by
  intro w l1 l2 l3 l5 l6 l7 l8 l9 s0 s1 G hW h
  unfold sL_sound_63 at h
  refine J_iadd hx dL_sound_63 ?_
  refine J_is hx (by decide) (hc_of rfl) rfl dL_sound_64 ?_
  refine J_il hx rfl dL_sound_66 ?_
  refine J_al4 hx rfl rfl dL_sound_68 ?_
  refine J_il hx rfl dL_sound_69 ?_
  refine J_bipush hx (7 : Int32) dL_sound_71 rfl ?_
  obtain ⟨r1, hr2, h⟩ := bnd h
  refine J_rdL hx (kP_work hC hW (okS_e hr2)) ml_L_115 cw_work st_work ini_L hy_work (rest := [.int l5]) rfl rfl (by decide) (by decide) (Nat.le_of_ble_eq_true rfl) (Nat.le_refl 0) (Nat.le_refl 0) dL_sound_73 ?_
  refine J_iadd hx dL_sound_76 ?_
  refine J_is hx (by decide) (hc_of rfl) rfl dL_sound_77 ?_
  refine J_il hx rfl dL_sound_79 ?_
  refine J_al4 hx rfl rfl dL_sound_81 ?_
  refine J_il hx rfl dL_sound_82 ?_
  refine J_iconst hx (1 : Int32) dL_sound_84 rfl ?_
  obtain ⟨r3, hr4, h⟩ := bnd h
  refine J_rdL hx (kP_work hC hW (okS_e hr4)) ml_L_115 cw_work st_work ini_L hy_work (rest := [.int l6]) rfl rfl (by decide) (by decide) (Nat.le_of_ble_eq_true rfl) (Nat.le_refl 0) (Nat.le_refl 0) dL_sound_85 ?_
  refine J_iadd hx dL_sound_88 ?_
  refine J_is hx (by decide) (hc_of rfl) rfl dL_sound_89 ?_
  refine J_iconst hx (0 : Int32) dL_sound_91 rfl ?_
  refine J_is hx (by decide) (hc_of rfl) rfl dL_sound_92 ?_
  refine J_iconst hx (0 : Int32) dL_sound_94 rfl ?_
  refine J_is hx (by decide) (hc_of rfl) rfl dL_sound_95 ?_
  refine J_il hx rfl dL_sound_97 ?_
  refine J_is hx (by decide) (hc_of rfl) rfl dL_sound_99 ?_
  exact tL_sound_101 hx hC htr hr _ hk26 _ _ _ _ _ _ _ _ _ _ _ _ _ _  hW h
def sL_sound_26 : Nat → Wl → Int32 → Int32 → Int32 → Int32 → Int32 → Int32 → Int32 → Option (Bool × Wl)
  | 0, _, _, _, _, _, _, _, _ => none
  | n + 1, w, l1, l2, l3, l4, l5, l6, l7 => (if l2 ≤ l7 then sL_sound_247 FU w l1 l2 l3 l4 l5 l6 (0 : Int32) else (sO_work w l7 (4 : Int32)).bind (fun r2 => (sO_work w l7 (5 : Int32)).bind (fun r4 => (if r4 = (-1 : Int32) then sL_sound_63 (fun w l1 l2 l3 l4 l5 l6 l7 => sL_sound_26 n w l1 l2 l3 l4 l5 l6 l7) w l1 l2 l3 l5 l6 l7 r2 r4 l4 (1 : Int32) else sL_sound_63 (fun w l1 l2 l3 l4 l5 l6 l7 => sL_sound_26 n w l1 l2 l3 l4 l5 l6 l7) w l1 l2 l3 l5 l6 l7 r2 r4 l4 (0 : Int32)))))
theorem tL_sound_26 {X : Cx} {B : Bs} {sz : Nat} {r : (Bool × Wl)} (hx : Fx X cL_sound 17 RL 9 0 0) (hC : GC (xΓ X) B) (htr : (xl X).stackTraces = false) (hr : Rt X (some .boolean) 0 0 (WΨ (xΓ X) B (some (.int (bI r.1))) r.2 sz)) : ∀ (n : Nat), ∀ (w : Wl) (l1 : Int32) (l2 : Int32) (l3 : Int32) (l4 : Int32) (l5 : Int32) (l6 : Int32) (l7 : Int32) {G : Gf} (hW : Wd (xΓ X) B w G) (h : sL_sound_26 n w l1 l2 l3 l4 l5 l6 l7 = some r), J X 17 G sz 0 0 26 [some (.ref (B.1 + 0)), some (.int l1), some (.int l2), some (.int l3), some (.int l4), some (.int l5), some (.int l6), some (.int l7), none, none, none, none, none, none, none, none, none] [] := by
  intro n
  induction n with
  | zero => intro w l1 l2 l3 l4 l5 l6 l7 G hW h; rw [sL_sound_26.eq_1] at h; cases h
  | succ n ih =>
    intro w l1 l2 l3 l4 l5 l6 l7 G hW h
    rw [sL_sound_26.eq_2] at h
    refine J_il hx rfl dL_sound_26 ?_
    refine J_il4 hx rfl rfl dL_sound_28 ?_
    refine J_icmp_ge hx 244 dL_sound_29 rfl (fun h1 => ?_) (fun h1 => ?_)
    · replace h := pos h h1
      refine J_iconst hx (0 : Int32) dL_sound_244 rfl ?_
      refine J_is hx (by decide) (hc_of rfl) rfl dL_sound_245 ?_
      exact tL_sound_247 hx hC htr hr _ _ _ _ _ _ _ _ _  hW h
    · replace h := neg h h1
      refine J_al4 hx rfl rfl dL_sound_32 ?_
      refine J_il hx rfl dL_sound_33 ?_
      refine J_iconst hx (4 : Int32) dL_sound_35 rfl ?_
      obtain ⟨r2, hr3, h⟩ := bnd h
      refine J_rdL hx (kP_work hC hW (okS_e hr3)) ml_L_115 cw_work st_work ini_L hy_work (rest := []) rfl rfl (by decide) (by decide) (Nat.le_of_ble_eq_true rfl) (Nat.le_refl 0) (Nat.le_refl 0) dL_sound_36 ?_
      refine J_is hx (by decide) (hc_of rfl) rfl dL_sound_39 ?_
      refine J_al4 hx rfl rfl dL_sound_41 ?_
      refine J_il hx rfl dL_sound_42 ?_
      refine J_iconst hx (5 : Int32) dL_sound_44 rfl ?_
      obtain ⟨r4, hr5, h⟩ := bnd h
      refine J_rdL hx (kP_work hC hW (okS_e hr5)) ml_L_115 cw_work st_work ini_L hy_work (rest := []) rfl rfl (by decide) (by decide) (Nat.le_of_ble_eq_true rfl) (Nat.le_refl 0) (Nat.le_refl 0) dL_sound_45 ?_
      refine J_is hx (by decide) (hc_of rfl) rfl dL_sound_48 ?_
      refine J_il hx rfl dL_sound_50 ?_
      refine J_il hx rfl dL_sound_52 ?_
      refine J_iconst hx (-1 : Int32) dL_sound_54 rfl ?_
      refine J_icmp_ne hx 62 dL_sound_55 rfl (fun h6 => ?_) (fun h6 => ?_)
      · replace h := neg h h6
        refine J_iconst hx (0 : Int32) dL_sound_62 rfl ?_
        refine J_lw (ls' := [some (.ref (B.1 + 0)), some (.int l1), some (.int l2), some (.int l3), none, some (.int l5), some (.int l6), some (.int l7), some (.int r2), some (.int r4), none, none, none, none, none, none, none]) (lwS (lwS (lwS (lwS (lwN (lwS (lwS (lwS (lwS (lwS (lwN (lwN (lwN (lwN (lwN (lwN (lwN lwZ))))))))))))))))) ?_
        exact tL_sound_63 hx hC htr hr _ ih _ _ _ _ _ _ _ _ _ _ _  hW h
      · replace h := pos h h6
        refine J_iconst hx (1 : Int32) dL_sound_58 rfl ?_
        refine J_goto hx 63 dL_sound_59 rfl ?_
        refine J_lw (ls' := [some (.ref (B.1 + 0)), some (.int l1), some (.int l2), some (.int l3), none, some (.int l5), some (.int l6), some (.int l7), some (.int r2), some (.int r4), none, none, none, none, none, none, none]) (lwS (lwS (lwS (lwS (lwN (lwS (lwS (lwS (lwS (lwS (lwN (lwN (lwN (lwN (lwN (lwN (lwN lwZ))))))))))))))))) ?_
        exact tL_sound_63 hx hC htr hr _ ih _ _ _ _ _ _ _ _ _ _ _  hW h
def sL_sound (w : Wl) : Option (Bool × Wl) := (sO_whole w (2 : Int32)).bind (fun r1 => (sO_whole w (3 : Int32)).bind (fun r3 => sL_sound_26 FU w r1 r3 (0 : Int32) (0 : Int32) (0 : Int32) (0 : Int32) (0 : Int32)))
theorem kL_sound {l : Launch} {Γ : Gl} {B : Bs} {w : Wl} {G : Gf} {sz : Nat} {r : (Bool × Wl)} (hC : GC Γ B) (htr : l.stackTraces = false) (hW : Wd Γ B w G) (h : sL_sound w  = some r) : CtW l Γ yL_sound cL_sound 17 (some .boolean) 9 [.ref (B.1 + 0)] G sz B (some (.int (bI r.1))) r.2 := by
  refine Ct.of rfl (Nat.le_of_ble_eq_true rfl) fun X hx hr hl hΓ hnm => ?_
  subst hl hΓ
  show J X 17 G sz 0 0 0 [some (.ref (B.1 + 0)), none, none, none, none, none, none, none, none, none, none, none, none, none, none, none, none] []
  unfold sL_sound at h
  refine J_al4 hx rfl rfl dL_sound_0 ?_
  refine J_iconst hx (2 : Int32) dL_sound_1 rfl ?_
  obtain ⟨r1, hr2, h⟩ := bnd h
  refine J_rdL hx (kP_whole hC hW (okS_e hr2)) ml_L_110 cw_whole st_whole ini_L hy_whole (rest := []) rfl rfl (by decide) (by decide) (Nat.le_of_ble_eq_true rfl) (Nat.le_refl 0) (Nat.le_refl 0) dL_sound_2 ?_
  refine J_is4 hx rfl (by decide) (hc_of rfl) rfl dL_sound_5 ?_
  refine J_al4 hx rfl rfl dL_sound_6 ?_
  refine J_iconst hx (3 : Int32) dL_sound_7 rfl ?_
  obtain ⟨r3, hr4, h⟩ := bnd h
  refine J_rdL hx (kP_whole hC hW (okS_e hr4)) ml_L_110 cw_whole st_whole ini_L hy_whole (rest := []) rfl rfl (by decide) (by decide) (Nat.le_of_ble_eq_true rfl) (Nat.le_refl 0) (Nat.le_refl 0) dL_sound_8 ?_
  refine J_is4 hx rfl (by decide) (hc_of rfl) rfl dL_sound_11 ?_
  refine J_iconst hx (0 : Int32) dL_sound_12 rfl ?_
  refine J_is4 hx rfl (by decide) (hc_of rfl) rfl dL_sound_13 ?_
  refine J_iconst hx (0 : Int32) dL_sound_14 rfl ?_
  refine J_is hx (by decide) (hc_of rfl) rfl dL_sound_15 ?_
  refine J_iconst hx (0 : Int32) dL_sound_17 rfl ?_
  refine J_is hx (by decide) (hc_of rfl) rfl dL_sound_18 ?_
  refine J_iconst hx (0 : Int32) dL_sound_20 rfl ?_
  refine J_is hx (by decide) (hc_of rfl) rfl dL_sound_21 ?_
  refine J_iconst hx (0 : Int32) dL_sound_23 rfl ?_
  refine J_is hx (by decide) (hc_of rfl) rfl dL_sound_24 ?_
  exact tL_sound_26 hx hC htr hr _ _ _ _ _ _ _ _ _  hW h
