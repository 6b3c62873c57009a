/-! THE LAW: its steps. Written by wip/whole/gen_cases.py -/
theorem dL_law_0 : decode cL_law 0 = .ok (.new 8, 3) := by decide +kernel
theorem dL_law_3 : decode cL_law 3 = .ok (.dup, 1) := by decide +kernel
theorem dL_law_4 : decode cL_law 4 = .ok (.invokespecial 105, 3) := by decide +kernel
theorem dL_law_7 : decode cL_law 7 = .ok (.astore_n 1, 1) := by decide +kernel
theorem dL_law_8 : decode cL_law 8 = .ok (.new 106, 3) := by decide +kernel
theorem dL_law_11 : decode cL_law 11 = .ok (.dup, 1) := by decide +kernel
theorem dL_law_12 : decode cL_law 12 = .ok (.invokespecial 108, 3) := by decide +kernel
theorem dL_law_15 : decode cL_law 15 = .ok (.astore_n 2, 1) := by decide +kernel
theorem dL_law_16 : decode cL_law 16 = .ok (.iconst 1, 1) := by decide +kernel
theorem dL_law_17 : decode cL_law 17 = .ok (.newarray .long, 2) := by decide +kernel
theorem dL_law_19 : decode cL_law 19 = .ok (.astore_n 3, 1) := by decide +kernel
theorem dL_law_20 : decode cL_law 20 = .ok (.iconst 0, 1) := by decide +kernel
theorem dL_law_21 : decode cL_law 21 = .ok (.istore 4, 2) := by decide +kernel
theorem dL_law_23 : decode cL_law 23 = .ok (.iload 4, 2) := by decide +kernel
theorem dL_law_25 : decode cL_law 25 = .ok (.aload_n 0, 1) := by decide +kernel
theorem dL_law_26 : decode cL_law 26 = .ok (.arraylength, 1) := by decide +kernel
theorem dL_law_27 : decode cL_law 27 = .ok (.bipush 6, 2) := by decide +kernel
theorem dL_law_29 : decode cL_law 29 = .ok (.isub, 1) := by decide +kernel
theorem dL_law_30 : decode cL_law 30 = .ok (.if_icmp .gt 2068, 3) := by decide +kernel
theorem dL_law_33 : decode cL_law 33 = .ok (.aload_n 0, 1) := by decide +kernel
theorem dL_law_34 : decode cL_law 34 = .ok (.iload 4, 2) := by decide +kernel
theorem dL_law_36 : decode cL_law 36 = .ok (.iaload, 1) := by decide +kernel
theorem dL_law_37 : decode cL_law 37 = .ok (.bipush 31, 2) := by decide +kernel
theorem dL_law_39 : decode cL_law 39 = .ok (.iand, 1) := by decide +kernel
theorem dL_law_40 : decode cL_law 40 = .ok (.tableswitch 2052 0 30 #[140, 232, 312, 392, 472, 528, 584, 652, 772, 828, 884, 952, 1008, 1076, 1132, 1212, 1268, 1348, 1416, 1484, 1552, 1620, 1676, 1732, 1788, 1844, 1912, 1968, 1981, 1994, 2038], 140) := by decide +kernel
theorem dL_law_180 : decode cL_law 180 = .ok (.aload_n 1, 1) := by decide +kernel
theorem dL_law_181 : decode cL_law 181 = .ok (.aload_n 0, 1) := by decide +kernel
theorem dL_law_182 : decode cL_law 182 = .ok (.iload 4, 2) := by decide +kernel
theorem dL_law_184 : decode cL_law 184 = .ok (.iconst 1, 1) := by decide +kernel
theorem dL_law_185 : decode cL_law 185 = .ok (.iadd, 1) := by decide +kernel
theorem dL_law_186 : decode cL_law 186 = .ok (.iaload, 1) := by decide +kernel
theorem dL_law_187 : decode cL_law 187 = .ok (.aload_n 0, 1) := by decide +kernel
theorem dL_law_188 : decode cL_law 188 = .ok (.iload 4, 2) := by decide +kernel
theorem dL_law_190 : decode cL_law 190 = .ok (.iconst 2, 1) := by decide +kernel
theorem dL_law_191 : decode cL_law 191 = .ok (.iadd, 1) := by decide +kernel
theorem dL_law_192 : decode cL_law 192 = .ok (.iaload, 1) := by decide +kernel
theorem dL_law_193 : decode cL_law 193 = .ok (.aload_n 0, 1) := by decide +kernel
theorem dL_law_194 : decode cL_law 194 = .ok (.iload 4, 2) := by decide +kernel
theorem dL_law_196 : decode cL_law 196 = .ok (.iconst 3, 1) := by decide +kernel
theorem dL_law_197 : decode cL_law 197 = .ok (.iadd, 1) := by decide +kernel
theorem dL_law_198 : decode cL_law 198 = .ok (.iaload, 1) := by decide +kernel
theorem dL_law_199 : decode cL_law 199 = .ok (.aload_n 0, 1) := by decide +kernel
theorem dL_law_200 : decode cL_law 200 = .ok (.iload 4, 2) := by decide +kernel
theorem dL_law_202 : decode cL_law 202 = .ok (.iconst 4, 1) := by decide +kernel
theorem dL_law_203 : decode cL_law 203 = .ok (.iadd, 1) := by decide +kernel
theorem dL_law_204 : decode cL_law 204 = .ok (.iaload, 1) := by decide +kernel
theorem dL_law_205 : decode cL_law 205 = .ok (.aload_n 3, 1) := by decide +kernel
theorem dL_law_206 : decode cL_law 206 = .ok (.invokestatic 109, 3) := by decide +kernel
theorem dL_law_209 : decode cL_law 209 = .ok (.istore 5, 2) := by decide +kernel
theorem dL_law_211 : decode cL_law 211 = .ok (.aload_n 2, 1) := by decide +kernel
theorem dL_law_212 : decode cL_law 212 = .ok (.aload_n 0, 1) := by decide +kernel
theorem dL_law_213 : decode cL_law 213 = .ok (.iload 4, 2) := by decide +kernel
theorem dL_law_215 : decode cL_law 215 = .ok (.iconst 1, 1) := by decide +kernel
theorem dL_law_216 : decode cL_law 216 = .ok (.iadd, 1) := by decide +kernel
theorem dL_law_217 : decode cL_law 217 = .ok (.iaload, 1) := by decide +kernel
theorem dL_law_218 : decode cL_law 218 = .ok (.aload_n 0, 1) := by decide +kernel
theorem dL_law_219 : decode cL_law 219 = .ok (.iload 4, 2) := by decide +kernel
theorem dL_law_221 : decode cL_law 221 = .ok (.iconst 2, 1) := by decide +kernel
theorem dL_law_222 : decode cL_law 222 = .ok (.iadd, 1) := by decide +kernel
theorem dL_law_223 : decode cL_law 223 = .ok (.iaload, 1) := by decide +kernel
theorem dL_law_224 : decode cL_law 224 = .ok (.aload_n 0, 1) := by decide +kernel
theorem dL_law_225 : decode cL_law 225 = .ok (.iload 4, 2) := by decide +kernel
theorem dL_law_227 : decode cL_law 227 = .ok (.iconst 3, 1) := by decide +kernel
theorem dL_law_228 : decode cL_law 228 = .ok (.iadd, 1) := by decide +kernel
theorem dL_law_229 : decode cL_law 229 = .ok (.iaload, 1) := by decide +kernel
theorem dL_law_230 : decode cL_law 230 = .ok (.aload_n 0, 1) := by decide +kernel
theorem dL_law_231 : decode cL_law 231 = .ok (.iload 4, 2) := by decide +kernel
theorem dL_law_233 : decode cL_law 233 = .ok (.iconst 4, 1) := by decide +kernel
theorem dL_law_234 : decode cL_law 234 = .ok (.iadd, 1) := by decide +kernel
theorem dL_law_235 : decode cL_law 235 = .ok (.iaload, 1) := by decide +kernel
theorem dL_law_236 : decode cL_law 236 = .ok (.invokevirtual 114, 3) := by decide +kernel
theorem dL_law_239 : decode cL_law 239 = .ok (.istore 6, 2) := by decide +kernel
theorem dL_law_241 : decode cL_law 241 = .ok (.aload_n 2, 1) := by decide +kernel
theorem dL_law_242 : decode cL_law 242 = .ok (.invokevirtual 115, 3) := by decide +kernel
theorem dL_law_245 : decode cL_law 245 = .ok (.iload 5, 2) := by decide +kernel
theorem dL_law_247 : decode cL_law 247 = .ok (.if_icmp .eq 5, 3) := by decide +kernel
theorem dL_law_250 : decode cL_law 250 = .ok (.iconst 0, 1) := by decide +kernel
theorem dL_law_251 : decode cL_law 251 = .ok (.ireturn, 1) := by decide +kernel
theorem dL_law_252 : decode cL_law 252 = .ok (.iload 5, 2) := by decide +kernel
theorem dL_law_254 : decode cL_law 254 = .ok (.ifCond .ne 15, 3) := by decide +kernel
theorem dL_law_257 : decode cL_law 257 = .ok (.aload_n 3, 1) := by decide +kernel
theorem dL_law_258 : decode cL_law 258 = .ok (.iconst 0, 1) := by decide +kernel
theorem dL_law_259 : decode cL_law 259 = .ok (.laload, 1) := by decide +kernel
theorem dL_law_260 : decode cL_law 260 = .ok (.iload 6, 2) := by decide +kernel
theorem dL_law_262 : decode cL_law 262 = .ok (.i2l, 1) := by decide +kernel
theorem dL_law_263 : decode cL_law 263 = .ok (.lcmp, 1) := by decide +kernel
theorem dL_law_264 : decode cL_law 264 = .ok (.ifCond .eq 5, 3) := by decide +kernel
theorem dL_law_267 : decode cL_law 267 = .ok (.iconst 0, 1) := by decide +kernel
theorem dL_law_268 : decode cL_law 268 = .ok (.ireturn, 1) := by decide +kernel
theorem dL_law_269 : decode cL_law 269 = .ok (.goto 1823, 3) := by decide +kernel
theorem dL_law_272 : decode cL_law 272 = .ok (.aload_n 1, 1) := by decide +kernel
theorem dL_law_273 : decode cL_law 273 = .ok (.aload_n 0, 1) := by decide +kernel
theorem dL_law_274 : decode cL_law 274 = .ok (.iload 4, 2) := by decide +kernel
theorem dL_law_276 : decode cL_law 276 = .ok (.iconst 1, 1) := by decide +kernel
theorem dL_law_277 : decode cL_law 277 = .ok (.iadd, 1) := by decide +kernel
theorem dL_law_278 : decode cL_law 278 = .ok (.iaload, 1) := by decide +kernel
theorem dL_law_279 : decode cL_law 279 = .ok (.aload_n 0, 1) := by decide +kernel
theorem dL_law_280 : decode cL_law 280 = .ok (.iload 4, 2) := by decide +kernel
theorem dL_law_282 : decode cL_law 282 = .ok (.iconst 2, 1) := by decide +kernel
theorem dL_law_283 : decode cL_law 283 = .ok (.iadd, 1) := by decide +kernel
theorem dL_law_284 : decode cL_law 284 = .ok (.iaload, 1) := by decide +kernel
theorem dL_law_285 : decode cL_law 285 = .ok (.aload_n 0, 1) := by decide +kernel
theorem dL_law_286 : decode cL_law 286 = .ok (.iload 4, 2) := by decide +kernel
theorem dL_law_288 : decode cL_law 288 = .ok (.iconst 3, 1) := by decide +kernel
theorem dL_law_289 : decode cL_law 289 = .ok (.iadd, 1) := by decide +kernel
theorem dL_law_290 : decode cL_law 290 = .ok (.iaload, 1) := by decide +kernel
theorem dL_law_291 : decode cL_law 291 = .ok (.aload_n 3, 1) := by decide +kernel
theorem dL_law_292 : decode cL_law 292 = .ok (.invokestatic 118, 3) := by decide +kernel
theorem dL_law_295 : decode cL_law 295 = .ok (.istore 5, 2) := by decide +kernel
theorem dL_law_297 : decode cL_law 297 = .ok (.aload_n 2, 1) := by decide +kernel
theorem dL_law_298 : decode cL_law 298 = .ok (.aload_n 0, 1) := by decide +kernel
theorem dL_law_299 : decode cL_law 299 = .ok (.iload 4, 2) := by decide +kernel
theorem dL_law_301 : decode cL_law 301 = .ok (.iconst 1, 1) := by decide +kernel
theorem dL_law_302 : decode cL_law 302 = .ok (.iadd, 1) := by decide +kernel
theorem dL_law_303 : decode cL_law 303 = .ok (.iaload, 1) := by decide +kernel
theorem dL_law_304 : decode cL_law 304 = .ok (.aload_n 0, 1) := by decide +kernel
theorem dL_law_305 : decode cL_law 305 = .ok (.iload 4, 2) := by decide +kernel
theorem dL_law_307 : decode cL_law 307 = .ok (.iconst 2, 1) := by decide +kernel
theorem dL_law_308 : decode cL_law 308 = .ok (.iadd, 1) := by decide +kernel
theorem dL_law_309 : decode cL_law 309 = .ok (.iaload, 1) := by decide +kernel
theorem dL_law_310 : decode cL_law 310 = .ok (.aload_n 0, 1) := by decide +kernel
theorem dL_law_311 : decode cL_law 311 = .ok (.iload 4, 2) := by decide +kernel
theorem dL_law_313 : decode cL_law 313 = .ok (.iconst 3, 1) := by decide +kernel
theorem dL_law_314 : decode cL_law 314 = .ok (.iadd, 1) := by decide +kernel
theorem dL_law_315 : decode cL_law 315 = .ok (.iaload, 1) := by decide +kernel
theorem dL_law_316 : decode cL_law 316 = .ok (.invokevirtual 121, 3) := by decide +kernel
theorem dL_law_319 : decode cL_law 319 = .ok (.istore 6, 2) := by decide +kernel
theorem dL_law_321 : decode cL_law 321 = .ok (.aload_n 2, 1) := by decide +kernel
theorem dL_law_322 : decode cL_law 322 = .ok (.invokevirtual 115, 3) := by decide +kernel
theorem dL_law_325 : decode cL_law 325 = .ok (.iload 5, 2) := by decide +kernel
theorem dL_law_327 : decode cL_law 327 = .ok (.if_icmp .eq 5, 3) := by decide +kernel
theorem dL_law_330 : decode cL_law 330 = .ok (.iconst 0, 1) := by decide +kernel
theorem dL_law_331 : decode cL_law 331 = .ok (.ireturn, 1) := by decide +kernel
theorem dL_law_332 : decode cL_law 332 = .ok (.iload 5, 2) := by decide +kernel
theorem dL_law_334 : decode cL_law 334 = .ok (.ifCond .ne 15, 3) := by decide +kernel
theorem dL_law_337 : decode cL_law 337 = .ok (.aload_n 3, 1) := by decide +kernel
theorem dL_law_338 : decode cL_law 338 = .ok (.iconst 0, 1) := by decide +kernel
theorem dL_law_339 : decode cL_law 339 = .ok (.laload, 1) := by decide +kernel
theorem dL_law_340 : decode cL_law 340 = .ok (.iload 6, 2) := by decide +kernel
theorem dL_law_342 : decode cL_law 342 = .ok (.i2l, 1) := by decide +kernel
theorem dL_law_343 : decode cL_law 343 = .ok (.lcmp, 1) := by decide +kernel
theorem dL_law_344 : decode cL_law 344 = .ok (.ifCond .eq 5, 3) := by decide +kernel
theorem dL_law_347 : decode cL_law 347 = .ok (.iconst 0, 1) := by decide +kernel
theorem dL_law_348 : decode cL_law 348 = .ok (.ireturn, 1) := by decide +kernel
theorem dL_law_349 : decode cL_law 349 = .ok (.goto 1743, 3) := by decide +kernel
theorem dL_law_352 : decode cL_law 352 = .ok (.aload_n 1, 1) := by decide +kernel
theorem dL_law_353 : decode cL_law 353 = .ok (.aload_n 0, 1) := by decide +kernel
theorem dL_law_354 : decode cL_law 354 = .ok (.iload 4, 2) := by decide +kernel
theorem dL_law_356 : decode cL_law 356 = .ok (.iconst 1, 1) := by decide +kernel
theorem dL_law_357 : decode cL_law 357 = .ok (.iadd, 1) := by decide +kernel
theorem dL_law_358 : decode cL_law 358 = .ok (.iaload, 1) := by decide +kernel
theorem dL_law_359 : decode cL_law 359 = .ok (.aload_n 0, 1) := by decide +kernel
theorem dL_law_360 : decode cL_law 360 = .ok (.iload 4, 2) := by decide +kernel
theorem dL_law_362 : decode cL_law 362 = .ok (.iconst 2, 1) := by decide +kernel
theorem dL_law_363 : decode cL_law 363 = .ok (.iadd, 1) := by decide +kernel
theorem dL_law_364 : decode cL_law 364 = .ok (.iaload, 1) := by decide +kernel
theorem dL_law_365 : decode cL_law 365 = .ok (.aload_n 0, 1) := by decide +kernel
theorem dL_law_366 : decode cL_law 366 = .ok (.iload 4, 2) := by decide +kernel
theorem dL_law_368 : decode cL_law 368 = .ok (.iconst 3, 1) := by decide +kernel
theorem dL_law_369 : decode cL_law 369 = .ok (.iadd, 1) := by decide +kernel
theorem dL_law_370 : decode cL_law 370 = .ok (.iaload, 1) := by decide +kernel
theorem dL_law_371 : decode cL_law 371 = .ok (.aload_n 3, 1) := by decide +kernel
theorem dL_law_372 : decode cL_law 372 = .ok (.invokestatic 122, 3) := by decide +kernel
theorem dL_law_375 : decode cL_law 375 = .ok (.istore 5, 2) := by decide +kernel
theorem dL_law_377 : decode cL_law 377 = .ok (.aload_n 2, 1) := by decide +kernel
theorem dL_law_378 : decode cL_law 378 = .ok (.aload_n 0, 1) := by decide +kernel
theorem dL_law_379 : decode cL_law 379 = .ok (.iload 4, 2) := by decide +kernel
theorem dL_law_381 : decode cL_law 381 = .ok (.iconst 1, 1) := by decide +kernel
theorem dL_law_382 : decode cL_law 382 = .ok (.iadd, 1) := by decide +kernel
theorem dL_law_383 : decode cL_law 383 = .ok (.iaload, 1) := by decide +kernel
theorem dL_law_384 : decode cL_law 384 = .ok (.aload_n 0, 1) := by decide +kernel
theorem dL_law_385 : decode cL_law 385 = .ok (.iload 4, 2) := by decide +kernel
theorem dL_law_387 : decode cL_law 387 = .ok (.iconst 2, 1) := by decide +kernel
theorem dL_law_388 : decode cL_law 388 = .ok (.iadd, 1) := by decide +kernel
theorem dL_law_389 : decode cL_law 389 = .ok (.iaload, 1) := by decide +kernel
theorem dL_law_390 : decode cL_law 390 = .ok (.aload_n 0, 1) := by decide +kernel
theorem dL_law_391 : decode cL_law 391 = .ok (.iload 4, 2) := by decide +kernel
theorem dL_law_393 : decode cL_law 393 = .ok (.iconst 3, 1) := by decide +kernel
theorem dL_law_394 : decode cL_law 394 = .ok (.iadd, 1) := by decide +kernel
theorem dL_law_395 : decode cL_law 395 = .ok (.iaload, 1) := by decide +kernel
theorem dL_law_396 : decode cL_law 396 = .ok (.invokevirtual 124, 3) := by decide +kernel
theorem dL_law_399 : decode cL_law 399 = .ok (.istore 6, 2) := by decide +kernel
theorem dL_law_401 : decode cL_law 401 = .ok (.aload_n 2, 1) := by decide +kernel
theorem dL_law_402 : decode cL_law 402 = .ok (.invokevirtual 115, 3) := by decide +kernel
theorem dL_law_405 : decode cL_law 405 = .ok (.iload 5, 2) := by decide +kernel
theorem dL_law_407 : decode cL_law 407 = .ok (.if_icmp .eq 5, 3) := by decide +kernel
theorem dL_law_410 : decode cL_law 410 = .ok (.iconst 0, 1) := by decide +kernel
theorem dL_law_411 : decode cL_law 411 = .ok (.ireturn, 1) := by decide +kernel
theorem dL_law_412 : decode cL_law 412 = .ok (.iload 5, 2) := by decide +kernel
theorem dL_law_414 : decode cL_law 414 = .ok (.ifCond .ne 15, 3) := by decide +kernel
theorem dL_law_417 : decode cL_law 417 = .ok (.aload_n 3, 1) := by decide +kernel
theorem dL_law_418 : decode cL_law 418 = .ok (.iconst 0, 1) := by decide +kernel
theorem dL_law_419 : decode cL_law 419 = .ok (.laload, 1) := by decide +kernel
theorem dL_law_420 : decode cL_law 420 = .ok (.iload 6, 2) := by decide +kernel
theorem dL_law_422 : decode cL_law 422 = .ok (.i2l, 1) := by decide +kernel
theorem dL_law_423 : decode cL_law 423 = .ok (.lcmp, 1) := by decide +kernel
theorem dL_law_424 : decode cL_law 424 = .ok (.ifCond .eq 5, 3) := by decide +kernel
theorem dL_law_427 : decode cL_law 427 = .ok (.iconst 0, 1) := by decide +kernel
theorem dL_law_428 : decode cL_law 428 = .ok (.ireturn, 1) := by decide +kernel
theorem dL_law_429 : decode cL_law 429 = .ok (.goto 1663, 3) := by decide +kernel
theorem dL_law_432 : decode cL_law 432 = .ok (.aload_n 1, 1) := by decide +kernel
theorem dL_law_433 : decode cL_law 433 = .ok (.aload_n 0, 1) := by decide +kernel
theorem dL_law_434 : decode cL_law 434 = .ok (.iload 4, 2) := by decide +kernel
theorem dL_law_436 : decode cL_law 436 = .ok (.iconst 1, 1) := by decide +kernel
theorem dL_law_437 : decode cL_law 437 = .ok (.iadd, 1) := by decide +kernel
theorem dL_law_438 : decode cL_law 438 = .ok (.iaload, 1) := by decide +kernel
theorem dL_law_439 : decode cL_law 439 = .ok (.aload_n 0, 1) := by decide +kernel
theorem dL_law_440 : decode cL_law 440 = .ok (.iload 4, 2) := by decide +kernel
theorem dL_law_442 : decode cL_law 442 = .ok (.iconst 2, 1) := by decide +kernel
theorem dL_law_443 : decode cL_law 443 = .ok (.iadd, 1) := by decide +kernel
theorem dL_law_444 : decode cL_law 444 = .ok (.iaload, 1) := by decide +kernel
theorem dL_law_445 : decode cL_law 445 = .ok (.aload_n 0, 1) := by decide +kernel
theorem dL_law_446 : decode cL_law 446 = .ok (.iload 4, 2) := by decide +kernel
theorem dL_law_448 : decode cL_law 448 = .ok (.iconst 3, 1) := by decide +kernel
theorem dL_law_449 : decode cL_law 449 = .ok (.iadd, 1) := by decide +kernel
theorem dL_law_450 : decode cL_law 450 = .ok (.iaload, 1) := by decide +kernel
theorem dL_law_451 : decode cL_law 451 = .ok (.aload_n 3, 1) := by decide +kernel
theorem dL_law_452 : decode cL_law 452 = .ok (.invokestatic 125, 3) := by decide +kernel
theorem dL_law_455 : decode cL_law 455 = .ok (.istore 5, 2) := by decide +kernel
theorem dL_law_457 : decode cL_law 457 = .ok (.aload_n 2, 1) := by decide +kernel
theorem dL_law_458 : decode cL_law 458 = .ok (.aload_n 0, 1) := by decide +kernel
theorem dL_law_459 : decode cL_law 459 = .ok (.iload 4, 2) := by decide +kernel
theorem dL_law_461 : decode cL_law 461 = .ok (.iconst 1, 1) := by decide +kernel
theorem dL_law_462 : decode cL_law 462 = .ok (.iadd, 1) := by decide +kernel
theorem dL_law_463 : decode cL_law 463 = .ok (.iaload, 1) := by decide +kernel
theorem dL_law_464 : decode cL_law 464 = .ok (.aload_n 0, 1) := by decide +kernel
theorem dL_law_465 : decode cL_law 465 = .ok (.iload 4, 2) := by decide +kernel
theorem dL_law_467 : decode cL_law 467 = .ok (.iconst 2, 1) := by decide +kernel
theorem dL_law_468 : decode cL_law 468 = .ok (.iadd, 1) := by decide +kernel
theorem dL_law_469 : decode cL_law 469 = .ok (.iaload, 1) := by decide +kernel
theorem dL_law_470 : decode cL_law 470 = .ok (.aload_n 0, 1) := by decide +kernel
theorem dL_law_471 : decode cL_law 471 = .ok (.iload 4, 2) := by decide +kernel
theorem dL_law_473 : decode cL_law 473 = .ok (.iconst 3, 1) := by decide +kernel
theorem dL_law_474 : decode cL_law 474 = .ok (.iadd, 1) := by decide +kernel
theorem dL_law_475 : decode cL_law 475 = .ok (.iaload, 1) := by decide +kernel
theorem dL_law_476 : decode cL_law 476 = .ok (.invokevirtual 127, 3) := by decide +kernel
theorem dL_law_479 : decode cL_law 479 = .ok (.istore 6, 2) := by decide +kernel
theorem dL_law_481 : decode cL_law 481 = .ok (.aload_n 2, 1) := by decide +kernel
theorem dL_law_482 : decode cL_law 482 = .ok (.invokevirtual 115, 3) := by decide +kernel
theorem dL_law_485 : decode cL_law 485 = .ok (.iload 5, 2) := by decide +kernel
theorem dL_law_487 : decode cL_law 487 = .ok (.if_icmp .eq 5, 3) := by decide +kernel
theorem dL_law_490 : decode cL_law 490 = .ok (.iconst 0, 1) := by decide +kernel
theorem dL_law_491 : decode cL_law 491 = .ok (.ireturn, 1) := by decide +kernel
theorem dL_law_492 : decode cL_law 492 = .ok (.iload 5, 2) := by decide +kernel
theorem dL_law_494 : decode cL_law 494 = .ok (.ifCond .ne 15, 3) := by decide +kernel
theorem dL_law_497 : decode cL_law 497 = .ok (.aload_n 3, 1) := by decide +kernel
theorem dL_law_498 : decode cL_law 498 = .ok (.iconst 0, 1) := by decide +kernel
theorem dL_law_499 : decode cL_law 499 = .ok (.laload, 1) := by decide +kernel
theorem dL_law_500 : decode cL_law 500 = .ok (.iload 6, 2) := by decide +kernel
theorem dL_law_502 : decode cL_law 502 = .ok (.i2l, 1) := by decide +kernel
theorem dL_law_503 : decode cL_law 503 = .ok (.lcmp, 1) := by decide +kernel
theorem dL_law_504 : decode cL_law 504 = .ok (.ifCond .eq 5, 3) := by decide +kernel
theorem dL_law_507 : decode cL_law 507 = .ok (.iconst 0, 1) := by decide +kernel
theorem dL_law_508 : decode cL_law 508 = .ok (.ireturn, 1) := by decide +kernel
theorem dL_law_509 : decode cL_law 509 = .ok (.goto 1583, 3) := by decide +kernel
theorem dL_law_512 : decode cL_law 512 = .ok (.aload_n 1, 1) := by decide +kernel
theorem dL_law_513 : decode cL_law 513 = .ok (.aload_n 0, 1) := by decide +kernel
theorem dL_law_514 : decode cL_law 514 = .ok (.iload 4, 2) := by decide +kernel
theorem dL_law_516 : decode cL_law 516 = .ok (.iconst 1, 1) := by decide +kernel
theorem dL_law_517 : decode cL_law 517 = .ok (.iadd, 1) := by decide +kernel
theorem dL_law_518 : decode cL_law 518 = .ok (.iaload, 1) := by decide +kernel
theorem dL_law_519 : decode cL_law 519 = .ok (.aload_n 3, 1) := by decide +kernel
theorem dL_law_520 : decode cL_law 520 = .ok (.invokestatic 128, 3) := by decide +kernel
theorem dL_law_523 : decode cL_law 523 = .ok (.istore 5, 2) := by decide +kernel
theorem dL_law_525 : decode cL_law 525 = .ok (.aload_n 2, 1) := by decide +kernel
theorem dL_law_526 : decode cL_law 526 = .ok (.aload_n 0, 1) := by decide +kernel
theorem dL_law_527 : decode cL_law 527 = .ok (.iload 4, 2) := by decide +kernel
theorem dL_law_529 : decode cL_law 529 = .ok (.iconst 1, 1) := by decide +kernel
theorem dL_law_530 : decode cL_law 530 = .ok (.iadd, 1) := by decide +kernel
theorem dL_law_531 : decode cL_law 531 = .ok (.iaload, 1) := by decide +kernel
theorem dL_law_532 : decode cL_law 532 = .ok (.invokevirtual 131, 3) := by decide +kernel
theorem dL_law_535 : decode cL_law 535 = .ok (.istore 6, 2) := by decide +kernel
theorem dL_law_537 : decode cL_law 537 = .ok (.aload_n 2, 1) := by decide +kernel
theorem dL_law_538 : decode cL_law 538 = .ok (.invokevirtual 115, 3) := by decide +kernel
theorem dL_law_541 : decode cL_law 541 = .ok (.iload 5, 2) := by decide +kernel
theorem dL_law_543 : decode cL_law 543 = .ok (.if_icmp .eq 5, 3) := by decide +kernel
theorem dL_law_546 : decode cL_law 546 = .ok (.iconst 0, 1) := by decide +kernel
theorem dL_law_547 : decode cL_law 547 = .ok (.ireturn, 1) := by decide +kernel
theorem dL_law_548 : decode cL_law 548 = .ok (.iload 5, 2) := by decide +kernel
theorem dL_law_550 : decode cL_law 550 = .ok (.ifCond .ne 15, 3) := by decide +kernel
theorem dL_law_553 : decode cL_law 553 = .ok (.aload_n 3, 1) := by decide +kernel
theorem dL_law_554 : decode cL_law 554 = .ok (.iconst 0, 1) := by decide +kernel
theorem dL_law_555 : decode cL_law 555 = .ok (.laload, 1) := by decide +kernel
theorem dL_law_556 : decode cL_law 556 = .ok (.iload 6, 2) := by decide +kernel
theorem dL_law_558 : decode cL_law 558 = .ok (.i2l, 1) := by decide +kernel
theorem dL_law_559 : decode cL_law 559 = .ok (.lcmp, 1) := by decide +kernel
theorem dL_law_560 : decode cL_law 560 = .ok (.ifCond .eq 5, 3) := by decide +kernel
theorem dL_law_563 : decode cL_law 563 = .ok (.iconst 0, 1) := by decide +kernel
theorem dL_law_564 : decode cL_law 564 = .ok (.ireturn, 1) := by decide +kernel
theorem dL_law_565 : decode cL_law 565 = .ok (.goto 1527, 3) := by decide +kernel
theorem dL_law_568 : decode cL_law 568 = .ok (.aload_n 1, 1) := by decide +kernel
theorem dL_law_569 : decode cL_law 569 = .ok (.aload_n 0, 1) := by decide +kernel
theorem dL_law_570 : decode cL_law 570 = .ok (.iload 4, 2) := by decide +kernel
theorem dL_law_572 : decode cL_law 572 = .ok (.iconst 1, 1) := by decide +kernel
theorem dL_law_573 : decode cL_law 573 = .ok (.iadd, 1) := by decide +kernel
theorem dL_law_574 : decode cL_law 574 = .ok (.iaload, 1) := by decide +kernel
theorem dL_law_575 : decode cL_law 575 = .ok (.aload_n 3, 1) := by decide +kernel
theorem dL_law_576 : decode cL_law 576 = .ok (.invokestatic 132, 3) := by decide +kernel
theorem dL_law_579 : decode cL_law 579 = .ok (.istore 5, 2) := by decide +kernel
theorem dL_law_581 : decode cL_law 581 = .ok (.aload_n 2, 1) := by decide +kernel
theorem dL_law_582 : decode cL_law 582 = .ok (.aload_n 0, 1) := by decide +kernel
theorem dL_law_583 : decode cL_law 583 = .ok (.iload 4, 2) := by decide +kernel
theorem dL_law_585 : decode cL_law 585 = .ok (.iconst 1, 1) := by decide +kernel
theorem dL_law_586 : decode cL_law 586 = .ok (.iadd, 1) := by decide +kernel
theorem dL_law_587 : decode cL_law 587 = .ok (.iaload, 1) := by decide +kernel
theorem dL_law_588 : decode cL_law 588 = .ok (.invokevirtual 134, 3) := by decide +kernel
theorem dL_law_591 : decode cL_law 591 = .ok (.istore 6, 2) := by decide +kernel
theorem dL_law_593 : decode cL_law 593 = .ok (.aload_n 2, 1) := by decide +kernel
theorem dL_law_594 : decode cL_law 594 = .ok (.invokevirtual 115, 3) := by decide +kernel
theorem dL_law_597 : decode cL_law 597 = .ok (.iload 5, 2) := by decide +kernel
theorem dL_law_599 : decode cL_law 599 = .ok (.if_icmp .eq 5, 3) := by decide +kernel
theorem dL_law_602 : decode cL_law 602 = .ok (.iconst 0, 1) := by decide +kernel
theorem dL_law_603 : decode cL_law 603 = .ok (.ireturn, 1) := by decide +kernel
theorem dL_law_604 : decode cL_law 604 = .ok (.iload 5, 2) := by decide +kernel
theorem dL_law_606 : decode cL_law 606 = .ok (.ifCond .ne 15, 3) := by decide +kernel
theorem dL_law_609 : decode cL_law 609 = .ok (.aload_n 3, 1) := by decide +kernel
theorem dL_law_610 : decode cL_law 610 = .ok (.iconst 0, 1) := by decide +kernel
theorem dL_law_611 : decode cL_law 611 = .ok (.laload, 1) := by decide +kernel
theorem dL_law_612 : decode cL_law 612 = .ok (.iload 6, 2) := by decide +kernel
theorem dL_law_614 : decode cL_law 614 = .ok (.i2l, 1) := by decide +kernel
theorem dL_law_615 : decode cL_law 615 = .ok (.lcmp, 1) := by decide +kernel
theorem dL_law_616 : decode cL_law 616 = .ok (.ifCond .eq 5, 3) := by decide +kernel
theorem dL_law_619 : decode cL_law 619 = .ok (.iconst 0, 1) := by decide +kernel
theorem dL_law_620 : decode cL_law 620 = .ok (.ireturn, 1) := by decide +kernel
theorem dL_law_621 : decode cL_law 621 = .ok (.goto 1471, 3) := by decide +kernel
theorem dL_law_624 : decode cL_law 624 = .ok (.aload_n 1, 1) := by decide +kernel
theorem dL_law_625 : decode cL_law 625 = .ok (.aload_n 0, 1) := by decide +kernel
theorem dL_law_626 : decode cL_law 626 = .ok (.iload 4, 2) := by decide +kernel
theorem dL_law_628 : decode cL_law 628 = .ok (.iconst 1, 1) := by decide +kernel
theorem dL_law_629 : decode cL_law 629 = .ok (.iadd, 1) := by decide +kernel
theorem dL_law_630 : decode cL_law 630 = .ok (.iaload, 1) := by decide +kernel
theorem dL_law_631 : decode cL_law 631 = .ok (.aload_n 0, 1) := by decide +kernel
theorem dL_law_632 : decode cL_law 632 = .ok (.iload 4, 2) := by decide +kernel
theorem dL_law_634 : decode cL_law 634 = .ok (.iconst 2, 1) := by decide +kernel
theorem dL_law_635 : decode cL_law 635 = .ok (.iadd, 1) := by decide +kernel
theorem dL_law_636 : decode cL_law 636 = .ok (.iaload, 1) := by decide +kernel
theorem dL_law_637 : decode cL_law 637 = .ok (.aload_n 3, 1) := by decide +kernel
theorem dL_law_638 : decode cL_law 638 = .ok (.invokestatic 135, 3) := by decide +kernel
theorem dL_law_641 : decode cL_law 641 = .ok (.istore 5, 2) := by decide +kernel
theorem dL_law_643 : decode cL_law 643 = .ok (.aload_n 2, 1) := by decide +kernel
theorem dL_law_644 : decode cL_law 644 = .ok (.aload_n 0, 1) := by decide +kernel
theorem dL_law_645 : decode cL_law 645 = .ok (.iload 4, 2) := by decide +kernel
theorem dL_law_647 : decode cL_law 647 = .ok (.iconst 1, 1) := by decide +kernel
theorem dL_law_648 : decode cL_law 648 = .ok (.iadd, 1) := by decide +kernel
theorem dL_law_649 : decode cL_law 649 = .ok (.iaload, 1) := by decide +kernel
theorem dL_law_650 : decode cL_law 650 = .ok (.aload_n 0, 1) := by decide +kernel
theorem dL_law_651 : decode cL_law 651 = .ok (.iload 4, 2) := by decide +kernel
theorem dL_law_653 : decode cL_law 653 = .ok (.iconst 2, 1) := by decide +kernel
theorem dL_law_654 : decode cL_law 654 = .ok (.iadd, 1) := by decide +kernel
theorem dL_law_655 : decode cL_law 655 = .ok (.iaload, 1) := by decide +kernel
theorem dL_law_656 : decode cL_law 656 = .ok (.invokevirtual 138, 3) := by decide +kernel
theorem dL_law_659 : decode cL_law 659 = .ok (.istore 6, 2) := by decide +kernel
theorem dL_law_661 : decode cL_law 661 = .ok (.aload_n 2, 1) := by decide +kernel
theorem dL_law_662 : decode cL_law 662 = .ok (.invokevirtual 115, 3) := by decide +kernel
theorem dL_law_665 : decode cL_law 665 = .ok (.iload 5, 2) := by decide +kernel
theorem dL_law_667 : decode cL_law 667 = .ok (.if_icmp .eq 5, 3) := by decide +kernel
theorem dL_law_670 : decode cL_law 670 = .ok (.iconst 0, 1) := by decide +kernel
theorem dL_law_671 : decode cL_law 671 = .ok (.ireturn, 1) := by decide +kernel
theorem dL_law_672 : decode cL_law 672 = .ok (.iload 5, 2) := by decide +kernel
theorem dL_law_674 : decode cL_law 674 = .ok (.ifCond .ne 15, 3) := by decide +kernel
theorem dL_law_677 : decode cL_law 677 = .ok (.aload_n 3, 1) := by decide +kernel
theorem dL_law_678 : decode cL_law 678 = .ok (.iconst 0, 1) := by decide +kernel
theorem dL_law_679 : decode cL_law 679 = .ok (.laload, 1) := by decide +kernel
theorem dL_law_680 : decode cL_law 680 = .ok (.iload 6, 2) := by decide +kernel
theorem dL_law_682 : decode cL_law 682 = .ok (.i2l, 1) := by decide +kernel
theorem dL_law_683 : decode cL_law 683 = .ok (.lcmp, 1) := by decide +kernel
theorem dL_law_684 : decode cL_law 684 = .ok (.ifCond .eq 5, 3) := by decide +kernel
theorem dL_law_687 : decode cL_law 687 = .ok (.iconst 0, 1) := by decide +kernel
theorem dL_law_688 : decode cL_law 688 = .ok (.ireturn, 1) := by decide +kernel
theorem dL_law_689 : decode cL_law 689 = .ok (.goto 1403, 3) := by decide +kernel
theorem dL_law_692 : decode cL_law 692 = .ok (.aload_n 1, 1) := by decide +kernel
theorem dL_law_693 : decode cL_law 693 = .ok (.aload_n 0, 1) := by decide +kernel
theorem dL_law_694 : decode cL_law 694 = .ok (.iload 4, 2) := by decide +kernel
theorem dL_law_696 : decode cL_law 696 = .ok (.iconst 1, 1) := by decide +kernel
theorem dL_law_697 : decode cL_law 697 = .ok (.iadd, 1) := by decide +kernel
theorem dL_law_698 : decode cL_law 698 = .ok (.iaload, 1) := by decide +kernel
theorem dL_law_699 : decode cL_law 699 = .ok (.aload_n 0, 1) := by decide +kernel
theorem dL_law_700 : decode cL_law 700 = .ok (.iload 4, 2) := by decide +kernel
theorem dL_law_702 : decode cL_law 702 = .ok (.iconst 2, 1) := by decide +kernel
theorem dL_law_703 : decode cL_law 703 = .ok (.iadd, 1) := by decide +kernel
theorem dL_law_704 : decode cL_law 704 = .ok (.iaload, 1) := by decide +kernel
theorem dL_law_705 : decode cL_law 705 = .ok (.aload_n 0, 1) := by decide +kernel
theorem dL_law_706 : decode cL_law 706 = .ok (.iload 4, 2) := by decide +kernel
theorem dL_law_708 : decode cL_law 708 = .ok (.iconst 3, 1) := by decide +kernel
theorem dL_law_709 : decode cL_law 709 = .ok (.iadd, 1) := by decide +kernel
theorem dL_law_710 : decode cL_law 710 = .ok (.iaload, 1) := by decide +kernel
theorem dL_law_711 : decode cL_law 711 = .ok (.aload_n 0, 1) := by decide +kernel
theorem dL_law_712 : decode cL_law 712 = .ok (.iload 4, 2) := by decide +kernel
theorem dL_law_714 : decode cL_law 714 = .ok (.iconst 4, 1) := by decide +kernel
theorem dL_law_715 : decode cL_law 715 = .ok (.iadd, 1) := by decide +kernel
theorem dL_law_716 : decode cL_law 716 = .ok (.iaload, 1) := by decide +kernel
theorem dL_law_717 : decode cL_law 717 = .ok (.aload_n 0, 1) := by decide +kernel
theorem dL_law_718 : decode cL_law 718 = .ok (.iload 4, 2) := by decide +kernel
theorem dL_law_720 : decode cL_law 720 = .ok (.iconst 5, 1) := by decide +kernel
theorem dL_law_721 : decode cL_law 721 = .ok (.iadd, 1) := by decide +kernel
theorem dL_law_722 : decode cL_law 722 = .ok (.iaload, 1) := by decide +kernel
theorem dL_law_723 : decode cL_law 723 = .ok (.ifCond .eq 7, 3) := by decide +kernel
theorem dL_law_726 : decode cL_law 726 = .ok (.iconst 1, 1) := by decide +kernel
theorem dL_law_727 : decode cL_law 727 = .ok (.goto 4, 3) := by decide +kernel
theorem dL_law_730 : decode cL_law 730 = .ok (.iconst 0, 1) := by decide +kernel
theorem dL_law_731 : decode cL_law 731 = .ok (.aload_n 3, 1) := by decide +kernel
theorem dL_law_732 : decode cL_law 732 = .ok (.invokestatic 139, 3) := by decide +kernel
theorem dL_law_735 : decode cL_law 735 = .ok (.istore 5, 2) := by decide +kernel
theorem dL_law_737 : decode cL_law 737 = .ok (.aload_n 2, 1) := by decide +kernel
theorem dL_law_738 : decode cL_law 738 = .ok (.aload_n 0, 1) := by decide +kernel
theorem dL_law_739 : decode cL_law 739 = .ok (.iload 4, 2) := by decide +kernel
theorem dL_law_741 : decode cL_law 741 = .ok (.iconst 1, 1) := by decide +kernel
theorem dL_law_742 : decode cL_law 742 = .ok (.iadd, 1) := by decide +kernel
theorem dL_law_743 : decode cL_law 743 = .ok (.iaload, 1) := by decide +kernel
theorem dL_law_744 : decode cL_law 744 = .ok (.aload_n 0, 1) := by decide +kernel
theorem dL_law_745 : decode cL_law 745 = .ok (.iload 4, 2) := by decide +kernel
theorem dL_law_747 : decode cL_law 747 = .ok (.iconst 2, 1) := by decide +kernel
theorem dL_law_748 : decode cL_law 748 = .ok (.iadd, 1) := by decide +kernel
theorem dL_law_749 : decode cL_law 749 = .ok (.iaload, 1) := by decide +kernel
theorem dL_law_750 : decode cL_law 750 = .ok (.aload_n 0, 1) := by decide +kernel
theorem dL_law_751 : decode cL_law 751 = .ok (.iload 4, 2) := by decide +kernel
theorem dL_law_753 : decode cL_law 753 = .ok (.iconst 3, 1) := by decide +kernel
theorem dL_law_754 : decode cL_law 754 = .ok (.iadd, 1) := by decide +kernel
theorem dL_law_755 : decode cL_law 755 = .ok (.iaload, 1) := by decide +kernel
theorem dL_law_756 : decode cL_law 756 = .ok (.aload_n 0, 1) := by decide +kernel
theorem dL_law_757 : decode cL_law 757 = .ok (.iload 4, 2) := by decide +kernel
theorem dL_law_759 : decode cL_law 759 = .ok (.iconst 4, 1) := by decide +kernel
theorem dL_law_760 : decode cL_law 760 = .ok (.iadd, 1) := by decide +kernel
theorem dL_law_761 : decode cL_law 761 = .ok (.iaload, 1) := by decide +kernel
theorem dL_law_762 : decode cL_law 762 = .ok (.aload_n 0, 1) := by decide +kernel
theorem dL_law_763 : decode cL_law 763 = .ok (.iload 4, 2) := by decide +kernel
theorem dL_law_765 : decode cL_law 765 = .ok (.iconst 5, 1) := by decide +kernel
theorem dL_law_766 : decode cL_law 766 = .ok (.iadd, 1) := by decide +kernel
theorem dL_law_767 : decode cL_law 767 = .ok (.iaload, 1) := by decide +kernel
theorem dL_law_768 : decode cL_law 768 = .ok (.ifCond .eq 7, 3) := by decide +kernel
theorem dL_law_771 : decode cL_law 771 = .ok (.iconst 1, 1) := by decide +kernel
theorem dL_law_772 : decode cL_law 772 = .ok (.goto 4, 3) := by decide +kernel
theorem dL_law_775 : decode cL_law 775 = .ok (.iconst 0, 1) := by decide +kernel
theorem dL_law_776 : decode cL_law 776 = .ok (.invokevirtual 142, 3) := by decide +kernel
theorem dL_law_779 : decode cL_law 779 = .ok (.istore 6, 2) := by decide +kernel
theorem dL_law_781 : decode cL_law 781 = .ok (.aload_n 2, 1) := by decide +kernel
theorem dL_law_782 : decode cL_law 782 = .ok (.invokevirtual 115, 3) := by decide +kernel
theorem dL_law_785 : decode cL_law 785 = .ok (.iload 5, 2) := by decide +kernel
theorem dL_law_787 : decode cL_law 787 = .ok (.if_icmp .eq 5, 3) := by decide +kernel
theorem dL_law_790 : decode cL_law 790 = .ok (.iconst 0, 1) := by decide +kernel
theorem dL_law_791 : decode cL_law 791 = .ok (.ireturn, 1) := by decide +kernel
theorem dL_law_792 : decode cL_law 792 = .ok (.iload 5, 2) := by decide +kernel
theorem dL_law_794 : decode cL_law 794 = .ok (.ifCond .ne 15, 3) := by decide +kernel
theorem dL_law_797 : decode cL_law 797 = .ok (.aload_n 3, 1) := by decide +kernel
theorem dL_law_798 : decode cL_law 798 = .ok (.iconst 0, 1) := by decide +kernel
theorem dL_law_799 : decode cL_law 799 = .ok (.laload, 1) := by decide +kernel
theorem dL_law_800 : decode cL_law 800 = .ok (.iload 6, 2) := by decide +kernel
theorem dL_law_802 : decode cL_law 802 = .ok (.i2l, 1) := by decide +kernel
theorem dL_law_803 : decode cL_law 803 = .ok (.lcmp, 1) := by decide +kernel
theorem dL_law_804 : decode cL_law 804 = .ok (.ifCond .eq 5, 3) := by decide +kernel
theorem dL_law_807 : decode cL_law 807 = .ok (.iconst 0, 1) := by decide +kernel
theorem dL_law_808 : decode cL_law 808 = .ok (.ireturn, 1) := by decide +kernel
theorem dL_law_809 : decode cL_law 809 = .ok (.goto 1283, 3) := by decide +kernel
theorem dL_law_812 : decode cL_law 812 = .ok (.aload_n 1, 1) := by decide +kernel
theorem dL_law_813 : decode cL_law 813 = .ok (.aload_n 0, 1) := by decide +kernel
theorem dL_law_814 : decode cL_law 814 = .ok (.iload 4, 2) := by decide +kernel
theorem dL_law_816 : decode cL_law 816 = .ok (.iconst 1, 1) := by decide +kernel
theorem dL_law_817 : decode cL_law 817 = .ok (.iadd, 1) := by decide +kernel
theorem dL_law_818 : decode cL_law 818 = .ok (.iaload, 1) := by decide +kernel
theorem dL_law_819 : decode cL_law 819 = .ok (.aload_n 3, 1) := by decide +kernel
theorem dL_law_820 : decode cL_law 820 = .ok (.invokestatic 143, 3) := by decide +kernel
theorem dL_law_823 : decode cL_law 823 = .ok (.istore 5, 2) := by decide +kernel
theorem dL_law_825 : decode cL_law 825 = .ok (.aload_n 2, 1) := by decide +kernel
theorem dL_law_826 : decode cL_law 826 = .ok (.aload_n 0, 1) := by decide +kernel
theorem dL_law_827 : decode cL_law 827 = .ok (.iload 4, 2) := by decide +kernel
theorem dL_law_829 : decode cL_law 829 = .ok (.iconst 1, 1) := by decide +kernel
theorem dL_law_830 : decode cL_law 830 = .ok (.iadd, 1) := by decide +kernel
theorem dL_law_831 : decode cL_law 831 = .ok (.iaload, 1) := by decide +kernel
theorem dL_law_832 : decode cL_law 832 = .ok (.invokevirtual 145, 3) := by decide +kernel
theorem dL_law_835 : decode cL_law 835 = .ok (.istore 6, 2) := by decide +kernel
theorem dL_law_837 : decode cL_law 837 = .ok (.aload_n 2, 1) := by decide +kernel
theorem dL_law_838 : decode cL_law 838 = .ok (.invokevirtual 115, 3) := by decide +kernel
theorem dL_law_841 : decode cL_law 841 = .ok (.iload 5, 2) := by decide +kernel
theorem dL_law_843 : decode cL_law 843 = .ok (.if_icmp .eq 5, 3) := by decide +kernel
theorem dL_law_846 : decode cL_law 846 = .ok (.iconst 0, 1) := by decide +kernel
theorem dL_law_847 : decode cL_law 847 = .ok (.ireturn, 1) := by decide +kernel
theorem dL_law_848 : decode cL_law 848 = .ok (.iload 5, 2) := by decide +kernel
theorem dL_law_850 : decode cL_law 850 = .ok (.ifCond .ne 15, 3) := by decide +kernel
theorem dL_law_853 : decode cL_law 853 = .ok (.aload_n 3, 1) := by decide +kernel
theorem dL_law_854 : decode cL_law 854 = .ok (.iconst 0, 1) := by decide +kernel
theorem dL_law_855 : decode cL_law 855 = .ok (.laload, 1) := by decide +kernel
theorem dL_law_856 : decode cL_law 856 = .ok (.iload 6, 2) := by decide +kernel
theorem dL_law_858 : decode cL_law 858 = .ok (.i2l, 1) := by decide +kernel
theorem dL_law_859 : decode cL_law 859 = .ok (.lcmp, 1) := by decide +kernel
theorem dL_law_860 : decode cL_law 860 = .ok (.ifCond .eq 5, 3) := by decide +kernel
theorem dL_law_863 : decode cL_law 863 = .ok (.iconst 0, 1) := by decide +kernel
theorem dL_law_864 : decode cL_law 864 = .ok (.ireturn, 1) := by decide +kernel
theorem dL_law_865 : decode cL_law 865 = .ok (.goto 1227, 3) := by decide +kernel
theorem dL_law_868 : decode cL_law 868 = .ok (.aload_n 1, 1) := by decide +kernel
theorem dL_law_869 : decode cL_law 869 = .ok (.aload_n 0, 1) := by decide +kernel
theorem dL_law_870 : decode cL_law 870 = .ok (.iload 4, 2) := by decide +kernel
theorem dL_law_872 : decode cL_law 872 = .ok (.iconst 1, 1) := by decide +kernel
theorem dL_law_873 : decode cL_law 873 = .ok (.iadd, 1) := by decide +kernel
theorem dL_law_874 : decode cL_law 874 = .ok (.iaload, 1) := by decide +kernel
theorem dL_law_875 : decode cL_law 875 = .ok (.aload_n 3, 1) := by decide +kernel
theorem dL_law_876 : decode cL_law 876 = .ok (.invokestatic 146, 3) := by decide +kernel
theorem dL_law_879 : decode cL_law 879 = .ok (.istore 5, 2) := by decide +kernel
theorem dL_law_881 : decode cL_law 881 = .ok (.aload_n 2, 1) := by decide +kernel
theorem dL_law_882 : decode cL_law 882 = .ok (.aload_n 0, 1) := by decide +kernel
theorem dL_law_883 : decode cL_law 883 = .ok (.iload 4, 2) := by decide +kernel
theorem dL_law_885 : decode cL_law 885 = .ok (.iconst 1, 1) := by decide +kernel
theorem dL_law_886 : decode cL_law 886 = .ok (.iadd, 1) := by decide +kernel
theorem dL_law_887 : decode cL_law 887 = .ok (.iaload, 1) := by decide +kernel
theorem dL_law_888 : decode cL_law 888 = .ok (.invokevirtual 148, 3) := by decide +kernel
theorem dL_law_891 : decode cL_law 891 = .ok (.istore 6, 2) := by decide +kernel
theorem dL_law_893 : decode cL_law 893 = .ok (.aload_n 2, 1) := by decide +kernel
theorem dL_law_894 : decode cL_law 894 = .ok (.invokevirtual 115, 3) := by decide +kernel
theorem dL_law_897 : decode cL_law 897 = .ok (.iload 5, 2) := by decide +kernel
theorem dL_law_899 : decode cL_law 899 = .ok (.if_icmp .eq 5, 3) := by decide +kernel
theorem dL_law_902 : decode cL_law 902 = .ok (.iconst 0, 1) := by decide +kernel
theorem dL_law_903 : decode cL_law 903 = .ok (.ireturn, 1) := by decide +kernel
theorem dL_law_904 : decode cL_law 904 = .ok (.iload 5, 2) := by decide +kernel
theorem dL_law_906 : decode cL_law 906 = .ok (.ifCond .ne 15, 3) := by decide +kernel
theorem dL_law_909 : decode cL_law 909 = .ok (.aload_n 3, 1) := by decide +kernel
theorem dL_law_910 : decode cL_law 910 = .ok (.iconst 0, 1) := by decide +kernel
theorem dL_law_911 : decode cL_law 911 = .ok (.laload, 1) := by decide +kernel
theorem dL_law_912 : decode cL_law 912 = .ok (.iload 6, 2) := by decide +kernel
theorem dL_law_914 : decode cL_law 914 = .ok (.i2l, 1) := by decide +kernel
theorem dL_law_915 : decode cL_law 915 = .ok (.lcmp, 1) := by decide +kernel
theorem dL_law_916 : decode cL_law 916 = .ok (.ifCond .eq 5, 3) := by decide +kernel
theorem dL_law_919 : decode cL_law 919 = .ok (.iconst 0, 1) := by decide +kernel
theorem dL_law_920 : decode cL_law 920 = .ok (.ireturn, 1) := by decide +kernel
theorem dL_law_921 : decode cL_law 921 = .ok (.goto 1171, 3) := by decide +kernel
theorem dL_law_924 : decode cL_law 924 = .ok (.aload_n 1, 1) := by decide +kernel
theorem dL_law_925 : decode cL_law 925 = .ok (.aload_n 0, 1) := by decide +kernel
theorem dL_law_926 : decode cL_law 926 = .ok (.iload 4, 2) := by decide +kernel
theorem dL_law_928 : decode cL_law 928 = .ok (.iconst 1, 1) := by decide +kernel
theorem dL_law_929 : decode cL_law 929 = .ok (.iadd, 1) := by decide +kernel
theorem dL_law_930 : decode cL_law 930 = .ok (.iaload, 1) := by decide +kernel
theorem dL_law_931 : decode cL_law 931 = .ok (.aload_n 0, 1) := by decide +kernel
theorem dL_law_932 : decode cL_law 932 = .ok (.iload 4, 2) := by decide +kernel
theorem dL_law_934 : decode cL_law 934 = .ok (.iconst 2, 1) := by decide +kernel
theorem dL_law_935 : decode cL_law 935 = .ok (.iadd, 1) := by decide +kernel
theorem dL_law_936 : decode cL_law 936 = .ok (.iaload, 1) := by decide +kernel
theorem dL_law_937 : decode cL_law 937 = .ok (.aload_n 3, 1) := by decide +kernel
theorem dL_law_938 : decode cL_law 938 = .ok (.invokestatic 149, 3) := by decide +kernel
theorem dL_law_941 : decode cL_law 941 = .ok (.istore 5, 2) := by decide +kernel
theorem dL_law_943 : decode cL_law 943 = .ok (.aload_n 2, 1) := by decide +kernel
theorem dL_law_944 : decode cL_law 944 = .ok (.aload_n 0, 1) := by decide +kernel
theorem dL_law_945 : decode cL_law 945 = .ok (.iload 4, 2) := by decide +kernel
theorem dL_law_947 : decode cL_law 947 = .ok (.iconst 1, 1) := by decide +kernel
theorem dL_law_948 : decode cL_law 948 = .ok (.iadd, 1) := by decide +kernel
theorem dL_law_949 : decode cL_law 949 = .ok (.iaload, 1) := by decide +kernel
theorem dL_law_950 : decode cL_law 950 = .ok (.aload_n 0, 1) := by decide +kernel
theorem dL_law_951 : decode cL_law 951 = .ok (.iload 4, 2) := by decide +kernel
theorem dL_law_953 : decode cL_law 953 = .ok (.iconst 2, 1) := by decide +kernel
theorem dL_law_954 : decode cL_law 954 = .ok (.iadd, 1) := by decide +kernel
theorem dL_law_955 : decode cL_law 955 = .ok (.iaload, 1) := by decide +kernel
theorem dL_law_956 : decode cL_law 956 = .ok (.invokevirtual 151, 3) := by decide +kernel
theorem dL_law_959 : decode cL_law 959 = .ok (.istore 6, 2) := by decide +kernel
theorem dL_law_961 : decode cL_law 961 = .ok (.aload_n 2, 1) := by decide +kernel
theorem dL_law_962 : decode cL_law 962 = .ok (.invokevirtual 115, 3) := by decide +kernel
theorem dL_law_965 : decode cL_law 965 = .ok (.iload 5, 2) := by decide +kernel
theorem dL_law_967 : decode cL_law 967 = .ok (.if_icmp .eq 5, 3) := by decide +kernel
theorem dL_law_970 : decode cL_law 970 = .ok (.iconst 0, 1) := by decide +kernel
theorem dL_law_971 : decode cL_law 971 = .ok (.ireturn, 1) := by decide +kernel
theorem dL_law_972 : decode cL_law 972 = .ok (.iload 5, 2) := by decide +kernel
theorem dL_law_974 : decode cL_law 974 = .ok (.ifCond .ne 15, 3) := by decide +kernel
theorem dL_law_977 : decode cL_law 977 = .ok (.aload_n 3, 1) := by decide +kernel
theorem dL_law_978 : decode cL_law 978 = .ok (.iconst 0, 1) := by decide +kernel
theorem dL_law_979 : decode cL_law 979 = .ok (.laload, 1) := by decide +kernel
theorem dL_law_980 : decode cL_law 980 = .ok (.iload 6, 2) := by decide +kernel
theorem dL_law_982 : decode cL_law 982 = .ok (.i2l, 1) := by decide +kernel
theorem dL_law_983 : decode cL_law 983 = .ok (.lcmp, 1) := by decide +kernel
theorem dL_law_984 : decode cL_law 984 = .ok (.ifCond .eq 5, 3) := by decide +kernel
theorem dL_law_987 : decode cL_law 987 = .ok (.iconst 0, 1) := by decide +kernel
theorem dL_law_988 : decode cL_law 988 = .ok (.ireturn, 1) := by decide +kernel
theorem dL_law_989 : decode cL_law 989 = .ok (.goto 1103, 3) := by decide +kernel
theorem dL_law_992 : decode cL_law 992 = .ok (.aload_n 1, 1) := by decide +kernel
theorem dL_law_993 : decode cL_law 993 = .ok (.aload_n 0, 1) := by decide +kernel
theorem dL_law_994 : decode cL_law 994 = .ok (.iload 4, 2) := by decide +kernel
theorem dL_law_996 : decode cL_law 996 = .ok (.iconst 1, 1) := by decide +kernel
theorem dL_law_997 : decode cL_law 997 = .ok (.iadd, 1) := by decide +kernel
theorem dL_law_998 : decode cL_law 998 = .ok (.iaload, 1) := by decide +kernel
theorem dL_law_999 : decode cL_law 999 = .ok (.aload_n 3, 1) := by decide +kernel
theorem dL_law_1000 : decode cL_law 1000 = .ok (.invokestatic 152, 3) := by decide +kernel
theorem dL_law_1003 : decode cL_law 1003 = .ok (.istore 5, 2) := by decide +kernel
theorem dL_law_1005 : decode cL_law 1005 = .ok (.aload_n 2, 1) := by decide +kernel
theorem dL_law_1006 : decode cL_law 1006 = .ok (.aload_n 0, 1) := by decide +kernel
theorem dL_law_1007 : decode cL_law 1007 = .ok (.iload 4, 2) := by decide +kernel
theorem dL_law_1009 : decode cL_law 1009 = .ok (.iconst 1, 1) := by decide +kernel
theorem dL_law_1010 : decode cL_law 1010 = .ok (.iadd, 1) := by decide +kernel
theorem dL_law_1011 : decode cL_law 1011 = .ok (.iaload, 1) := by decide +kernel
theorem dL_law_1012 : decode cL_law 1012 = .ok (.invokevirtual 154, 3) := by decide +kernel
theorem dL_law_1015 : decode cL_law 1015 = .ok (.istore 6, 2) := by decide +kernel
theorem dL_law_1017 : decode cL_law 1017 = .ok (.aload_n 2, 1) := by decide +kernel
theorem dL_law_1018 : decode cL_law 1018 = .ok (.invokevirtual 115, 3) := by decide +kernel
theorem dL_law_1021 : decode cL_law 1021 = .ok (.iload 5, 2) := by decide +kernel
theorem dL_law_1023 : decode cL_law 1023 = .ok (.if_icmp .eq 5, 3) := by decide +kernel
theorem dL_law_1026 : decode cL_law 1026 = .ok (.iconst 0, 1) := by decide +kernel
theorem dL_law_1027 : decode cL_law 1027 = .ok (.ireturn, 1) := by decide +kernel
theorem dL_law_1028 : decode cL_law 1028 = .ok (.iload 5, 2) := by decide +kernel
theorem dL_law_1030 : decode cL_law 1030 = .ok (.ifCond .ne 15, 3) := by decide +kernel
theorem dL_law_1033 : decode cL_law 1033 = .ok (.aload_n 3, 1) := by decide +kernel
theorem dL_law_1034 : decode cL_law 1034 = .ok (.iconst 0, 1) := by decide +kernel
theorem dL_law_1035 : decode cL_law 1035 = .ok (.laload, 1) := by decide +kernel
theorem dL_law_1036 : decode cL_law 1036 = .ok (.iload 6, 2) := by decide +kernel
theorem dL_law_1038 : decode cL_law 1038 = .ok (.i2l, 1) := by decide +kernel
theorem dL_law_1039 : decode cL_law 1039 = .ok (.lcmp, 1) := by decide +kernel
theorem dL_law_1040 : decode cL_law 1040 = .ok (.ifCond .eq 5, 3) := by decide +kernel
theorem dL_law_1043 : decode cL_law 1043 = .ok (.iconst 0, 1) := by decide +kernel
theorem dL_law_1044 : decode cL_law 1044 = .ok (.ireturn, 1) := by decide +kernel
theorem dL_law_1045 : decode cL_law 1045 = .ok (.goto 1047, 3) := by decide +kernel
theorem dL_law_1048 : decode cL_law 1048 = .ok (.aload_n 1, 1) := by decide +kernel
theorem dL_law_1049 : decode cL_law 1049 = .ok (.aload_n 0, 1) := by decide +kernel
theorem dL_law_1050 : decode cL_law 1050 = .ok (.iload 4, 2) := by decide +kernel
theorem dL_law_1052 : decode cL_law 1052 = .ok (.iconst 1, 1) := by decide +kernel
theorem dL_law_1053 : decode cL_law 1053 = .ok (.iadd, 1) := by decide +kernel
theorem dL_law_1054 : decode cL_law 1054 = .ok (.iaload, 1) := by decide +kernel
theorem dL_law_1055 : decode cL_law 1055 = .ok (.aload_n 0, 1) := by decide +kernel
theorem dL_law_1056 : decode cL_law 1056 = .ok (.iload 4, 2) := by decide +kernel
theorem dL_law_1058 : decode cL_law 1058 = .ok (.iconst 2, 1) := by decide +kernel
theorem dL_law_1059 : decode cL_law 1059 = .ok (.iadd, 1) := by decide +kernel
theorem dL_law_1060 : decode cL_law 1060 = .ok (.iaload, 1) := by decide +kernel
theorem dL_law_1061 : decode cL_law 1061 = .ok (.aload_n 3, 1) := by decide +kernel
theorem dL_law_1062 : decode cL_law 1062 = .ok (.invokestatic 155, 3) := by decide +kernel
theorem dL_law_1065 : decode cL_law 1065 = .ok (.istore 5, 2) := by decide +kernel
theorem dL_law_1067 : decode cL_law 1067 = .ok (.aload_n 2, 1) := by decide +kernel
theorem dL_law_1068 : decode cL_law 1068 = .ok (.aload_n 0, 1) := by decide +kernel
theorem dL_law_1069 : decode cL_law 1069 = .ok (.iload 4, 2) := by decide +kernel
theorem dL_law_1071 : decode cL_law 1071 = .ok (.iconst 1, 1) := by decide +kernel
theorem dL_law_1072 : decode cL_law 1072 = .ok (.iadd, 1) := by decide +kernel
theorem dL_law_1073 : decode cL_law 1073 = .ok (.iaload, 1) := by decide +kernel
theorem dL_law_1074 : decode cL_law 1074 = .ok (.aload_n 0, 1) := by decide +kernel
theorem dL_law_1075 : decode cL_law 1075 = .ok (.iload 4, 2) := by decide +kernel
theorem dL_law_1077 : decode cL_law 1077 = .ok (.iconst 2, 1) := by decide +kernel
theorem dL_law_1078 : decode cL_law 1078 = .ok (.iadd, 1) := by decide +kernel
theorem dL_law_1079 : decode cL_law 1079 = .ok (.iaload, 1) := by decide +kernel
theorem dL_law_1080 : decode cL_law 1080 = .ok (.invokevirtual 157, 3) := by decide +kernel
theorem dL_law_1083 : decode cL_law 1083 = .ok (.istore 6, 2) := by decide +kernel
theorem dL_law_1085 : decode cL_law 1085 = .ok (.aload_n 2, 1) := by decide +kernel
theorem dL_law_1086 : decode cL_law 1086 = .ok (.invokevirtual 115, 3) := by decide +kernel
theorem dL_law_1089 : decode cL_law 1089 = .ok (.iload 5, 2) := by decide +kernel
theorem dL_law_1091 : decode cL_law 1091 = .ok (.if_icmp .eq 5, 3) := by decide +kernel
theorem dL_law_1094 : decode cL_law 1094 = .ok (.iconst 0, 1) := by decide +kernel
theorem dL_law_1095 : decode cL_law 1095 = .ok (.ireturn, 1) := by decide +kernel
theorem dL_law_1096 : decode cL_law 1096 = .ok (.iload 5, 2) := by decide +kernel
theorem dL_law_1098 : decode cL_law 1098 = .ok (.ifCond .ne 15, 3) := by decide +kernel
theorem dL_law_1101 : decode cL_law 1101 = .ok (.aload_n 3, 1) := by decide +kernel
theorem dL_law_1102 : decode cL_law 1102 = .ok (.iconst 0, 1) := by decide +kernel
theorem dL_law_1103 : decode cL_law 1103 = .ok (.laload, 1) := by decide +kernel
theorem dL_law_1104 : decode cL_law 1104 = .ok (.iload 6, 2) := by decide +kernel
theorem dL_law_1106 : decode cL_law 1106 = .ok (.i2l, 1) := by decide +kernel
theorem dL_law_1107 : decode cL_law 1107 = .ok (.lcmp, 1) := by decide +kernel
theorem dL_law_1108 : decode cL_law 1108 = .ok (.ifCond .eq 5, 3) := by decide +kernel
theorem dL_law_1111 : decode cL_law 1111 = .ok (.iconst 0, 1) := by decide +kernel
theorem dL_law_1112 : decode cL_law 1112 = .ok (.ireturn, 1) := by decide +kernel
theorem dL_law_1113 : decode cL_law 1113 = .ok (.goto 979, 3) := by decide +kernel
theorem dL_law_1116 : decode cL_law 1116 = .ok (.aload_n 1, 1) := by decide +kernel
theorem dL_law_1117 : decode cL_law 1117 = .ok (.aload_n 0, 1) := by decide +kernel
theorem dL_law_1118 : decode cL_law 1118 = .ok (.iload 4, 2) := by decide +kernel
theorem dL_law_1120 : decode cL_law 1120 = .ok (.iconst 1, 1) := by decide +kernel
theorem dL_law_1121 : decode cL_law 1121 = .ok (.iadd, 1) := by decide +kernel
theorem dL_law_1122 : decode cL_law 1122 = .ok (.iaload, 1) := by decide +kernel
theorem dL_law_1123 : decode cL_law 1123 = .ok (.aload_n 3, 1) := by decide +kernel
theorem dL_law_1124 : decode cL_law 1124 = .ok (.invokestatic 158, 3) := by decide +kernel
theorem dL_law_1127 : decode cL_law 1127 = .ok (.istore 5, 2) := by decide +kernel
theorem dL_law_1129 : decode cL_law 1129 = .ok (.aload_n 2, 1) := by decide +kernel
theorem dL_law_1130 : decode cL_law 1130 = .ok (.aload_n 0, 1) := by decide +kernel
theorem dL_law_1131 : decode cL_law 1131 = .ok (.iload 4, 2) := by decide +kernel
theorem dL_law_1133 : decode cL_law 1133 = .ok (.iconst 1, 1) := by decide +kernel
theorem dL_law_1134 : decode cL_law 1134 = .ok (.iadd, 1) := by decide +kernel
theorem dL_law_1135 : decode cL_law 1135 = .ok (.iaload, 1) := by decide +kernel
theorem dL_law_1136 : decode cL_law 1136 = .ok (.invokevirtual 160, 3) := by decide +kernel
theorem dL_law_1139 : decode cL_law 1139 = .ok (.istore 6, 2) := by decide +kernel
theorem dL_law_1141 : decode cL_law 1141 = .ok (.aload_n 2, 1) := by decide +kernel
theorem dL_law_1142 : decode cL_law 1142 = .ok (.invokevirtual 115, 3) := by decide +kernel
theorem dL_law_1145 : decode cL_law 1145 = .ok (.iload 5, 2) := by decide +kernel
theorem dL_law_1147 : decode cL_law 1147 = .ok (.if_icmp .eq 5, 3) := by decide +kernel
theorem dL_law_1150 : decode cL_law 1150 = .ok (.iconst 0, 1) := by decide +kernel
theorem dL_law_1151 : decode cL_law 1151 = .ok (.ireturn, 1) := by decide +kernel
theorem dL_law_1152 : decode cL_law 1152 = .ok (.iload 5, 2) := by decide +kernel
theorem dL_law_1154 : decode cL_law 1154 = .ok (.ifCond .ne 15, 3) := by decide +kernel
theorem dL_law_1157 : decode cL_law 1157 = .ok (.aload_n 3, 1) := by decide +kernel
theorem dL_law_1158 : decode cL_law 1158 = .ok (.iconst 0, 1) := by decide +kernel
theorem dL_law_1159 : decode cL_law 1159 = .ok (.laload, 1) := by decide +kernel
theorem dL_law_1160 : decode cL_law 1160 = .ok (.iload 6, 2) := by decide +kernel
theorem dL_law_1162 : decode cL_law 1162 = .ok (.i2l, 1) := by decide +kernel
theorem dL_law_1163 : decode cL_law 1163 = .ok (.lcmp, 1) := by decide +kernel
theorem dL_law_1164 : decode cL_law 1164 = .ok (.ifCond .eq 5, 3) := by decide +kernel
theorem dL_law_1167 : decode cL_law 1167 = .ok (.iconst 0, 1) := by decide +kernel
theorem dL_law_1168 : decode cL_law 1168 = .ok (.ireturn, 1) := by decide +kernel
theorem dL_law_1169 : decode cL_law 1169 = .ok (.goto 923, 3) := by decide +kernel
theorem dL_law_1172 : decode cL_law 1172 = .ok (.aload_n 1, 1) := by decide +kernel
theorem dL_law_1173 : decode cL_law 1173 = .ok (.aload_n 0, 1) := by decide +kernel
theorem dL_law_1174 : decode cL_law 1174 = .ok (.iload 4, 2) := by decide +kernel
theorem dL_law_1176 : decode cL_law 1176 = .ok (.iconst 1, 1) := by decide +kernel
theorem dL_law_1177 : decode cL_law 1177 = .ok (.iadd, 1) := by decide +kernel
theorem dL_law_1178 : decode cL_law 1178 = .ok (.iaload, 1) := by decide +kernel
theorem dL_law_1179 : decode cL_law 1179 = .ok (.aload_n 0, 1) := by decide +kernel
theorem dL_law_1180 : decode cL_law 1180 = .ok (.iload 4, 2) := by decide +kernel
theorem dL_law_1182 : decode cL_law 1182 = .ok (.iconst 2, 1) := by decide +kernel
theorem dL_law_1183 : decode cL_law 1183 = .ok (.iadd, 1) := by decide +kernel
theorem dL_law_1184 : decode cL_law 1184 = .ok (.iaload, 1) := by decide +kernel
theorem dL_law_1185 : decode cL_law 1185 = .ok (.aload_n 0, 1) := by decide +kernel
theorem dL_law_1186 : decode cL_law 1186 = .ok (.iload 4, 2) := by decide +kernel
theorem dL_law_1188 : decode cL_law 1188 = .ok (.iconst 3, 1) := by decide +kernel
theorem dL_law_1189 : decode cL_law 1189 = .ok (.iadd, 1) := by decide +kernel
theorem dL_law_1190 : decode cL_law 1190 = .ok (.iaload, 1) := by decide +kernel
theorem dL_law_1191 : decode cL_law 1191 = .ok (.aload_n 3, 1) := by decide +kernel
theorem dL_law_1192 : decode cL_law 1192 = .ok (.invokestatic 161, 3) := by decide +kernel
theorem dL_law_1195 : decode cL_law 1195 = .ok (.istore 5, 2) := by decide +kernel
theorem dL_law_1197 : decode cL_law 1197 = .ok (.aload_n 2, 1) := by decide +kernel
theorem dL_law_1198 : decode cL_law 1198 = .ok (.aload_n 0, 1) := by decide +kernel
theorem dL_law_1199 : decode cL_law 1199 = .ok (.iload 4, 2) := by decide +kernel
theorem dL_law_1201 : decode cL_law 1201 = .ok (.iconst 1, 1) := by decide +kernel
theorem dL_law_1202 : decode cL_law 1202 = .ok (.iadd, 1) := by decide +kernel
theorem dL_law_1203 : decode cL_law 1203 = .ok (.iaload, 1) := by decide +kernel
theorem dL_law_1204 : decode cL_law 1204 = .ok (.aload_n 0, 1) := by decide +kernel
theorem dL_law_1205 : decode cL_law 1205 = .ok (.iload 4, 2) := by decide +kernel
theorem dL_law_1207 : decode cL_law 1207 = .ok (.iconst 2, 1) := by decide +kernel
theorem dL_law_1208 : decode cL_law 1208 = .ok (.iadd, 1) := by decide +kernel
theorem dL_law_1209 : decode cL_law 1209 = .ok (.iaload, 1) := by decide +kernel
theorem dL_law_1210 : decode cL_law 1210 = .ok (.aload_n 0, 1) := by decide +kernel
theorem dL_law_1211 : decode cL_law 1211 = .ok (.iload 4, 2) := by decide +kernel
theorem dL_law_1213 : decode cL_law 1213 = .ok (.iconst 3, 1) := by decide +kernel
theorem dL_law_1214 : decode cL_law 1214 = .ok (.iadd, 1) := by decide +kernel
theorem dL_law_1215 : decode cL_law 1215 = .ok (.iaload, 1) := by decide +kernel
theorem dL_law_1216 : decode cL_law 1216 = .ok (.invokevirtual 163, 3) := by decide +kernel
theorem dL_law_1219 : decode cL_law 1219 = .ok (.istore 6, 2) := by decide +kernel
theorem dL_law_1221 : decode cL_law 1221 = .ok (.aload_n 2, 1) := by decide +kernel
theorem dL_law_1222 : decode cL_law 1222 = .ok (.invokevirtual 115, 3) := by decide +kernel
theorem dL_law_1225 : decode cL_law 1225 = .ok (.iload 5, 2) := by decide +kernel
theorem dL_law_1227 : decode cL_law 1227 = .ok (.if_icmp .eq 5, 3) := by decide +kernel
theorem dL_law_1230 : decode cL_law 1230 = .ok (.iconst 0, 1) := by decide +kernel
theorem dL_law_1231 : decode cL_law 1231 = .ok (.ireturn, 1) := by decide +kernel
theorem dL_law_1232 : decode cL_law 1232 = .ok (.iload 5, 2) := by decide +kernel
theorem dL_law_1234 : decode cL_law 1234 = .ok (.ifCond .ne 15, 3) := by decide +kernel
theorem dL_law_1237 : decode cL_law 1237 = .ok (.aload_n 3, 1) := by decide +kernel
theorem dL_law_1238 : decode cL_law 1238 = .ok (.iconst 0, 1) := by decide +kernel
theorem dL_law_1239 : decode cL_law 1239 = .ok (.laload, 1) := by decide +kernel
theorem dL_law_1240 : decode cL_law 1240 = .ok (.iload 6, 2) := by decide +kernel
theorem dL_law_1242 : decode cL_law 1242 = .ok (.i2l, 1) := by decide +kernel
theorem dL_law_1243 : decode cL_law 1243 = .ok (.lcmp, 1) := by decide +kernel
theorem dL_law_1244 : decode cL_law 1244 = .ok (.ifCond .eq 5, 3) := by decide +kernel
theorem dL_law_1247 : decode cL_law 1247 = .ok (.iconst 0, 1) := by decide +kernel
theorem dL_law_1248 : decode cL_law 1248 = .ok (.ireturn, 1) := by decide +kernel
theorem dL_law_1249 : decode cL_law 1249 = .ok (.goto 843, 3) := by decide +kernel
theorem dL_law_1252 : decode cL_law 1252 = .ok (.aload_n 1, 1) := by decide +kernel
theorem dL_law_1253 : decode cL_law 1253 = .ok (.aload_n 0, 1) := by decide +kernel
theorem dL_law_1254 : decode cL_law 1254 = .ok (.iload 4, 2) := by decide +kernel
theorem dL_law_1256 : decode cL_law 1256 = .ok (.iconst 1, 1) := by decide +kernel
theorem dL_law_1257 : decode cL_law 1257 = .ok (.iadd, 1) := by decide +kernel
theorem dL_law_1258 : decode cL_law 1258 = .ok (.iaload, 1) := by decide +kernel
theorem dL_law_1259 : decode cL_law 1259 = .ok (.aload_n 3, 1) := by decide +kernel
theorem dL_law_1260 : decode cL_law 1260 = .ok (.invokestatic 164, 3) := by decide +kernel
theorem dL_law_1263 : decode cL_law 1263 = .ok (.istore 5, 2) := by decide +kernel
theorem dL_law_1265 : decode cL_law 1265 = .ok (.aload_n 2, 1) := by decide +kernel
theorem dL_law_1266 : decode cL_law 1266 = .ok (.aload_n 0, 1) := by decide +kernel
theorem dL_law_1267 : decode cL_law 1267 = .ok (.iload 4, 2) := by decide +kernel
theorem dL_law_1269 : decode cL_law 1269 = .ok (.iconst 1, 1) := by decide +kernel
theorem dL_law_1270 : decode cL_law 1270 = .ok (.iadd, 1) := by decide +kernel
theorem dL_law_1271 : decode cL_law 1271 = .ok (.iaload, 1) := by decide +kernel
theorem dL_law_1272 : decode cL_law 1272 = .ok (.invokevirtual 166, 3) := by decide +kernel
theorem dL_law_1275 : decode cL_law 1275 = .ok (.istore 6, 2) := by decide +kernel
theorem dL_law_1277 : decode cL_law 1277 = .ok (.aload_n 2, 1) := by decide +kernel
theorem dL_law_1278 : decode cL_law 1278 = .ok (.invokevirtual 115, 3) := by decide +kernel
theorem dL_law_1281 : decode cL_law 1281 = .ok (.iload 5, 2) := by decide +kernel
theorem dL_law_1283 : decode cL_law 1283 = .ok (.if_icmp .eq 5, 3) := by decide +kernel
theorem dL_law_1286 : decode cL_law 1286 = .ok (.iconst 0, 1) := by decide +kernel
theorem dL_law_1287 : decode cL_law 1287 = .ok (.ireturn, 1) := by decide +kernel
theorem dL_law_1288 : decode cL_law 1288 = .ok (.iload 5, 2) := by decide +kernel
theorem dL_law_1290 : decode cL_law 1290 = .ok (.ifCond .ne 15, 3) := by decide +kernel
theorem dL_law_1293 : decode cL_law 1293 = .ok (.aload_n 3, 1) := by decide +kernel
theorem dL_law_1294 : decode cL_law 1294 = .ok (.iconst 0, 1) := by decide +kernel
theorem dL_law_1295 : decode cL_law 1295 = .ok (.laload, 1) := by decide +kernel
theorem dL_law_1296 : decode cL_law 1296 = .ok (.iload 6, 2) := by decide +kernel
theorem dL_law_1298 : decode cL_law 1298 = .ok (.i2l, 1) := by decide +kernel
theorem dL_law_1299 : decode cL_law 1299 = .ok (.lcmp, 1) := by decide +kernel
theorem dL_law_1300 : decode cL_law 1300 = .ok (.ifCond .eq 5, 3) := by decide +kernel
theorem dL_law_1303 : decode cL_law 1303 = .ok (.iconst 0, 1) := by decide +kernel
theorem dL_law_1304 : decode cL_law 1304 = .ok (.ireturn, 1) := by decide +kernel
theorem dL_law_1305 : decode cL_law 1305 = .ok (.goto 787, 3) := by decide +kernel
theorem dL_law_1308 : decode cL_law 1308 = .ok (.aload_n 1, 1) := by decide +kernel
theorem dL_law_1309 : decode cL_law 1309 = .ok (.aload_n 0, 1) := by decide +kernel
theorem dL_law_1310 : decode cL_law 1310 = .ok (.iload 4, 2) := by decide +kernel
theorem dL_law_1312 : decode cL_law 1312 = .ok (.iconst 1, 1) := by decide +kernel
theorem dL_law_1313 : decode cL_law 1313 = .ok (.iadd, 1) := by decide +kernel
theorem dL_law_1314 : decode cL_law 1314 = .ok (.iaload, 1) := by decide +kernel
theorem dL_law_1315 : decode cL_law 1315 = .ok (.aload_n 0, 1) := by decide +kernel
theorem dL_law_1316 : decode cL_law 1316 = .ok (.iload 4, 2) := by decide +kernel
theorem dL_law_1318 : decode cL_law 1318 = .ok (.iconst 2, 1) := by decide +kernel
theorem dL_law_1319 : decode cL_law 1319 = .ok (.iadd, 1) := by decide +kernel
theorem dL_law_1320 : decode cL_law 1320 = .ok (.iaload, 1) := by decide +kernel
theorem dL_law_1321 : decode cL_law 1321 = .ok (.aload_n 0, 1) := by decide +kernel
theorem dL_law_1322 : decode cL_law 1322 = .ok (.iload 4, 2) := by decide +kernel
theorem dL_law_1324 : decode cL_law 1324 = .ok (.iconst 3, 1) := by decide +kernel
theorem dL_law_1325 : decode cL_law 1325 = .ok (.iadd, 1) := by decide +kernel
theorem dL_law_1326 : decode cL_law 1326 = .ok (.iaload, 1) := by decide +kernel
theorem dL_law_1327 : decode cL_law 1327 = .ok (.aload_n 3, 1) := by decide +kernel
theorem dL_law_1328 : decode cL_law 1328 = .ok (.invokestatic 167, 3) := by decide +kernel
theorem dL_law_1331 : decode cL_law 1331 = .ok (.istore 5, 2) := by decide +kernel
theorem dL_law_1333 : decode cL_law 1333 = .ok (.aload_n 2, 1) := by decide +kernel
theorem dL_law_1334 : decode cL_law 1334 = .ok (.aload_n 0, 1) := by decide +kernel
theorem dL_law_1335 : decode cL_law 1335 = .ok (.iload 4, 2) := by decide +kernel
theorem dL_law_1337 : decode cL_law 1337 = .ok (.iconst 1, 1) := by decide +kernel
theorem dL_law_1338 : decode cL_law 1338 = .ok (.iadd, 1) := by decide +kernel
theorem dL_law_1339 : decode cL_law 1339 = .ok (.iaload, 1) := by decide +kernel
theorem dL_law_1340 : decode cL_law 1340 = .ok (.aload_n 0, 1) := by decide +kernel
theorem dL_law_1341 : decode cL_law 1341 = .ok (.iload 4, 2) := by decide +kernel
theorem dL_law_1343 : decode cL_law 1343 = .ok (.iconst 2, 1) := by decide +kernel
theorem dL_law_1344 : decode cL_law 1344 = .ok (.iadd, 1) := by decide +kernel
theorem dL_law_1345 : decode cL_law 1345 = .ok (.iaload, 1) := by decide +kernel
theorem dL_law_1346 : decode cL_law 1346 = .ok (.aload_n 0, 1) := by decide +kernel
theorem dL_law_1347 : decode cL_law 1347 = .ok (.iload 4, 2) := by decide +kernel
theorem dL_law_1349 : decode cL_law 1349 = .ok (.iconst 3, 1) := by decide +kernel
theorem dL_law_1350 : decode cL_law 1350 = .ok (.iadd, 1) := by decide +kernel
theorem dL_law_1351 : decode cL_law 1351 = .ok (.iaload, 1) := by decide +kernel
theorem dL_law_1352 : decode cL_law 1352 = .ok (.invokevirtual 169, 3) := by decide +kernel
theorem dL_law_1355 : decode cL_law 1355 = .ok (.istore 6, 2) := by decide +kernel
theorem dL_law_1357 : decode cL_law 1357 = .ok (.aload_n 2, 1) := by decide +kernel
theorem dL_law_1358 : decode cL_law 1358 = .ok (.invokevirtual 115, 3) := by decide +kernel
theorem dL_law_1361 : decode cL_law 1361 = .ok (.iload 5, 2) := by decide +kernel
theorem dL_law_1363 : decode cL_law 1363 = .ok (.if_icmp .eq 5, 3) := by decide +kernel
theorem dL_law_1366 : decode cL_law 1366 = .ok (.iconst 0, 1) := by decide +kernel
theorem dL_law_1367 : decode cL_law 1367 = .ok (.ireturn, 1) := by decide +kernel
theorem dL_law_1368 : decode cL_law 1368 = .ok (.iload 5, 2) := by decide +kernel
theorem dL_law_1370 : decode cL_law 1370 = .ok (.ifCond .ne 15, 3) := by decide +kernel
theorem dL_law_1373 : decode cL_law 1373 = .ok (.aload_n 3, 1) := by decide +kernel
theorem dL_law_1374 : decode cL_law 1374 = .ok (.iconst 0, 1) := by decide +kernel
theorem dL_law_1375 : decode cL_law 1375 = .ok (.laload, 1) := by decide +kernel
theorem dL_law_1376 : decode cL_law 1376 = .ok (.iload 6, 2) := by decide +kernel
theorem dL_law_1378 : decode cL_law 1378 = .ok (.i2l, 1) := by decide +kernel
theorem dL_law_1379 : decode cL_law 1379 = .ok (.lcmp, 1) := by decide +kernel
theorem dL_law_1380 : decode cL_law 1380 = .ok (.ifCond .eq 5, 3) := by decide +kernel
theorem dL_law_1383 : decode cL_law 1383 = .ok (.iconst 0, 1) := by decide +kernel
theorem dL_law_1384 : decode cL_law 1384 = .ok (.ireturn, 1) := by decide +kernel
theorem dL_law_1385 : decode cL_law 1385 = .ok (.goto 707, 3) := by decide +kernel
theorem dL_law_1388 : decode cL_law 1388 = .ok (.aload_n 1, 1) := by decide +kernel
theorem dL_law_1389 : decode cL_law 1389 = .ok (.aload_n 0, 1) := by decide +kernel
theorem dL_law_1390 : decode cL_law 1390 = .ok (.iload 4, 2) := by decide +kernel
theorem dL_law_1392 : decode cL_law 1392 = .ok (.iconst 1, 1) := by decide +kernel
theorem dL_law_1393 : decode cL_law 1393 = .ok (.iadd, 1) := by decide +kernel
theorem dL_law_1394 : decode cL_law 1394 = .ok (.iaload, 1) := by decide +kernel
theorem dL_law_1395 : decode cL_law 1395 = .ok (.aload_n 0, 1) := by decide +kernel
theorem dL_law_1396 : decode cL_law 1396 = .ok (.iload 4, 2) := by decide +kernel
theorem dL_law_1398 : decode cL_law 1398 = .ok (.iconst 2, 1) := by decide +kernel
theorem dL_law_1399 : decode cL_law 1399 = .ok (.iadd, 1) := by decide +kernel
theorem dL_law_1400 : decode cL_law 1400 = .ok (.iaload, 1) := by decide +kernel
theorem dL_law_1401 : decode cL_law 1401 = .ok (.aload_n 3, 1) := by decide +kernel
theorem dL_law_1402 : decode cL_law 1402 = .ok (.invokestatic 170, 3) := by decide +kernel
theorem dL_law_1405 : decode cL_law 1405 = .ok (.istore 5, 2) := by decide +kernel
theorem dL_law_1407 : decode cL_law 1407 = .ok (.aload_n 2, 1) := by decide +kernel
theorem dL_law_1408 : decode cL_law 1408 = .ok (.aload_n 0, 1) := by decide +kernel
theorem dL_law_1409 : decode cL_law 1409 = .ok (.iload 4, 2) := by decide +kernel
theorem dL_law_1411 : decode cL_law 1411 = .ok (.iconst 1, 1) := by decide +kernel
theorem dL_law_1412 : decode cL_law 1412 = .ok (.iadd, 1) := by decide +kernel
theorem dL_law_1413 : decode cL_law 1413 = .ok (.iaload, 1) := by decide +kernel
theorem dL_law_1414 : decode cL_law 1414 = .ok (.aload_n 0, 1) := by decide +kernel
theorem dL_law_1415 : decode cL_law 1415 = .ok (.iload 4, 2) := by decide +kernel
theorem dL_law_1417 : decode cL_law 1417 = .ok (.iconst 2, 1) := by decide +kernel
theorem dL_law_1418 : decode cL_law 1418 = .ok (.iadd, 1) := by decide +kernel
theorem dL_law_1419 : decode cL_law 1419 = .ok (.iaload, 1) := by decide +kernel
theorem dL_law_1420 : decode cL_law 1420 = .ok (.invokevirtual 172, 3) := by decide +kernel
theorem dL_law_1423 : decode cL_law 1423 = .ok (.istore 6, 2) := by decide +kernel
theorem dL_law_1425 : decode cL_law 1425 = .ok (.aload_n 2, 1) := by decide +kernel
theorem dL_law_1426 : decode cL_law 1426 = .ok (.invokevirtual 115, 3) := by decide +kernel
theorem dL_law_1429 : decode cL_law 1429 = .ok (.iload 5, 2) := by decide +kernel
theorem dL_law_1431 : decode cL_law 1431 = .ok (.if_icmp .eq 5, 3) := by decide +kernel
theorem dL_law_1434 : decode cL_law 1434 = .ok (.iconst 0, 1) := by decide +kernel
theorem dL_law_1435 : decode cL_law 1435 = .ok (.ireturn, 1) := by decide +kernel
theorem dL_law_1436 : decode cL_law 1436 = .ok (.iload 5, 2) := by decide +kernel
theorem dL_law_1438 : decode cL_law 1438 = .ok (.ifCond .ne 15, 3) := by decide +kernel
theorem dL_law_1441 : decode cL_law 1441 = .ok (.aload_n 3, 1) := by decide +kernel
theorem dL_law_1442 : decode cL_law 1442 = .ok (.iconst 0, 1) := by decide +kernel
theorem dL_law_1443 : decode cL_law 1443 = .ok (.laload, 1) := by decide +kernel
theorem dL_law_1444 : decode cL_law 1444 = .ok (.iload 6, 2) := by decide +kernel
theorem dL_law_1446 : decode cL_law 1446 = .ok (.i2l, 1) := by decide +kernel
theorem dL_law_1447 : decode cL_law 1447 = .ok (.lcmp, 1) := by decide +kernel
theorem dL_law_1448 : decode cL_law 1448 = .ok (.ifCond .eq 5, 3) := by decide +kernel
theorem dL_law_1451 : decode cL_law 1451 = .ok (.iconst 0, 1) := by decide +kernel
theorem dL_law_1452 : decode cL_law 1452 = .ok (.ireturn, 1) := by decide +kernel
theorem dL_law_1453 : decode cL_law 1453 = .ok (.goto 639, 3) := by decide +kernel
theorem dL_law_1456 : decode cL_law 1456 = .ok (.aload_n 1, 1) := by decide +kernel
theorem dL_law_1457 : decode cL_law 1457 = .ok (.aload_n 0, 1) := by decide +kernel
theorem dL_law_1458 : decode cL_law 1458 = .ok (.iload 4, 2) := by decide +kernel
theorem dL_law_1460 : decode cL_law 1460 = .ok (.iconst 1, 1) := by decide +kernel
theorem dL_law_1461 : decode cL_law 1461 = .ok (.iadd, 1) := by decide +kernel
theorem dL_law_1462 : decode cL_law 1462 = .ok (.iaload, 1) := by decide +kernel
theorem dL_law_1463 : decode cL_law 1463 = .ok (.aload_n 0, 1) := by decide +kernel
theorem dL_law_1464 : decode cL_law 1464 = .ok (.iload 4, 2) := by decide +kernel
theorem dL_law_1466 : decode cL_law 1466 = .ok (.iconst 2, 1) := by decide +kernel
theorem dL_law_1467 : decode cL_law 1467 = .ok (.iadd, 1) := by decide +kernel
theorem dL_law_1468 : decode cL_law 1468 = .ok (.iaload, 1) := by decide +kernel
theorem dL_law_1469 : decode cL_law 1469 = .ok (.aload_n 3, 1) := by decide +kernel
theorem dL_law_1470 : decode cL_law 1470 = .ok (.invokestatic 173, 3) := by decide +kernel
theorem dL_law_1473 : decode cL_law 1473 = .ok (.istore 5, 2) := by decide +kernel
theorem dL_law_1475 : decode cL_law 1475 = .ok (.aload_n 2, 1) := by decide +kernel
theorem dL_law_1476 : decode cL_law 1476 = .ok (.aload_n 0, 1) := by decide +kernel
theorem dL_law_1477 : decode cL_law 1477 = .ok (.iload 4, 2) := by decide +kernel
theorem dL_law_1479 : decode cL_law 1479 = .ok (.iconst 1, 1) := by decide +kernel
theorem dL_law_1480 : decode cL_law 1480 = .ok (.iadd, 1) := by decide +kernel
theorem dL_law_1481 : decode cL_law 1481 = .ok (.iaload, 1) := by decide +kernel
theorem dL_law_1482 : decode cL_law 1482 = .ok (.aload_n 0, 1) := by decide +kernel
theorem dL_law_1483 : decode cL_law 1483 = .ok (.iload 4, 2) := by decide +kernel
theorem dL_law_1485 : decode cL_law 1485 = .ok (.iconst 2, 1) := by decide +kernel
theorem dL_law_1486 : decode cL_law 1486 = .ok (.iadd, 1) := by decide +kernel
theorem dL_law_1487 : decode cL_law 1487 = .ok (.iaload, 1) := by decide +kernel
theorem dL_law_1488 : decode cL_law 1488 = .ok (.invokevirtual 175, 3) := by decide +kernel
theorem dL_law_1491 : decode cL_law 1491 = .ok (.istore 6, 2) := by decide +kernel
theorem dL_law_1493 : decode cL_law 1493 = .ok (.aload_n 2, 1) := by decide +kernel
theorem dL_law_1494 : decode cL_law 1494 = .ok (.invokevirtual 115, 3) := by decide +kernel
theorem dL_law_1497 : decode cL_law 1497 = .ok (.iload 5, 2) := by decide +kernel
theorem dL_law_1499 : decode cL_law 1499 = .ok (.if_icmp .eq 5, 3) := by decide +kernel
theorem dL_law_1502 : decode cL_law 1502 = .ok (.iconst 0, 1) := by decide +kernel
theorem dL_law_1503 : decode cL_law 1503 = .ok (.ireturn, 1) := by decide +kernel
theorem dL_law_1504 : decode cL_law 1504 = .ok (.iload 5, 2) := by decide +kernel
theorem dL_law_1506 : decode cL_law 1506 = .ok (.ifCond .ne 15, 3) := by decide +kernel
theorem dL_law_1509 : decode cL_law 1509 = .ok (.aload_n 3, 1) := by decide +kernel
theorem dL_law_1510 : decode cL_law 1510 = .ok (.iconst 0, 1) := by decide +kernel
theorem dL_law_1511 : decode cL_law 1511 = .ok (.laload, 1) := by decide +kernel
theorem dL_law_1512 : decode cL_law 1512 = .ok (.iload 6, 2) := by decide +kernel
theorem dL_law_1514 : decode cL_law 1514 = .ok (.i2l, 1) := by decide +kernel
theorem dL_law_1515 : decode cL_law 1515 = .ok (.lcmp, 1) := by decide +kernel
theorem dL_law_1516 : decode cL_law 1516 = .ok (.ifCond .eq 5, 3) := by decide +kernel
theorem dL_law_1519 : decode cL_law 1519 = .ok (.iconst 0, 1) := by decide +kernel
theorem dL_law_1520 : decode cL_law 1520 = .ok (.ireturn, 1) := by decide +kernel
theorem dL_law_1521 : decode cL_law 1521 = .ok (.goto 571, 3) := by decide +kernel
theorem dL_law_1524 : decode cL_law 1524 = .ok (.aload_n 1, 1) := by decide +kernel
theorem dL_law_1525 : decode cL_law 1525 = .ok (.aload_n 0, 1) := by decide +kernel
theorem dL_law_1526 : decode cL_law 1526 = .ok (.iload 4, 2) := by decide +kernel
theorem dL_law_1528 : decode cL_law 1528 = .ok (.iconst 1, 1) := by decide +kernel
theorem dL_law_1529 : decode cL_law 1529 = .ok (.iadd, 1) := by decide +kernel
theorem dL_law_1530 : decode cL_law 1530 = .ok (.iaload, 1) := by decide +kernel
theorem dL_law_1531 : decode cL_law 1531 = .ok (.aload_n 0, 1) := by decide +kernel
theorem dL_law_1532 : decode cL_law 1532 = .ok (.iload 4, 2) := by decide +kernel
theorem dL_law_1534 : decode cL_law 1534 = .ok (.iconst 2, 1) := by decide +kernel
theorem dL_law_1535 : decode cL_law 1535 = .ok (.iadd, 1) := by decide +kernel
theorem dL_law_1536 : decode cL_law 1536 = .ok (.iaload, 1) := by decide +kernel
theorem dL_law_1537 : decode cL_law 1537 = .ok (.aload_n 3, 1) := by decide +kernel
theorem dL_law_1538 : decode cL_law 1538 = .ok (.invokestatic 176, 3) := by decide +kernel
theorem dL_law_1541 : decode cL_law 1541 = .ok (.istore 5, 2) := by decide +kernel
theorem dL_law_1543 : decode cL_law 1543 = .ok (.aload_n 2, 1) := by decide +kernel
theorem dL_law_1544 : decode cL_law 1544 = .ok (.aload_n 0, 1) := by decide +kernel
theorem dL_law_1545 : decode cL_law 1545 = .ok (.iload 4, 2) := by decide +kernel
theorem dL_law_1547 : decode cL_law 1547 = .ok (.iconst 1, 1) := by decide +kernel
theorem dL_law_1548 : decode cL_law 1548 = .ok (.iadd, 1) := by decide +kernel
theorem dL_law_1549 : decode cL_law 1549 = .ok (.iaload, 1) := by decide +kernel
theorem dL_law_1550 : decode cL_law 1550 = .ok (.aload_n 0, 1) := by decide +kernel
theorem dL_law_1551 : decode cL_law 1551 = .ok (.iload 4, 2) := by decide +kernel
theorem dL_law_1553 : decode cL_law 1553 = .ok (.iconst 2, 1) := by decide +kernel
theorem dL_law_1554 : decode cL_law 1554 = .ok (.iadd, 1) := by decide +kernel
theorem dL_law_1555 : decode cL_law 1555 = .ok (.iaload, 1) := by decide +kernel
theorem dL_law_1556 : decode cL_law 1556 = .ok (.invokevirtual 178, 3) := by decide +kernel
theorem dL_law_1559 : decode cL_law 1559 = .ok (.istore 6, 2) := by decide +kernel
theorem dL_law_1561 : decode cL_law 1561 = .ok (.aload_n 2, 1) := by decide +kernel
theorem dL_law_1562 : decode cL_law 1562 = .ok (.invokevirtual 115, 3) := by decide +kernel
theorem dL_law_1565 : decode cL_law 1565 = .ok (.iload 5, 2) := by decide +kernel
theorem dL_law_1567 : decode cL_law 1567 = .ok (.if_icmp .eq 5, 3) := by decide +kernel
theorem dL_law_1570 : decode cL_law 1570 = .ok (.iconst 0, 1) := by decide +kernel
theorem dL_law_1571 : decode cL_law 1571 = .ok (.ireturn, 1) := by decide +kernel
theorem dL_law_1572 : decode cL_law 1572 = .ok (.iload 5, 2) := by decide +kernel
theorem dL_law_1574 : decode cL_law 1574 = .ok (.ifCond .ne 15, 3) := by decide +kernel
theorem dL_law_1577 : decode cL_law 1577 = .ok (.aload_n 3, 1) := by decide +kernel
theorem dL_law_1578 : decode cL_law 1578 = .ok (.iconst 0, 1) := by decide +kernel
theorem dL_law_1579 : decode cL_law 1579 = .ok (.laload, 1) := by decide +kernel
theorem dL_law_1580 : decode cL_law 1580 = .ok (.iload 6, 2) := by decide +kernel
theorem dL_law_1582 : decode cL_law 1582 = .ok (.i2l, 1) := by decide +kernel
theorem dL_law_1583 : decode cL_law 1583 = .ok (.lcmp, 1) := by decide +kernel
theorem dL_law_1584 : decode cL_law 1584 = .ok (.ifCond .eq 5, 3) := by decide +kernel
theorem dL_law_1587 : decode cL_law 1587 = .ok (.iconst 0, 1) := by decide +kernel
theorem dL_law_1588 : decode cL_law 1588 = .ok (.ireturn, 1) := by decide +kernel
theorem dL_law_1589 : decode cL_law 1589 = .ok (.goto 503, 3) := by decide +kernel
theorem dL_law_1592 : decode cL_law 1592 = .ok (.aload_n 1, 1) := by decide +kernel
theorem dL_law_1593 : decode cL_law 1593 = .ok (.aload_n 0, 1) := by decide +kernel
theorem dL_law_1594 : decode cL_law 1594 = .ok (.iload 4, 2) := by decide +kernel
theorem dL_law_1596 : decode cL_law 1596 = .ok (.iconst 1, 1) := by decide +kernel
theorem dL_law_1597 : decode cL_law 1597 = .ok (.iadd, 1) := by decide +kernel
theorem dL_law_1598 : decode cL_law 1598 = .ok (.iaload, 1) := by decide +kernel
theorem dL_law_1599 : decode cL_law 1599 = .ok (.aload_n 0, 1) := by decide +kernel
theorem dL_law_1600 : decode cL_law 1600 = .ok (.iload 4, 2) := by decide +kernel
theorem dL_law_1602 : decode cL_law 1602 = .ok (.iconst 2, 1) := by decide +kernel
theorem dL_law_1603 : decode cL_law 1603 = .ok (.iadd, 1) := by decide +kernel
theorem dL_law_1604 : decode cL_law 1604 = .ok (.iaload, 1) := by decide +kernel
theorem dL_law_1605 : decode cL_law 1605 = .ok (.aload_n 3, 1) := by decide +kernel
theorem dL_law_1606 : decode cL_law 1606 = .ok (.invokestatic 179, 3) := by decide +kernel
theorem dL_law_1609 : decode cL_law 1609 = .ok (.istore 5, 2) := by decide +kernel
theorem dL_law_1611 : decode cL_law 1611 = .ok (.aload_n 2, 1) := by decide +kernel
theorem dL_law_1612 : decode cL_law 1612 = .ok (.aload_n 0, 1) := by decide +kernel
theorem dL_law_1613 : decode cL_law 1613 = .ok (.iload 4, 2) := by decide +kernel
theorem dL_law_1615 : decode cL_law 1615 = .ok (.iconst 1, 1) := by decide +kernel
theorem dL_law_1616 : decode cL_law 1616 = .ok (.iadd, 1) := by decide +kernel
theorem dL_law_1617 : decode cL_law 1617 = .ok (.iaload, 1) := by decide +kernel
theorem dL_law_1618 : decode cL_law 1618 = .ok (.aload_n 0, 1) := by decide +kernel
theorem dL_law_1619 : decode cL_law 1619 = .ok (.iload 4, 2) := by decide +kernel
theorem dL_law_1621 : decode cL_law 1621 = .ok (.iconst 2, 1) := by decide +kernel
theorem dL_law_1622 : decode cL_law 1622 = .ok (.iadd, 1) := by decide +kernel
theorem dL_law_1623 : decode cL_law 1623 = .ok (.iaload, 1) := by decide +kernel
theorem dL_law_1624 : decode cL_law 1624 = .ok (.invokevirtual 181, 3) := by decide +kernel
theorem dL_law_1627 : decode cL_law 1627 = .ok (.istore 6, 2) := by decide +kernel
theorem dL_law_1629 : decode cL_law 1629 = .ok (.aload_n 2, 1) := by decide +kernel
theorem dL_law_1630 : decode cL_law 1630 = .ok (.invokevirtual 115, 3) := by decide +kernel
theorem dL_law_1633 : decode cL_law 1633 = .ok (.iload 5, 2) := by decide +kernel
theorem dL_law_1635 : decode cL_law 1635 = .ok (.if_icmp .eq 5, 3) := by decide +kernel
theorem dL_law_1638 : decode cL_law 1638 = .ok (.iconst 0, 1) := by decide +kernel
theorem dL_law_1639 : decode cL_law 1639 = .ok (.ireturn, 1) := by decide +kernel
theorem dL_law_1640 : decode cL_law 1640 = .ok (.iload 5, 2) := by decide +kernel
theorem dL_law_1642 : decode cL_law 1642 = .ok (.ifCond .ne 15, 3) := by decide +kernel
theorem dL_law_1645 : decode cL_law 1645 = .ok (.aload_n 3, 1) := by decide +kernel
theorem dL_law_1646 : decode cL_law 1646 = .ok (.iconst 0, 1) := by decide +kernel
theorem dL_law_1647 : decode cL_law 1647 = .ok (.laload, 1) := by decide +kernel
theorem dL_law_1648 : decode cL_law 1648 = .ok (.iload 6, 2) := by decide +kernel
theorem dL_law_1650 : decode cL_law 1650 = .ok (.i2l, 1) := by decide +kernel
theorem dL_law_1651 : decode cL_law 1651 = .ok (.lcmp, 1) := by decide +kernel
theorem dL_law_1652 : decode cL_law 1652 = .ok (.ifCond .eq 5, 3) := by decide +kernel
theorem dL_law_1655 : decode cL_law 1655 = .ok (.iconst 0, 1) := by decide +kernel
theorem dL_law_1656 : decode cL_law 1656 = .ok (.ireturn, 1) := by decide +kernel
theorem dL_law_1657 : decode cL_law 1657 = .ok (.goto 435, 3) := by decide +kernel
theorem dL_law_1660 : decode cL_law 1660 = .ok (.aload_n 1, 1) := by decide +kernel
theorem dL_law_1661 : decode cL_law 1661 = .ok (.aload_n 0, 1) := by decide +kernel
theorem dL_law_1662 : decode cL_law 1662 = .ok (.iload 4, 2) := by decide +kernel
theorem dL_law_1664 : decode cL_law 1664 = .ok (.iconst 1, 1) := by decide +kernel
theorem dL_law_1665 : decode cL_law 1665 = .ok (.iadd, 1) := by decide +kernel
theorem dL_law_1666 : decode cL_law 1666 = .ok (.iaload, 1) := by decide +kernel
theorem dL_law_1667 : decode cL_law 1667 = .ok (.aload_n 3, 1) := by decide +kernel
theorem dL_law_1668 : decode cL_law 1668 = .ok (.invokestatic 182, 3) := by decide +kernel
theorem dL_law_1671 : decode cL_law 1671 = .ok (.istore 5, 2) := by decide +kernel
theorem dL_law_1673 : decode cL_law 1673 = .ok (.aload_n 2, 1) := by decide +kernel
theorem dL_law_1674 : decode cL_law 1674 = .ok (.aload_n 0, 1) := by decide +kernel
theorem dL_law_1675 : decode cL_law 1675 = .ok (.iload 4, 2) := by decide +kernel
theorem dL_law_1677 : decode cL_law 1677 = .ok (.iconst 1, 1) := by decide +kernel
theorem dL_law_1678 : decode cL_law 1678 = .ok (.iadd, 1) := by decide +kernel
theorem dL_law_1679 : decode cL_law 1679 = .ok (.iaload, 1) := by decide +kernel
theorem dL_law_1680 : decode cL_law 1680 = .ok (.invokevirtual 184, 3) := by decide +kernel
theorem dL_law_1683 : decode cL_law 1683 = .ok (.istore 6, 2) := by decide +kernel
theorem dL_law_1685 : decode cL_law 1685 = .ok (.aload_n 2, 1) := by decide +kernel
theorem dL_law_1686 : decode cL_law 1686 = .ok (.invokevirtual 115, 3) := by decide +kernel
theorem dL_law_1689 : decode cL_law 1689 = .ok (.iload 5, 2) := by decide +kernel
theorem dL_law_1691 : decode cL_law 1691 = .ok (.if_icmp .eq 5, 3) := by decide +kernel
theorem dL_law_1694 : decode cL_law 1694 = .ok (.iconst 0, 1) := by decide +kernel
theorem dL_law_1695 : decode cL_law 1695 = .ok (.ireturn, 1) := by decide +kernel
theorem dL_law_1696 : decode cL_law 1696 = .ok (.iload 5, 2) := by decide +kernel
theorem dL_law_1698 : decode cL_law 1698 = .ok (.ifCond .ne 15, 3) := by decide +kernel
theorem dL_law_1701 : decode cL_law 1701 = .ok (.aload_n 3, 1) := by decide +kernel
theorem dL_law_1702 : decode cL_law 1702 = .ok (.iconst 0, 1) := by decide +kernel
theorem dL_law_1703 : decode cL_law 1703 = .ok (.laload, 1) := by decide +kernel
theorem dL_law_1704 : decode cL_law 1704 = .ok (.iload 6, 2) := by decide +kernel
theorem dL_law_1706 : decode cL_law 1706 = .ok (.i2l, 1) := by decide +kernel
theorem dL_law_1707 : decode cL_law 1707 = .ok (.lcmp, 1) := by decide +kernel
theorem dL_law_1708 : decode cL_law 1708 = .ok (.ifCond .eq 5, 3) := by decide +kernel
theorem dL_law_1711 : decode cL_law 1711 = .ok (.iconst 0, 1) := by decide +kernel
theorem dL_law_1712 : decode cL_law 1712 = .ok (.ireturn, 1) := by decide +kernel
theorem dL_law_1713 : decode cL_law 1713 = .ok (.goto 379, 3) := by decide +kernel
theorem dL_law_1716 : decode cL_law 1716 = .ok (.aload_n 1, 1) := by decide +kernel
theorem dL_law_1717 : decode cL_law 1717 = .ok (.aload_n 0, 1) := by decide +kernel
theorem dL_law_1718 : decode cL_law 1718 = .ok (.iload 4, 2) := by decide +kernel
theorem dL_law_1720 : decode cL_law 1720 = .ok (.iconst 1, 1) := by decide +kernel
theorem dL_law_1721 : decode cL_law 1721 = .ok (.iadd, 1) := by decide +kernel
theorem dL_law_1722 : decode cL_law 1722 = .ok (.iaload, 1) := by decide +kernel
theorem dL_law_1723 : decode cL_law 1723 = .ok (.aload_n 3, 1) := by decide +kernel
theorem dL_law_1724 : decode cL_law 1724 = .ok (.invokestatic 185, 3) := by decide +kernel
theorem dL_law_1727 : decode cL_law 1727 = .ok (.istore 5, 2) := by decide +kernel
theorem dL_law_1729 : decode cL_law 1729 = .ok (.aload_n 2, 1) := by decide +kernel
theorem dL_law_1730 : decode cL_law 1730 = .ok (.aload_n 0, 1) := by decide +kernel
theorem dL_law_1731 : decode cL_law 1731 = .ok (.iload 4, 2) := by decide +kernel
theorem dL_law_1733 : decode cL_law 1733 = .ok (.iconst 1, 1) := by decide +kernel
theorem dL_law_1734 : decode cL_law 1734 = .ok (.iadd, 1) := by decide +kernel
theorem dL_law_1735 : decode cL_law 1735 = .ok (.iaload, 1) := by decide +kernel
theorem dL_law_1736 : decode cL_law 1736 = .ok (.invokevirtual 187, 3) := by decide +kernel
theorem dL_law_1739 : decode cL_law 1739 = .ok (.istore 6, 2) := by decide +kernel
theorem dL_law_1741 : decode cL_law 1741 = .ok (.aload_n 2, 1) := by decide +kernel
theorem dL_law_1742 : decode cL_law 1742 = .ok (.invokevirtual 115, 3) := by decide +kernel
theorem dL_law_1745 : decode cL_law 1745 = .ok (.iload 5, 2) := by decide +kernel
theorem dL_law_1747 : decode cL_law 1747 = .ok (.if_icmp .eq 5, 3) := by decide +kernel
theorem dL_law_1750 : decode cL_law 1750 = .ok (.iconst 0, 1) := by decide +kernel
theorem dL_law_1751 : decode cL_law 1751 = .ok (.ireturn, 1) := by decide +kernel
theorem dL_law_1752 : decode cL_law 1752 = .ok (.iload 5, 2) := by decide +kernel
theorem dL_law_1754 : decode cL_law 1754 = .ok (.ifCond .ne 15, 3) := by decide +kernel
theorem dL_law_1757 : decode cL_law 1757 = .ok (.aload_n 3, 1) := by decide +kernel
theorem dL_law_1758 : decode cL_law 1758 = .ok (.iconst 0, 1) := by decide +kernel
theorem dL_law_1759 : decode cL_law 1759 = .ok (.laload, 1) := by decide +kernel
theorem dL_law_1760 : decode cL_law 1760 = .ok (.iload 6, 2) := by decide +kernel
theorem dL_law_1762 : decode cL_law 1762 = .ok (.i2l, 1) := by decide +kernel
theorem dL_law_1763 : decode cL_law 1763 = .ok (.lcmp, 1) := by decide +kernel
theorem dL_law_1764 : decode cL_law 1764 = .ok (.ifCond .eq 5, 3) := by decide +kernel
theorem dL_law_1767 : decode cL_law 1767 = .ok (.iconst 0, 1) := by decide +kernel
theorem dL_law_1768 : decode cL_law 1768 = .ok (.ireturn, 1) := by decide +kernel
theorem dL_law_1769 : decode cL_law 1769 = .ok (.goto 323, 3) := by decide +kernel
theorem dL_law_1772 : decode cL_law 1772 = .ok (.aload_n 1, 1) := by decide +kernel
theorem dL_law_1773 : decode cL_law 1773 = .ok (.aload_n 0, 1) := by decide +kernel
theorem dL_law_1774 : decode cL_law 1774 = .ok (.iload 4, 2) := by decide +kernel
theorem dL_law_1776 : decode cL_law 1776 = .ok (.iconst 1, 1) := by decide +kernel
theorem dL_law_1777 : decode cL_law 1777 = .ok (.iadd, 1) := by decide +kernel
theorem dL_law_1778 : decode cL_law 1778 = .ok (.iaload, 1) := by decide +kernel
theorem dL_law_1779 : decode cL_law 1779 = .ok (.aload_n 3, 1) := by decide +kernel
theorem dL_law_1780 : decode cL_law 1780 = .ok (.invokestatic 188, 3) := by decide +kernel
theorem dL_law_1783 : decode cL_law 1783 = .ok (.istore 5, 2) := by decide +kernel
theorem dL_law_1785 : decode cL_law 1785 = .ok (.aload_n 2, 1) := by decide +kernel
theorem dL_law_1786 : decode cL_law 1786 = .ok (.aload_n 0, 1) := by decide +kernel
theorem dL_law_1787 : decode cL_law 1787 = .ok (.iload 4, 2) := by decide +kernel
theorem dL_law_1789 : decode cL_law 1789 = .ok (.iconst 1, 1) := by decide +kernel
theorem dL_law_1790 : decode cL_law 1790 = .ok (.iadd, 1) := by decide +kernel
theorem dL_law_1791 : decode cL_law 1791 = .ok (.iaload, 1) := by decide +kernel
theorem dL_law_1792 : decode cL_law 1792 = .ok (.invokevirtual 190, 3) := by decide +kernel
theorem dL_law_1795 : decode cL_law 1795 = .ok (.istore 6, 2) := by decide +kernel
theorem dL_law_1797 : decode cL_law 1797 = .ok (.aload_n 2, 1) := by decide +kernel
theorem dL_law_1798 : decode cL_law 1798 = .ok (.invokevirtual 115, 3) := by decide +kernel
theorem dL_law_1801 : decode cL_law 1801 = .ok (.iload 5, 2) := by decide +kernel
theorem dL_law_1803 : decode cL_law 1803 = .ok (.if_icmp .eq 5, 3) := by decide +kernel
theorem dL_law_1806 : decode cL_law 1806 = .ok (.iconst 0, 1) := by decide +kernel
theorem dL_law_1807 : decode cL_law 1807 = .ok (.ireturn, 1) := by decide +kernel
theorem dL_law_1808 : decode cL_law 1808 = .ok (.iload 5, 2) := by decide +kernel
theorem dL_law_1810 : decode cL_law 1810 = .ok (.ifCond .ne 15, 3) := by decide +kernel
theorem dL_law_1813 : decode cL_law 1813 = .ok (.aload_n 3, 1) := by decide +kernel
theorem dL_law_1814 : decode cL_law 1814 = .ok (.iconst 0, 1) := by decide +kernel
theorem dL_law_1815 : decode cL_law 1815 = .ok (.laload, 1) := by decide +kernel
theorem dL_law_1816 : decode cL_law 1816 = .ok (.iload 6, 2) := by decide +kernel
theorem dL_law_1818 : decode cL_law 1818 = .ok (.i2l, 1) := by decide +kernel
theorem dL_law_1819 : decode cL_law 1819 = .ok (.lcmp, 1) := by decide +kernel
theorem dL_law_1820 : decode cL_law 1820 = .ok (.ifCond .eq 5, 3) := by decide +kernel
theorem dL_law_1823 : decode cL_law 1823 = .ok (.iconst 0, 1) := by decide +kernel
theorem dL_law_1824 : decode cL_law 1824 = .ok (.ireturn, 1) := by decide +kernel
theorem dL_law_1825 : decode cL_law 1825 = .ok (.goto 267, 3) := by decide +kernel
theorem dL_law_1828 : decode cL_law 1828 = .ok (.aload_n 1, 1) := by decide +kernel
theorem dL_law_1829 : decode cL_law 1829 = .ok (.aload_n 0, 1) := by decide +kernel
theorem dL_law_1830 : decode cL_law 1830 = .ok (.iload 4, 2) := by decide +kernel
theorem dL_law_1832 : decode cL_law 1832 = .ok (.iconst 1, 1) := by decide +kernel
theorem dL_law_1833 : decode cL_law 1833 = .ok (.iadd, 1) := by decide +kernel
theorem dL_law_1834 : decode cL_law 1834 = .ok (.iaload, 1) := by decide +kernel
theorem dL_law_1835 : decode cL_law 1835 = .ok (.aload_n 3, 1) := by decide +kernel
theorem dL_law_1836 : decode cL_law 1836 = .ok (.invokestatic 191, 3) := by decide +kernel
theorem dL_law_1839 : decode cL_law 1839 = .ok (.istore 5, 2) := by decide +kernel
theorem dL_law_1841 : decode cL_law 1841 = .ok (.aload_n 2, 1) := by decide +kernel
theorem dL_law_1842 : decode cL_law 1842 = .ok (.aload_n 0, 1) := by decide +kernel
theorem dL_law_1843 : decode cL_law 1843 = .ok (.iload 4, 2) := by decide +kernel
theorem dL_law_1845 : decode cL_law 1845 = .ok (.iconst 1, 1) := by decide +kernel
theorem dL_law_1846 : decode cL_law 1846 = .ok (.iadd, 1) := by decide +kernel
theorem dL_law_1847 : decode cL_law 1847 = .ok (.iaload, 1) := by decide +kernel
theorem dL_law_1848 : decode cL_law 1848 = .ok (.invokevirtual 193, 3) := by decide +kernel
theorem dL_law_1851 : decode cL_law 1851 = .ok (.istore 6, 2) := by decide +kernel
theorem dL_law_1853 : decode cL_law 1853 = .ok (.aload_n 2, 1) := by decide +kernel
theorem dL_law_1854 : decode cL_law 1854 = .ok (.invokevirtual 115, 3) := by decide +kernel
theorem dL_law_1857 : decode cL_law 1857 = .ok (.iload 5, 2) := by decide +kernel
theorem dL_law_1859 : decode cL_law 1859 = .ok (.if_icmp .eq 5, 3) := by decide +kernel
theorem dL_law_1862 : decode cL_law 1862 = .ok (.iconst 0, 1) := by decide +kernel
theorem dL_law_1863 : decode cL_law 1863 = .ok (.ireturn, 1) := by decide +kernel
theorem dL_law_1864 : decode cL_law 1864 = .ok (.iload 5, 2) := by decide +kernel
theorem dL_law_1866 : decode cL_law 1866 = .ok (.ifCond .ne 15, 3) := by decide +kernel
theorem dL_law_1869 : decode cL_law 1869 = .ok (.aload_n 3, 1) := by decide +kernel
theorem dL_law_1870 : decode cL_law 1870 = .ok (.iconst 0, 1) := by decide +kernel
theorem dL_law_1871 : decode cL_law 1871 = .ok (.laload, 1) := by decide +kernel
theorem dL_law_1872 : decode cL_law 1872 = .ok (.iload 6, 2) := by decide +kernel
theorem dL_law_1874 : decode cL_law 1874 = .ok (.i2l, 1) := by decide +kernel
theorem dL_law_1875 : decode cL_law 1875 = .ok (.lcmp, 1) := by decide +kernel
theorem dL_law_1876 : decode cL_law 1876 = .ok (.ifCond .eq 5, 3) := by decide +kernel
theorem dL_law_1879 : decode cL_law 1879 = .ok (.iconst 0, 1) := by decide +kernel
theorem dL_law_1880 : decode cL_law 1880 = .ok (.ireturn, 1) := by decide +kernel
theorem dL_law_1881 : decode cL_law 1881 = .ok (.goto 211, 3) := by decide +kernel
theorem dL_law_1884 : decode cL_law 1884 = .ok (.aload_n 1, 1) := by decide +kernel
theorem dL_law_1885 : decode cL_law 1885 = .ok (.aload_n 0, 1) := by decide +kernel
theorem dL_law_1886 : decode cL_law 1886 = .ok (.iload 4, 2) := by decide +kernel
theorem dL_law_1888 : decode cL_law 1888 = .ok (.iconst 1, 1) := by decide +kernel
theorem dL_law_1889 : decode cL_law 1889 = .ok (.iadd, 1) := by decide +kernel
theorem dL_law_1890 : decode cL_law 1890 = .ok (.iaload, 1) := by decide +kernel
theorem dL_law_1891 : decode cL_law 1891 = .ok (.aload_n 0, 1) := by decide +kernel
theorem dL_law_1892 : decode cL_law 1892 = .ok (.iload 4, 2) := by decide +kernel
theorem dL_law_1894 : decode cL_law 1894 = .ok (.iconst 2, 1) := by decide +kernel
theorem dL_law_1895 : decode cL_law 1895 = .ok (.iadd, 1) := by decide +kernel
theorem dL_law_1896 : decode cL_law 1896 = .ok (.iaload, 1) := by decide +kernel
theorem dL_law_1897 : decode cL_law 1897 = .ok (.aload_n 3, 1) := by decide +kernel
theorem dL_law_1898 : decode cL_law 1898 = .ok (.invokestatic 194, 3) := by decide +kernel
theorem dL_law_1901 : decode cL_law 1901 = .ok (.istore 5, 2) := by decide +kernel
theorem dL_law_1903 : decode cL_law 1903 = .ok (.aload_n 2, 1) := by decide +kernel
theorem dL_law_1904 : decode cL_law 1904 = .ok (.aload_n 0, 1) := by decide +kernel
theorem dL_law_1905 : decode cL_law 1905 = .ok (.iload 4, 2) := by decide +kernel
theorem dL_law_1907 : decode cL_law 1907 = .ok (.iconst 1, 1) := by decide +kernel
theorem dL_law_1908 : decode cL_law 1908 = .ok (.iadd, 1) := by decide +kernel
theorem dL_law_1909 : decode cL_law 1909 = .ok (.iaload, 1) := by decide +kernel
theorem dL_law_1910 : decode cL_law 1910 = .ok (.aload_n 0, 1) := by decide +kernel
theorem dL_law_1911 : decode cL_law 1911 = .ok (.iload 4, 2) := by decide +kernel
theorem dL_law_1913 : decode cL_law 1913 = .ok (.iconst 2, 1) := by decide +kernel
theorem dL_law_1914 : decode cL_law 1914 = .ok (.iadd, 1) := by decide +kernel
theorem dL_law_1915 : decode cL_law 1915 = .ok (.iaload, 1) := by decide +kernel
theorem dL_law_1916 : decode cL_law 1916 = .ok (.invokevirtual 196, 3) := by decide +kernel
theorem dL_law_1919 : decode cL_law 1919 = .ok (.istore 6, 2) := by decide +kernel
theorem dL_law_1921 : decode cL_law 1921 = .ok (.aload_n 2, 1) := by decide +kernel
theorem dL_law_1922 : decode cL_law 1922 = .ok (.invokevirtual 115, 3) := by decide +kernel
theorem dL_law_1925 : decode cL_law 1925 = .ok (.iload 5, 2) := by decide +kernel
theorem dL_law_1927 : decode cL_law 1927 = .ok (.if_icmp .eq 5, 3) := by decide +kernel
theorem dL_law_1930 : decode cL_law 1930 = .ok (.iconst 0, 1) := by decide +kernel
theorem dL_law_1931 : decode cL_law 1931 = .ok (.ireturn, 1) := by decide +kernel
theorem dL_law_1932 : decode cL_law 1932 = .ok (.iload 5, 2) := by decide +kernel
theorem dL_law_1934 : decode cL_law 1934 = .ok (.ifCond .ne 15, 3) := by decide +kernel
theorem dL_law_1937 : decode cL_law 1937 = .ok (.aload_n 3, 1) := by decide +kernel
theorem dL_law_1938 : decode cL_law 1938 = .ok (.iconst 0, 1) := by decide +kernel
theorem dL_law_1939 : decode cL_law 1939 = .ok (.laload, 1) := by decide +kernel
theorem dL_law_1940 : decode cL_law 1940 = .ok (.iload 6, 2) := by decide +kernel
theorem dL_law_1942 : decode cL_law 1942 = .ok (.i2l, 1) := by decide +kernel
theorem dL_law_1943 : decode cL_law 1943 = .ok (.lcmp, 1) := by decide +kernel
theorem dL_law_1944 : decode cL_law 1944 = .ok (.ifCond .eq 5, 3) := by decide +kernel
theorem dL_law_1947 : decode cL_law 1947 = .ok (.iconst 0, 1) := by decide +kernel
theorem dL_law_1948 : decode cL_law 1948 = .ok (.ireturn, 1) := by decide +kernel
theorem dL_law_1949 : decode cL_law 1949 = .ok (.goto 143, 3) := by decide +kernel
theorem dL_law_1952 : decode cL_law 1952 = .ok (.aload_n 1, 1) := by decide +kernel
theorem dL_law_1953 : decode cL_law 1953 = .ok (.aload_n 0, 1) := by decide +kernel
theorem dL_law_1954 : decode cL_law 1954 = .ok (.iload 4, 2) := by decide +kernel
theorem dL_law_1956 : decode cL_law 1956 = .ok (.iconst 1, 1) := by decide +kernel
theorem dL_law_1957 : decode cL_law 1957 = .ok (.iadd, 1) := by decide +kernel
theorem dL_law_1958 : decode cL_law 1958 = .ok (.iaload, 1) := by decide +kernel
theorem dL_law_1959 : decode cL_law 1959 = .ok (.aload_n 3, 1) := by decide +kernel
theorem dL_law_1960 : decode cL_law 1960 = .ok (.invokestatic 197, 3) := by decide +kernel
theorem dL_law_1963 : decode cL_law 1963 = .ok (.istore 5, 2) := by decide +kernel
theorem dL_law_1965 : decode cL_law 1965 = .ok (.aload_n 2, 1) := by decide +kernel
theorem dL_law_1966 : decode cL_law 1966 = .ok (.aload_n 0, 1) := by decide +kernel
theorem dL_law_1967 : decode cL_law 1967 = .ok (.iload 4, 2) := by decide +kernel
theorem dL_law_1969 : decode cL_law 1969 = .ok (.iconst 1, 1) := by decide +kernel
theorem dL_law_1970 : decode cL_law 1970 = .ok (.iadd, 1) := by decide +kernel
theorem dL_law_1971 : decode cL_law 1971 = .ok (.iaload, 1) := by decide +kernel
theorem dL_law_1972 : decode cL_law 1972 = .ok (.invokevirtual 199, 3) := by decide +kernel
theorem dL_law_1975 : decode cL_law 1975 = .ok (.istore 6, 2) := by decide +kernel
theorem dL_law_1977 : decode cL_law 1977 = .ok (.aload_n 2, 1) := by decide +kernel
theorem dL_law_1978 : decode cL_law 1978 = .ok (.invokevirtual 115, 3) := by decide +kernel
theorem dL_law_1981 : decode cL_law 1981 = .ok (.iload 5, 2) := by decide +kernel
theorem dL_law_1983 : decode cL_law 1983 = .ok (.if_icmp .eq 5, 3) := by decide +kernel
theorem dL_law_1986 : decode cL_law 1986 = .ok (.iconst 0, 1) := by decide +kernel
theorem dL_law_1987 : decode cL_law 1987 = .ok (.ireturn, 1) := by decide +kernel
theorem dL_law_1988 : decode cL_law 1988 = .ok (.iload 5, 2) := by decide +kernel
theorem dL_law_1990 : decode cL_law 1990 = .ok (.ifCond .ne 15, 3) := by decide +kernel
theorem dL_law_1993 : decode cL_law 1993 = .ok (.aload_n 3, 1) := by decide +kernel
theorem dL_law_1994 : decode cL_law 1994 = .ok (.iconst 0, 1) := by decide +kernel
theorem dL_law_1995 : decode cL_law 1995 = .ok (.laload, 1) := by decide +kernel
theorem dL_law_1996 : decode cL_law 1996 = .ok (.iload 6, 2) := by decide +kernel
theorem dL_law_1998 : decode cL_law 1998 = .ok (.i2l, 1) := by decide +kernel
theorem dL_law_1999 : decode cL_law 1999 = .ok (.lcmp, 1) := by decide +kernel
theorem dL_law_2000 : decode cL_law 2000 = .ok (.ifCond .eq 5, 3) := by decide +kernel
theorem dL_law_2003 : decode cL_law 2003 = .ok (.iconst 0, 1) := by decide +kernel
theorem dL_law_2004 : decode cL_law 2004 = .ok (.ireturn, 1) := by decide +kernel
theorem dL_law_2005 : decode cL_law 2005 = .ok (.goto 87, 3) := by decide +kernel
theorem dL_law_2008 : decode cL_law 2008 = .ok (.aload_n 1, 1) := by decide +kernel
theorem dL_law_2009 : decode cL_law 2009 = .ok (.invokevirtual 200, 3) := by decide +kernel
theorem dL_law_2012 : decode cL_law 2012 = .ok (.aload_n 2, 1) := by decide +kernel
theorem dL_law_2013 : decode cL_law 2013 = .ok (.invokevirtual 203, 3) := by decide +kernel
theorem dL_law_2016 : decode cL_law 2016 = .ok (.if_icmp .eq 76, 3) := by decide +kernel
theorem dL_law_2019 : decode cL_law 2019 = .ok (.iconst 0, 1) := by decide +kernel
theorem dL_law_2020 : decode cL_law 2020 = .ok (.ireturn, 1) := by decide +kernel
theorem dL_law_2021 : decode cL_law 2021 = .ok (.aload_n 1, 1) := by decide +kernel
theorem dL_law_2022 : decode cL_law 2022 = .ok (.invokevirtual 204, 3) := by decide +kernel
theorem dL_law_2025 : decode cL_law 2025 = .ok (.aload_n 2, 1) := by decide +kernel
theorem dL_law_2026 : decode cL_law 2026 = .ok (.invokevirtual 207, 3) := by decide +kernel
theorem dL_law_2029 : decode cL_law 2029 = .ok (.if_icmp .eq 63, 3) := by decide +kernel
theorem dL_law_2032 : decode cL_law 2032 = .ok (.iconst 0, 1) := by decide +kernel
theorem dL_law_2033 : decode cL_law 2033 = .ok (.ireturn, 1) := by decide +kernel
theorem dL_law_2034 : decode cL_law 2034 = .ok (.aload_n 1, 1) := by decide +kernel
theorem dL_law_2035 : decode cL_law 2035 = .ok (.aload_n 3, 1) := by decide +kernel
theorem dL_law_2036 : decode cL_law 2036 = .ok (.invokestatic 208, 3) := by decide +kernel
theorem dL_law_2039 : decode cL_law 2039 = .ok (.istore 5, 2) := by decide +kernel
theorem dL_law_2041 : decode cL_law 2041 = .ok (.aload_n 2, 1) := by decide +kernel
theorem dL_law_2042 : decode cL_law 2042 = .ok (.invokevirtual 211, 3) := by decide +kernel
theorem dL_law_2045 : decode cL_law 2045 = .ok (.istore 6, 2) := by decide +kernel
theorem dL_law_2047 : decode cL_law 2047 = .ok (.aload_n 2, 1) := by decide +kernel
theorem dL_law_2048 : decode cL_law 2048 = .ok (.invokevirtual 115, 3) := by decide +kernel
theorem dL_law_2051 : decode cL_law 2051 = .ok (.iload 5, 2) := by decide +kernel
theorem dL_law_2053 : decode cL_law 2053 = .ok (.if_icmp .eq 5, 3) := by decide +kernel
theorem dL_law_2056 : decode cL_law 2056 = .ok (.iconst 0, 1) := by decide +kernel
theorem dL_law_2057 : decode cL_law 2057 = .ok (.ireturn, 1) := by decide +kernel
theorem dL_law_2058 : decode cL_law 2058 = .ok (.iload 5, 2) := by decide +kernel
theorem dL_law_2060 : decode cL_law 2060 = .ok (.ifCond .ne 15, 3) := by decide +kernel
theorem dL_law_2063 : decode cL_law 2063 = .ok (.aload_n 3, 1) := by decide +kernel
theorem dL_law_2064 : decode cL_law 2064 = .ok (.iconst 0, 1) := by decide +kernel
theorem dL_law_2065 : decode cL_law 2065 = .ok (.laload, 1) := by decide +kernel
theorem dL_law_2066 : decode cL_law 2066 = .ok (.iload 6, 2) := by decide +kernel
theorem dL_law_2068 : decode cL_law 2068 = .ok (.i2l, 1) := by decide +kernel
theorem dL_law_2069 : decode cL_law 2069 = .ok (.lcmp, 1) := by decide +kernel
theorem dL_law_2070 : decode cL_law 2070 = .ok (.ifCond .eq 5, 3) := by decide +kernel
theorem dL_law_2073 : decode cL_law 2073 = .ok (.iconst 0, 1) := by decide +kernel
theorem dL_law_2074 : decode cL_law 2074 = .ok (.ireturn, 1) := by decide +kernel
theorem dL_law_2075 : decode cL_law 2075 = .ok (.goto 17, 3) := by decide +kernel
theorem dL_law_2078 : decode cL_law 2078 = .ok (.aload_n 1, 1) := by decide +kernel
theorem dL_law_2079 : decode cL_law 2079 = .ok (.invokevirtual 212, 3) := by decide +kernel
theorem dL_law_2082 : decode cL_law 2082 = .ok (.aload_n 2, 1) := by decide +kernel
theorem dL_law_2083 : decode cL_law 2083 = .ok (.invokevirtual 216, 3) := by decide +kernel
theorem dL_law_2086 : decode cL_law 2086 = .ok (.lcmp, 1) := by decide +kernel
theorem dL_law_2087 : decode cL_law 2087 = .ok (.ifCond .eq 5, 3) := by decide +kernel
theorem dL_law_2090 : decode cL_law 2090 = .ok (.iconst 0, 1) := by decide +kernel
theorem dL_law_2091 : decode cL_law 2091 = .ok (.ireturn, 1) := by decide +kernel
theorem dL_law_2092 : decode cL_law 2092 = .ok (.iinc 4 6, 3) := by decide +kernel
theorem dL_law_2095 : decode cL_law 2095 = .ok (.goto (-2072), 3) := by decide +kernel
theorem dL_law_2098 : decode cL_law 2098 = .ok (.iconst 1, 1) := by decide +kernel
theorem dL_law_2099 : decode cL_law 2099 = .ok (.ireturn, 1) := by decide +kernel
abbrev lsL (B : Bs) (b i : Nat) (l5 l6 : Option Value) : List (Option Value) := [some (.ref b), some (.ref (B.1 + 0)), some (.ref (B.1 + 371)), some (.ref (B.1 + 377)), some (.int (iN i)), l5, l6]
theorem lg_same {x : Int64} : lg_cmp x x = 0 := by
  unfold lg_cmp
  rw [if_neg (by rw [gt_iff_lt]; exact Int64.lt_irrefl), if_pos rfl]
section LC
variable {X : Cx} {cc : ByteArray} {own : String} {mc ms : Nat} {G : Gf} {sz k n pc : Nat} {ls : List (Option Value)} {st : List Value} {B : Bs} {w w2 : Wl} {b L : Nat} {z : Nat → Int32} {T i : Nat}
/-- an argument out of the script -/
theorem J_argz (hx : Fx X cc 7 own 12 mc ms) (hX : XS X b L z) {j : Nat} {jj : Int} (hij : i + j < L) (h0 : ls[0]? = some (some (.ref b))) (h4 : ls[4]? = some (some (.int (iN i)))) (d0 : decode cc pc = .ok (.aload_n 0, 1)) (d1 : decode cc (pc + 1) = .ok (.iload 4, 2)) (d2 : decode cc (pc + 3) = .ok (.iconst jj, 1)) (hv : Int32.ofInt jj = iN j) (d3 : decode cc (pc + 4) = .ok (.iadd, 1)) (d4 : decode cc (pc + 5) = .ok (.iaload, 1)) (kk : J X 7 G sz k n (pc + 6) ls (.int (z (i + j)) :: st)) : J X 7 G sz k n pc ls st := by
  have hL := hX.2.2
  refine J_al4 hx (i := 0) rfl h0 d0 ?_
  refine J_il hx h4 d1 ?_
  refine J_iconst hx (iN j) d2 hv ?_
  refine J_iadd hx d3 ?_
  rw [iN_add]
  refine J_xs hx hX (vp_iN hij hL) d4 ?_
  rw [iN_nat (by omega)]
  exact kk
theorem J_boolz (hx : Fx X cc 7 own 12 mc ms) {v : Int32} (d0 : decode cc pc = .ok (.ifCond .eq 7, 3)) (d1 : decode cc (pc + 3) = .ok (.iconst 1, 1)) (d2 : decode cc (pc + 4) = .ok (.goto 4, 3)) (d3 : decode cc (pc + 7) = .ok (.iconst 0, 1)) (kk : J X 7 G sz k n (pc + 8) ls (.int (if v = 0 then 0 else 1) :: st)) : J X 7 G sz k n pc ls (.int v :: st) := by
  refine J_if_eq hx (pc + 7) d0 (by omega) (fun h => ?_) (fun h => ?_)
  · refine J_iconst hx (0 : Int32) d3 rfl ?_
    rw [if_pos h] at kk; exact kk
  · refine J_iconst hx (1 : Int32) d1 rfl ?_
    refine J_goto hx (pc + 8) d2 (by omega) ?_
    rw [if_neg h] at kk; exact kk
/-- behind both calls: the answers agree, and on it goes -/
theorem J_tail (hx : Fx X cL_law 7 RL 12 mc ms) {q : Nat} {kc bb : Int32} {off : Int} (hW2 : Wd (xΓ X) B w2 G) (h5 : w2 371 5 = kc) (ho : kc = 0 → lofW (w2 377 0) (w2 377 1) = bb.toInt64) (hk : k ≤ mc) (hn : n ≤ ms)
    (d0 : decode cL_law q = .ok (.istore 6, 2)) (d1 : decode cL_law (q + 2) = .ok (.aload_n 2, 1)) (d2 : decode cL_law (q + 3) = .ok (.invokevirtual 115, 3)) (d3 : decode cL_law (q + 6) = .ok (.iload 5, 2)) (d4 : decode cL_law (q + 8) = .ok (.if_icmp .eq 5, 3)) (d5 : decode cL_law (q + 13) = .ok (.iload 5, 2)) (d6 : decode cL_law (q + 15) = .ok (.ifCond .ne 15, 3)) (d7 : decode cL_law (q + 18) = .ok (.aload_n 3, 1)) (d8 : decode cL_law (q + 19) = .ok (.iconst 0, 1)) (d9 : decode cL_law (q + 20) = .ok (.laload, 1)) (d10 : decode cL_law (q + 21) = .ok (.iload 6, 2)) (d11 : decode cL_law (q + 23) = .ok (.i2l, 1)) (d12 : decode cL_law (q + 24) = .ok (.lcmp, 1)) (d13 : decode cL_law (q + 25) = .ok (.ifCond .eq 5, 3)) (d14 : decode cL_law (q + 30) = .ok (.goto off, 3)) (hoff : ((q + 30 : Nat) : Int) + off = (2092 : Nat))
    (kk : J X 7 G sz k n 2092 (lsL B b i (some (.int kc)) (some (.int bb))) []) : J X 7 G sz k n q (lsL B b i (some (.int kc)) none) [.int bb] := by
  refine J_is hx (by decide) (hc_of rfl) rfl d0 ?_
  refine J_al4 hx (i := 2) rfl rfl d1 ?_
  refine J_rdV hx (kX13_thrown hW2 (rfl : sX13_thrown w2 = some (w2 371 5))) ml_L_115 lk_X13_thrown (ci := 11) rfl (hW2.obj (rfl : kd 371 = 19) (by decide) (by decide)) (As := []) (rest := []) rfl rfl (by decide) (by decide) (Nat.le_of_ble_eq_true rfl) hk hn d2 ?_
  refine J_il hx rfl d3 ?_
  refine J_icmp_eq hx (q + 13) d4 (by omega) (fun _ => ?_) (fun h => (h h5).elim)
  refine J_il hx rfl d5 ?_
  refine J_if_ne hx (q + 30) d6 (by omega) (fun _ => ?_) (fun h => ?_)
  · exact J_goto hx 2092 d14 hoff kk
  · refine J_al4 hx (i := 3) rfl rfl d7 ?_
    refine J_iconst hx (0 : Int32) d8 rfl ?_
    refine J_outL hx hW2 d9 ?_
    refine J_il hx rfl d10 ?_
    refine J_i2l hx d11 ?_
    refine J_lcmp hx d12 ?_
    rw [ho h, lg_same]
    refine J_if_eq hx (q + 30) d13 (by omega) (fun _ => ?_) (fun h => (h rfl).elim)
    exact J_goto hx 2092 d14 hoff kk
theorem lc_0 (hx : Fx X cL_law 7 RL 12 mc ms) (hC : GC (xΓ X) B) (htr : (xl X).stackTraces = false) (hX : XS X b L z) (hi : i + 6 ≤ L) (hW : Wd (xΓ X) B w G) (hA : AL T w) (hT : T + 40000 ≤ 1000000000) (hk : k + 1 ≤ mc) (hn : n + 6 ≤ ms) (kk : ∀ (G2 : Gf) (sz2 k2 n2 : Nat) (w2 : Wl) (l5 l6 : Option Value), k2 ≤ k + 1 → n2 ≤ n + 6 → Wd (xΓ X) B w2 G2 → AL (T + 40000) w2 → J X 7 G2 sz2 k2 n2 2092 (lsL B b i l5 l6) []) : J X 7 G sz k n 180 (lsL B b i none none) [] := by
  obtain ⟨kc, w1, e1, bb, w2, e2, h5, ho, hA2⟩ := b_addVenue hA hT (z (i + 1)) (z (i + 2)) (z (i + 3)) (z (i + 4))
  have e2 : sX13_addVenue w1 (z (i + 1)) (z (i + 2)) (z (i + 3)) (z (i + 4)) = some (bb, w2) := e2
  refine J_al4 hx (i := 1) rfl rfl dL_law_180 ?_
  refine J_argz hx hX (i := i) (j := 1) (by omega) rfl rfl dL_law_181 dL_law_182 dL_law_184 rfl dL_law_185 dL_law_186 ?_
  refine J_argz hx hX (i := i) (j := 2) (by omega) rfl rfl dL_law_187 dL_law_188 dL_law_190 rfl dL_law_191 dL_law_192 ?_
  refine J_argz hx hX (i := i) (j := 3) (by omega) rfl rfl dL_law_193 dL_law_194 dL_law_196 rfl dL_law_197 dL_law_198 ?_
  refine J_argz hx hX (i := i) (j := 4) (by omega) rfl rfl dL_law_199 dL_law_200 dL_law_202 rfl dL_law_203 dL_law_204 ?_
  refine J_al4 hx (i := 3) rfl rfl dL_law_205 ?_
  refine J_callSW hx (kL_addVenue (l := xl X) htr hC hW e1) ml_L_109 cw_addVenue (wtm_4 209 (by decide +kernel) (by decide +kernel)) ini_L ⟨by decide +kernel, by decide +kernel, by decide +kernel⟩ (nA := 6) (As := [.ref (B.1 + 0), .int (z (i + 1)), .int (z (i + 2)), .int (z (i + 3)), .int (z (i + 4)), .ref (B.1 + 377)]) (rest := []) rfl rfl (by decide) (by decide) (Nat.le_of_ble_eq_true rfl) hk hn dL_law_206 fun r G1 sz1 hh => ?_
  obtain ⟨rfl, hW1⟩ := hh
  refine J_is hx (by decide) (hc_of rfl) rfl dL_law_209 ?_
  refine J_al4 hx (i := 2) rfl rfl dL_law_211 ?_
  refine J_argz hx hX (i := i) (j := 1) (by omega) rfl rfl dL_law_212 dL_law_213 dL_law_215 rfl dL_law_216 dL_law_217 ?_
  refine J_argz hx hX (i := i) (j := 2) (by omega) rfl rfl dL_law_218 dL_law_219 dL_law_221 rfl dL_law_222 dL_law_223 ?_
  refine J_argz hx hX (i := i) (j := 3) (by omega) rfl rfl dL_law_224 dL_law_225 dL_law_227 rfl dL_law_228 dL_law_229 ?_
  refine J_argz hx hX (i := i) (j := 4) (by omega) rfl rfl dL_law_230 dL_law_231 dL_law_233 rfl dL_law_234 dL_law_235 ?_
  refine J_wrV hx (kX13_addVenue hW1 e2) ml_L_114 lk_X13_addVenue (ci := 11) rfl (hW1.obj (rfl : kd 371 = 19) (by decide) (by decide)) (As := [.int (z (i + 1)), .int (z (i + 2)), .int (z (i + 3)), .int (z (i + 4))]) (rest := []) rfl rfl (by decide) (by decide) (Nat.le_of_ble_eq_true rfl) hk hn dL_law_236 fun G2 hW2 => ?_
  exact J_tail hx hW2 h5 ho hk hn dL_law_239 dL_law_241 dL_law_242 dL_law_245 dL_law_247 dL_law_252 dL_law_254 dL_law_257 dL_law_258 dL_law_259 dL_law_260 dL_law_262 dL_law_263 dL_law_264 dL_law_269 rfl (kk _ _ _ _ _ _ _ (Nat.le_refl _) (Nat.le_refl _) hW2 hA2)
theorem lc_1 (hx : Fx X cL_law 7 RL 12 mc ms) (hC : GC (xΓ X) B) (htr : (xl X).stackTraces = false) (hX : XS X b L z) (hi : i + 6 ≤ L) (hW : Wd (xΓ X) B w G) (hA : AL T w) (hT : T + 40000 ≤ 1000000000) (hk : k + 1 ≤ mc) (hn : n + 6 ≤ ms) (kk : ∀ (G2 : Gf) (sz2 k2 n2 : Nat) (w2 : Wl) (l5 l6 : Option Value), k2 ≤ k + 1 → n2 ≤ n + 6 → Wd (xΓ X) B w2 G2 → AL (T + 40000) w2 → J X 7 G2 sz2 k2 n2 2092 (lsL B b i l5 l6) []) : J X 7 G sz k n 272 (lsL B b i none none) [] := by
  obtain ⟨kc, w1, e1, bb, w2, e2, h5, ho, hA2⟩ := b_setClimate hA hT (z (i + 1)) (z (i + 2)) (z (i + 3))
  have e2 : sX13_setClimate w1 (z (i + 1)) (z (i + 2)) (z (i + 3)) = some (bb, w2) := e2
  refine J_al4 hx (i := 1) rfl rfl dL_law_272 ?_
  refine J_argz hx hX (i := i) (j := 1) (by omega) rfl rfl dL_law_273 dL_law_274 dL_law_276 rfl dL_law_277 dL_law_278 ?_
  refine J_argz hx hX (i := i) (j := 2) (by omega) rfl rfl dL_law_279 dL_law_280 dL_law_282 rfl dL_law_283 dL_law_284 ?_
  refine J_argz hx hX (i := i) (j := 3) (by omega) rfl rfl dL_law_285 dL_law_286 dL_law_288 rfl dL_law_289 dL_law_290 ?_
  refine J_al4 hx (i := 3) rfl rfl dL_law_291 ?_
  refine J_callSW hx (kL_setClimate (l := xl X) htr hC hW e1) ml_L_118 cw_setClimate (wtm_5 92 (by decide +kernel) (by decide +kernel)) ini_L ⟨by decide +kernel, by decide +kernel, by decide +kernel⟩ (nA := 5) (As := [.ref (B.1 + 0), .int (z (i + 1)), .int (z (i + 2)), .int (z (i + 3)), .ref (B.1 + 377)]) (rest := []) rfl rfl (by decide) (by decide) (Nat.le_of_ble_eq_true rfl) hk hn dL_law_292 fun r G1 sz1 hh => ?_
  obtain ⟨rfl, hW1⟩ := hh
  refine J_is hx (by decide) (hc_of rfl) rfl dL_law_295 ?_
  refine J_al4 hx (i := 2) rfl rfl dL_law_297 ?_
  refine J_argz hx hX (i := i) (j := 1) (by omega) rfl rfl dL_law_298 dL_law_299 dL_law_301 rfl dL_law_302 dL_law_303 ?_
  refine J_argz hx hX (i := i) (j := 2) (by omega) rfl rfl dL_law_304 dL_law_305 dL_law_307 rfl dL_law_308 dL_law_309 ?_
  refine J_argz hx hX (i := i) (j := 3) (by omega) rfl rfl dL_law_310 dL_law_311 dL_law_313 rfl dL_law_314 dL_law_315 ?_
  refine J_wrV hx (kX13_setClimate hW1 e2) ml_L_121 lk_X13_setClimate (ci := 11) rfl (hW1.obj (rfl : kd 371 = 19) (by decide) (by decide)) (As := [.int (z (i + 1)), .int (z (i + 2)), .int (z (i + 3))]) (rest := []) rfl rfl (by decide) (by decide) (Nat.le_of_ble_eq_true rfl) hk hn dL_law_316 fun G2 hW2 => ?_
  exact J_tail hx hW2 h5 ho hk hn dL_law_319 dL_law_321 dL_law_322 dL_law_325 dL_law_327 dL_law_332 dL_law_334 dL_law_337 dL_law_338 dL_law_339 dL_law_340 dL_law_342 dL_law_343 dL_law_344 dL_law_349 rfl (kk _ _ _ _ _ _ _ (Nat.le_refl _) (Nat.le_refl _) hW2 hA2)
theorem lc_2 (hx : Fx X cL_law 7 RL 12 mc ms) (hC : GC (xΓ X) B) (htr : (xl X).stackTraces = false) (hX : XS X b L z) (hi : i + 6 ≤ L) (hW : Wd (xΓ X) B w G) (hA : AL T w) (hT : T + 40000 ≤ 1000000000) (hk : k + 1 ≤ mc) (hn : n + 6 ≤ ms) (kk : ∀ (G2 : Gf) (sz2 k2 n2 : Nat) (w2 : Wl) (l5 l6 : Option Value), k2 ≤ k + 1 → n2 ≤ n + 6 → Wd (xΓ X) B w2 G2 → AL (T + 40000) w2 → J X 7 G2 sz2 k2 n2 2092 (lsL B b i l5 l6) []) : J X 7 G sz k n 352 (lsL B b i none none) [] := by
  obtain ⟨kc, w1, e1, bb, w2, e2, h5, ho, hA2⟩ := b_setWay hA hT (z (i + 1)) (z (i + 2)) (z (i + 3))
  have e2 : sX13_setWay w1 (z (i + 1)) (z (i + 2)) (z (i + 3)) = some (bb, w2) := e2
  refine J_al4 hx (i := 1) rfl rfl dL_law_352 ?_
  refine J_argz hx hX (i := i) (j := 1) (by omega) rfl rfl dL_law_353 dL_law_354 dL_law_356 rfl dL_law_357 dL_law_358 ?_
  refine J_argz hx hX (i := i) (j := 2) (by omega) rfl rfl dL_law_359 dL_law_360 dL_law_362 rfl dL_law_363 dL_law_364 ?_
  refine J_argz hx hX (i := i) (j := 3) (by omega) rfl rfl dL_law_365 dL_law_366 dL_law_368 rfl dL_law_369 dL_law_370 ?_
  refine J_al4 hx (i := 3) rfl rfl dL_law_371 ?_
  refine J_callSW hx (kL_setWay (l := xl X) htr hC hW e1) ml_L_122 cw_setWay (wtm_5 108 (by decide +kernel) (by decide +kernel)) ini_L ⟨by decide +kernel, by decide +kernel, by decide +kernel⟩ (nA := 5) (As := [.ref (B.1 + 0), .int (z (i + 1)), .int (z (i + 2)), .int (z (i + 3)), .ref (B.1 + 377)]) (rest := []) rfl rfl (by decide) (by decide) (Nat.le_of_ble_eq_true rfl) hk hn dL_law_372 fun r G1 sz1 hh => ?_
  obtain ⟨rfl, hW1⟩ := hh
  refine J_is hx (by decide) (hc_of rfl) rfl dL_law_375 ?_
  refine J_al4 hx (i := 2) rfl rfl dL_law_377 ?_
  refine J_argz hx hX (i := i) (j := 1) (by omega) rfl rfl dL_law_378 dL_law_379 dL_law_381 rfl dL_law_382 dL_law_383 ?_
  refine J_argz hx hX (i := i) (j := 2) (by omega) rfl rfl dL_law_384 dL_law_385 dL_law_387 rfl dL_law_388 dL_law_389 ?_
  refine J_argz hx hX (i := i) (j := 3) (by omega) rfl rfl dL_law_390 dL_law_391 dL_law_393 rfl dL_law_394 dL_law_395 ?_
  refine J_wrV hx (kX13_setWay hW1 e2) ml_L_124 lk_X13_setWay (ci := 11) rfl (hW1.obj (rfl : kd 371 = 19) (by decide) (by decide)) (As := [.int (z (i + 1)), .int (z (i + 2)), .int (z (i + 3))]) (rest := []) rfl rfl (by decide) (by decide) (Nat.le_of_ble_eq_true rfl) hk hn dL_law_396 fun G2 hW2 => ?_
  exact J_tail hx hW2 h5 ho hk hn dL_law_399 dL_law_401 dL_law_402 dL_law_405 dL_law_407 dL_law_412 dL_law_414 dL_law_417 dL_law_418 dL_law_419 dL_law_420 dL_law_422 dL_law_423 dL_law_424 dL_law_429 rfl (kk _ _ _ _ _ _ _ (Nat.le_refl _) (Nat.le_refl _) hW2 hA2)
theorem lc_3 (hx : Fx X cL_law 7 RL 12 mc ms) (hC : GC (xΓ X) B) (htr : (xl X).stackTraces = false) (hX : XS X b L z) (hi : i + 6 ≤ L) (hW : Wd (xΓ X) B w G) (hA : AL T w) (hT : T + 40000 ≤ 1000000000) (hk : k + 1 ≤ mc) (hn : n + 6 ≤ ms) (kk : ∀ (G2 : Gf) (sz2 k2 n2 : Nat) (w2 : Wl) (l5 l6 : Option Value), k2 ≤ k + 1 → n2 ≤ n + 6 → Wd (xΓ X) B w2 G2 → AL (T + 40000) w2 → J X 7 G2 sz2 k2 n2 2092 (lsL B b i l5 l6) []) : J X 7 G sz k n 432 (lsL B b i none none) [] := by
  obtain ⟨kc, w1, e1, bb, w2, e2, h5, ho, hA2⟩ := b_setLender hA hT (z (i + 1)) (z (i + 2)) (z (i + 3))
  have e2 : sX13_setLender w1 (z (i + 1)) (z (i + 2)) (z (i + 3)) = some (bb, w2) := e2
  refine J_al4 hx (i := 1) rfl rfl dL_law_432 ?_
  refine J_argz hx hX (i := i) (j := 1) (by omega) rfl rfl dL_law_433 dL_law_434 dL_law_436 rfl dL_law_437 dL_law_438 ?_
  refine J_argz hx hX (i := i) (j := 2) (by omega) rfl rfl dL_law_439 dL_law_440 dL_law_442 rfl dL_law_443 dL_law_444 ?_
  refine J_argz hx hX (i := i) (j := 3) (by omega) rfl rfl dL_law_445 dL_law_446 dL_law_448 rfl dL_law_449 dL_law_450 ?_
  refine J_al4 hx (i := 3) rfl rfl dL_law_451 ?_
  refine J_callSW hx (kL_setLender (l := xl X) htr hC hW e1) ml_L_125 cw_setLender (wtm_5 123 (by decide +kernel) (by decide +kernel)) ini_L ⟨by decide +kernel, by decide +kernel, by decide +kernel⟩ (nA := 5) (As := [.ref (B.1 + 0), .int (z (i + 1)), .int (z (i + 2)), .int (z (i + 3)), .ref (B.1 + 377)]) (rest := []) rfl rfl (by decide) (by decide) (Nat.le_of_ble_eq_true rfl) hk hn dL_law_452 fun r G1 sz1 hh => ?_
  obtain ⟨rfl, hW1⟩ := hh
  refine J_is hx (by decide) (hc_of rfl) rfl dL_law_455 ?_
  refine J_al4 hx (i := 2) rfl rfl dL_law_457 ?_
  refine J_argz hx hX (i := i) (j := 1) (by omega) rfl rfl dL_law_458 dL_law_459 dL_law_461 rfl dL_law_462 dL_law_463 ?_
  refine J_argz hx hX (i := i) (j := 2) (by omega) rfl rfl dL_law_464 dL_law_465 dL_law_467 rfl dL_law_468 dL_law_469 ?_
  refine J_argz hx hX (i := i) (j := 3) (by omega) rfl rfl dL_law_470 dL_law_471 dL_law_473 rfl dL_law_474 dL_law_475 ?_
  refine J_wrV hx (kX13_setLender hW1 e2) ml_L_127 lk_X13_setLender (ci := 11) rfl (hW1.obj (rfl : kd 371 = 19) (by decide) (by decide)) (As := [.int (z (i + 1)), .int (z (i + 2)), .int (z (i + 3))]) (rest := []) rfl rfl (by decide) (by decide) (Nat.le_of_ble_eq_true rfl) hk hn dL_law_476 fun G2 hW2 => ?_
  exact J_tail hx hW2 h5 ho hk hn dL_law_479 dL_law_481 dL_law_482 dL_law_485 dL_law_487 dL_law_492 dL_law_494 dL_law_497 dL_law_498 dL_law_499 dL_law_500 dL_law_502 dL_law_503 dL_law_504 dL_law_509 rfl (kk _ _ _ _ _ _ _ (Nat.le_refl _) (Nat.le_refl _) hW2 hA2)
theorem lc_4 (hx : Fx X cL_law 7 RL 12 mc ms) (hC : GC (xΓ X) B) (htr : (xl X).stackTraces = false) (hX : XS X b L z) (hi : i + 6 ≤ L) (hW : Wd (xΓ X) B w G) (hA : AL T w) (hT : T + 40000 ≤ 1000000000) (hk : k + 1 ≤ mc) (hn : n + 6 ≤ ms) (kk : ∀ (G2 : Gf) (sz2 k2 n2 : Nat) (w2 : Wl) (l5 l6 : Option Value), k2 ≤ k + 1 → n2 ≤ n + 6 → Wd (xΓ X) B w2 G2 → AL (T + 40000) w2 → J X 7 G2 sz2 k2 n2 2092 (lsL B b i l5 l6) []) : J X 7 G sz k n 512 (lsL B b i none none) [] := by
  obtain ⟨kc, w1, e1, bb, w2, e2, h5, ho, hA2⟩ := b_setWayRate hA hT (z (i + 1))
  have e2 : sX13_setWayRate w1 (z (i + 1)) = some (bb, w2) := e2
  refine J_al4 hx (i := 1) rfl rfl dL_law_512 ?_
  refine J_argz hx hX (i := i) (j := 1) (by omega) rfl rfl dL_law_513 dL_law_514 dL_law_516 rfl dL_law_517 dL_law_518 ?_
  refine J_al4 hx (i := 3) rfl rfl dL_law_519 ?_
  refine J_callSW hx (kL_setWayRate (l := xl X) htr hC hW e1) ml_L_128 cw_setWayRate (wtm_5 141 (by decide +kernel) (by decide +kernel)) ini_L ⟨by decide +kernel, by decide +kernel, by decide +kernel⟩ (nA := 3) (As := [.ref (B.1 + 0), .int (z (i + 1)), .ref (B.1 + 377)]) (rest := []) rfl rfl (by decide) (by decide) (Nat.le_of_ble_eq_true rfl) hk hn dL_law_520 fun r G1 sz1 hh => ?_
  obtain ⟨rfl, hW1⟩ := hh
  refine J_is hx (by decide) (hc_of rfl) rfl dL_law_523 ?_
  refine J_al4 hx (i := 2) rfl rfl dL_law_525 ?_
  refine J_argz hx hX (i := i) (j := 1) (by omega) rfl rfl dL_law_526 dL_law_527 dL_law_529 rfl dL_law_530 dL_law_531 ?_
  refine J_wrV hx (kX13_setWayRate hW1 e2) ml_L_131 lk_X13_setWayRate (ci := 11) rfl (hW1.obj (rfl : kd 371 = 19) (by decide) (by decide)) (As := [.int (z (i + 1))]) (rest := []) rfl rfl (by decide) (by decide) (Nat.le_of_ble_eq_true rfl) hk hn dL_law_532 fun G2 hW2 => ?_
  exact J_tail hx hW2 h5 ho hk hn dL_law_535 dL_law_537 dL_law_538 dL_law_541 dL_law_543 dL_law_548 dL_law_550 dL_law_553 dL_law_554 dL_law_555 dL_law_556 dL_law_558 dL_law_559 dL_law_560 dL_law_565 rfl (kk _ _ _ _ _ _ _ (Nat.le_refl _) (Nat.le_refl _) hW2 hA2)
theorem lc_5 (hx : Fx X cL_law 7 RL 12 mc ms) (hC : GC (xΓ X) B) (htr : (xl X).stackTraces = false) (hX : XS X b L z) (hi : i + 6 ≤ L) (hW : Wd (xΓ X) B w G) (hA : AL T w) (hT : T + 40000 ≤ 1000000000) (hk : k + 1 ≤ mc) (hn : n + 6 ≤ ms) (kk : ∀ (G2 : Gf) (sz2 k2 n2 : Nat) (w2 : Wl) (l5 l6 : Option Value), k2 ≤ k + 1 → n2 ≤ n + 6 → Wd (xΓ X) B w2 G2 → AL (T + 40000) w2 → J X 7 G2 sz2 k2 n2 2092 (lsL B b i l5 l6) []) : J X 7 G sz k n 568 (lsL B b i none none) [] := by
  obtain ⟨kc, w1, e1, bb, w2, e2, h5, ho, hA2⟩ := b_addCourier hA hT (z (i + 1))
  have e2 : sX13_addCourier w1 (z (i + 1)) = some (bb, w2) := e2
  refine J_al4 hx (i := 1) rfl rfl dL_law_568 ?_
  refine J_argz hx hX (i := i) (j := 1) (by omega) rfl rfl dL_law_569 dL_law_570 dL_law_572 rfl dL_law_573 dL_law_574 ?_
  refine J_al4 hx (i := 3) rfl rfl dL_law_575 ?_
  refine J_callSW hx (kL_addCourier (l := xl X) htr hC hW e1) ml_L_132 cw_addCourier (wtm_5 156 (by decide +kernel) (by decide +kernel)) ini_L ⟨by decide +kernel, by decide +kernel, by decide +kernel⟩ (nA := 3) (As := [.ref (B.1 + 0), .int (z (i + 1)), .ref (B.1 + 377)]) (rest := []) rfl rfl (by decide) (by decide) (Nat.le_of_ble_eq_true rfl) hk hn dL_law_576 fun r G1 sz1 hh => ?_
  obtain ⟨rfl, hW1⟩ := hh
  refine J_is hx (by decide) (hc_of rfl) rfl dL_law_579 ?_
  refine J_al4 hx (i := 2) rfl rfl dL_law_581 ?_
  refine J_argz hx hX (i := i) (j := 1) (by omega) rfl rfl dL_law_582 dL_law_583 dL_law_585 rfl dL_law_586 dL_law_587 ?_
  refine J_wrV hx (kX13_addCourier hW1 e2) ml_L_134 lk_X13_addCourier (ci := 11) rfl (hW1.obj (rfl : kd 371 = 19) (by decide) (by decide)) (As := [.int (z (i + 1))]) (rest := []) rfl rfl (by decide) (by decide) (Nat.le_of_ble_eq_true rfl) hk hn dL_law_588 fun G2 hW2 => ?_
  exact J_tail hx hW2 h5 ho hk hn dL_law_591 dL_law_593 dL_law_594 dL_law_597 dL_law_599 dL_law_604 dL_law_606 dL_law_609 dL_law_610 dL_law_611 dL_law_612 dL_law_614 dL_law_615 dL_law_616 dL_law_621 rfl (kk _ _ _ _ _ _ _ (Nat.le_refl _) (Nat.le_refl _) hW2 hA2)
theorem lc_6 (hx : Fx X cL_law 7 RL 12 mc ms) (hC : GC (xΓ X) B) (htr : (xl X).stackTraces = false) (hX : XS X b L z) (hi : i + 6 ≤ L) (hW : Wd (xΓ X) B w G) (hA : AL T w) (hT : T + 40000 ≤ 1000000000) (hk : k + 1 ≤ mc) (hn : n + 6 ≤ ms) (kk : ∀ (G2 : Gf) (sz2 k2 n2 : Nat) (w2 : Wl) (l5 l6 : Option Value), k2 ≤ k + 1 → n2 ≤ n + 6 → Wd (xΓ X) B w2 G2 → AL (T + 40000) w2 → J X 7 G2 sz2 k2 n2 2092 (lsL B b i l5 l6) []) : J X 7 G sz k n 624 (lsL B b i none none) [] := by
  obtain ⟨kc, w1, e1, bb, w2, e2, h5, ho, hA2⟩ := b_addCrate hA hT (z (i + 1)) (z (i + 2))
  have e2 : sX13_addCrate w1 (z (i + 1)) (z (i + 2)) = some (bb, w2) := e2
  refine J_al4 hx (i := 1) rfl rfl dL_law_624 ?_
  refine J_argz hx hX (i := i) (j := 1) (by omega) rfl rfl dL_law_625 dL_law_626 dL_law_628 rfl dL_law_629 dL_law_630 ?_
  refine J_argz hx hX (i := i) (j := 2) (by omega) rfl rfl dL_law_631 dL_law_632 dL_law_634 rfl dL_law_635 dL_law_636 ?_
  refine J_al4 hx (i := 3) rfl rfl dL_law_637 ?_
  refine J_callSW hx (kL_addCrate (l := xl X) htr hC hW e1) ml_L_135 cw_addCrate (wtm_5 171 (by decide +kernel) (by decide +kernel)) ini_L ⟨by decide +kernel, by decide +kernel, by decide +kernel⟩ (nA := 4) (As := [.ref (B.1 + 0), .int (z (i + 1)), .int (z (i + 2)), .ref (B.1 + 377)]) (rest := []) rfl rfl (by decide) (by decide) (Nat.le_of_ble_eq_true rfl) hk hn dL_law_638 fun r G1 sz1 hh => ?_
  obtain ⟨rfl, hW1⟩ := hh
  refine J_is hx (by decide) (hc_of rfl) rfl dL_law_641 ?_
  refine J_al4 hx (i := 2) rfl rfl dL_law_643 ?_
  refine J_argz hx hX (i := i) (j := 1) (by omega) rfl rfl dL_law_644 dL_law_645 dL_law_647 rfl dL_law_648 dL_law_649 ?_
  refine J_argz hx hX (i := i) (j := 2) (by omega) rfl rfl dL_law_650 dL_law_651 dL_law_653 rfl dL_law_654 dL_law_655 ?_
  refine J_wrV hx (kX13_addCrate hW1 e2) ml_L_138 lk_X13_addCrate (ci := 11) rfl (hW1.obj (rfl : kd 371 = 19) (by decide) (by decide)) (As := [.int (z (i + 1)), .int (z (i + 2))]) (rest := []) rfl rfl (by decide) (by decide) (Nat.le_of_ble_eq_true rfl) hk hn dL_law_656 fun G2 hW2 => ?_
  exact J_tail hx hW2 h5 ho hk hn dL_law_659 dL_law_661 dL_law_662 dL_law_665 dL_law_667 dL_law_672 dL_law_674 dL_law_677 dL_law_678 dL_law_679 dL_law_680 dL_law_682 dL_law_683 dL_law_684 dL_law_689 rfl (kk _ _ _ _ _ _ _ (Nat.le_refl _) (Nat.le_refl _) hW2 hA2)
theorem lc_7 (hx : Fx X cL_law 7 RL 12 mc ms) (hC : GC (xΓ X) B) (htr : (xl X).stackTraces = false) (hX : XS X b L z) (hi : i + 6 ≤ L) (hW : Wd (xΓ X) B w G) (hA : AL T w) (hT : T + 40000 ≤ 1000000000) (hk : k + 1 ≤ mc) (hn : n + 6 ≤ ms) (kk : ∀ (G2 : Gf) (sz2 k2 n2 : Nat) (w2 : Wl) (l5 l6 : Option Value), k2 ≤ k + 1 → n2 ≤ n + 6 → Wd (xΓ X) B w2 G2 → AL (T + 40000) w2 → J X 7 G2 sz2 k2 n2 2092 (lsL B b i l5 l6) []) : J X 7 G sz k n 692 (lsL B b i none none) [] := by
  have h5b : (if z (i + 5) = 0 then (0 : Int32) else 1) = 0 ∨ (if z (i + 5) = 0 then (0 : Int32) else 1) = 1 := by by_cases h : z (i + 5) = 0 <;> simp [h]
  obtain ⟨kc, w1, e1, bb, w2, e2, h5, ho, hA2⟩ := b_addWork hA hT (z (i + 1)) (z (i + 2)) (z (i + 3)) (z (i + 4)) (if z (i + 5) = 0 then 0 else 1) h5b
  have e2 : sX13_addWork w1 (z (i + 1)) (z (i + 2)) (z (i + 3)) (z (i + 4)) (if z (i + 5) = 0 then 0 else 1) = some (bb, w2) := e2
  refine J_al4 hx (i := 1) rfl rfl dL_law_692 ?_
  refine J_argz hx hX (i := i) (j := 1) (by omega) rfl rfl dL_law_693 dL_law_694 dL_law_696 rfl dL_law_697 dL_law_698 ?_
  refine J_argz hx hX (i := i) (j := 2) (by omega) rfl rfl dL_law_699 dL_law_700 dL_law_702 rfl dL_law_703 dL_law_704 ?_
  refine J_argz hx hX (i := i) (j := 3) (by omega) rfl rfl dL_law_705 dL_law_706 dL_law_708 rfl dL_law_709 dL_law_710 ?_
  refine J_argz hx hX (i := i) (j := 4) (by omega) rfl rfl dL_law_711 dL_law_712 dL_law_714 rfl dL_law_715 dL_law_716 ?_
  refine J_argz hx hX (i := i) (j := 5) (by omega) rfl rfl dL_law_717 dL_law_718 dL_law_720 rfl dL_law_721 dL_law_722 ?_
  refine J_boolz hx dL_law_723 dL_law_726 dL_law_727 dL_law_730 ?_
  refine J_al4 hx (i := 3) rfl rfl dL_law_731 ?_
  refine J_callSW hx (kL_addWork (l := xl X) htr hC hW e1) ml_L_139 cw_addWork (wtm_5 186 (by decide +kernel) (by decide +kernel)) ini_L ⟨by decide +kernel, by decide +kernel, by decide +kernel⟩ (nA := 7) (As := [.ref (B.1 + 0), .int (z (i + 1)), .int (z (i + 2)), .int (z (i + 3)), .int (z (i + 4)), .int (if z (i + 5) = 0 then 0 else 1), .ref (B.1 + 377)]) (rest := []) rfl rfl (by decide) (by decide) (Nat.le_of_ble_eq_true rfl) hk hn dL_law_732 fun r G1 sz1 hh => ?_
  obtain ⟨rfl, hW1⟩ := hh
  refine J_is hx (by decide) (hc_of rfl) rfl dL_law_735 ?_
  refine J_al4 hx (i := 2) rfl rfl dL_law_737 ?_
  refine J_argz hx hX (i := i) (j := 1) (by omega) rfl rfl dL_law_738 dL_law_739 dL_law_741 rfl dL_law_742 dL_law_743 ?_
  refine J_argz hx hX (i := i) (j := 2) (by omega) rfl rfl dL_law_744 dL_law_745 dL_law_747 rfl dL_law_748 dL_law_749 ?_
  refine J_argz hx hX (i := i) (j := 3) (by omega) rfl rfl dL_law_750 dL_law_751 dL_law_753 rfl dL_law_754 dL_law_755 ?_
  refine J_argz hx hX (i := i) (j := 4) (by omega) rfl rfl dL_law_756 dL_law_757 dL_law_759 rfl dL_law_760 dL_law_761 ?_
  refine J_argz hx hX (i := i) (j := 5) (by omega) rfl rfl dL_law_762 dL_law_763 dL_law_765 rfl dL_law_766 dL_law_767 ?_
  refine J_boolz hx dL_law_768 dL_law_771 dL_law_772 dL_law_775 ?_
  refine J_wrV hx (kX13_addWork hW1 e2) ml_L_142 lk_X13_addWork (ci := 11) rfl (hW1.obj (rfl : kd 371 = 19) (by decide) (by decide)) (As := [.int (z (i + 1)), .int (z (i + 2)), .int (z (i + 3)), .int (z (i + 4)), .int (if z (i + 5) = 0 then 0 else 1)]) (rest := []) rfl rfl (by decide) (by decide) (Nat.le_of_ble_eq_true rfl) hk hn dL_law_776 fun G2 hW2 => ?_
  exact J_tail hx hW2 h5 ho hk hn dL_law_779 dL_law_781 dL_law_782 dL_law_785 dL_law_787 dL_law_792 dL_law_794 dL_law_797 dL_law_798 dL_law_799 dL_law_800 dL_law_802 dL_law_803 dL_law_804 dL_law_809 rfl (kk _ _ _ _ _ _ _ (Nat.le_refl _) (Nat.le_refl _) hW2 hA2)
theorem lc_8 (hx : Fx X cL_law 7 RL 12 mc ms) (hC : GC (xΓ X) B) (htr : (xl X).stackTraces = false) (hX : XS X b L z) (hi : i + 6 ≤ L) (hW : Wd (xΓ X) B w G) (hA : AL T w) (hT : T + 40000 ≤ 1000000000) (hk : k + 1 ≤ mc) (hn : n + 6 ≤ ms) (kk : ∀ (G2 : Gf) (sz2 k2 n2 : Nat) (w2 : Wl) (l5 l6 : Option Value), k2 ≤ k + 1 → n2 ≤ n + 6 → Wd (xΓ X) B w2 G2 → AL (T + 40000) w2 → J X 7 G2 sz2 k2 n2 2092 (lsL B b i l5 l6) []) : J X 7 G sz k n 812 (lsL B b i none none) [] := by
  obtain ⟨kc, w1, e1, bb, w2, e2, h5, ho, hA2⟩ := b_open hA hT (z (i + 1))
  have e2 : sX13_open w1 (z (i + 1)) = some (bb, w2) := e2
  refine J_al4 hx (i := 1) rfl rfl dL_law_812 ?_
  refine J_argz hx hX (i := i) (j := 1) (by omega) rfl rfl dL_law_813 dL_law_814 dL_law_816 rfl dL_law_817 dL_law_818 ?_
  refine J_al4 hx (i := 3) rfl rfl dL_law_819 ?_
  refine J_callSW hx (kL_open (l := xl X) htr hC hW e1) ml_L_143 cw_open (wtm_5 202 (by decide +kernel) (by decide +kernel)) ini_L ⟨by decide +kernel, by decide +kernel, by decide +kernel⟩ (nA := 3) (As := [.ref (B.1 + 0), .int (z (i + 1)), .ref (B.1 + 377)]) (rest := []) rfl rfl (by decide) (by decide) (Nat.le_of_ble_eq_true rfl) hk hn dL_law_820 fun r G1 sz1 hh => ?_
  obtain ⟨rfl, hW1⟩ := hh
  refine J_is hx (by decide) (hc_of rfl) rfl dL_law_823 ?_
  refine J_al4 hx (i := 2) rfl rfl dL_law_825 ?_
  refine J_argz hx hX (i := i) (j := 1) (by omega) rfl rfl dL_law_826 dL_law_827 dL_law_829 rfl dL_law_830 dL_law_831 ?_
  refine J_wrV hx (kX13_open hW1 e2) ml_L_145 lk_X13_open (ci := 11) rfl (hW1.obj (rfl : kd 371 = 19) (by decide) (by decide)) (As := [.int (z (i + 1))]) (rest := []) rfl rfl (by decide) (by decide) (Nat.le_of_ble_eq_true rfl) hk hn dL_law_832 fun G2 hW2 => ?_
  exact J_tail hx hW2 h5 ho hk hn dL_law_835 dL_law_837 dL_law_838 dL_law_841 dL_law_843 dL_law_848 dL_law_850 dL_law_853 dL_law_854 dL_law_855 dL_law_856 dL_law_858 dL_law_859 dL_law_860 dL_law_865 rfl (kk _ _ _ _ _ _ _ (Nat.le_refl _) (Nat.le_refl _) hW2 hA2)
theorem lc_9 (hx : Fx X cL_law 7 RL 12 mc ms) (hC : GC (xΓ X) B) (htr : (xl X).stackTraces = false) (hX : XS X b L z) (hi : i + 6 ≤ L) (hW : Wd (xΓ X) B w G) (hA : AL T w) (hT : T + 40000 ≤ 1000000000) (hk : k + 1 ≤ mc) (hn : n + 6 ≤ ms) (kk : ∀ (G2 : Gf) (sz2 k2 n2 : Nat) (w2 : Wl) (l5 l6 : Option Value), k2 ≤ k + 1 → n2 ≤ n + 6 → Wd (xΓ X) B w2 G2 → AL (T + 40000) w2 → J X 7 G2 sz2 k2 n2 2092 (lsL B b i l5 l6) []) : J X 7 G sz k n 868 (lsL B b i none none) [] := by
  obtain ⟨kc, w1, e1, bb, w2, e2, h5, ho, hA2⟩ := b_close hA hT (z (i + 1))
  have e2 : sX13_close w1 (z (i + 1)) = some (bb, w2) := e2
  refine J_al4 hx (i := 1) rfl rfl dL_law_868 ?_
  refine J_argz hx hX (i := i) (j := 1) (by omega) rfl rfl dL_law_869 dL_law_870 dL_law_872 rfl dL_law_873 dL_law_874 ?_
  refine J_al4 hx (i := 3) rfl rfl dL_law_875 ?_
  refine J_callSW hx (kL_close (l := xl X) htr hC hW e1) ml_L_146 cw_close (wtm_5 209 (by decide +kernel) (by decide +kernel)) ini_L ⟨by decide +kernel, by decide +kernel, by decide +kernel⟩ (nA := 3) (As := [.ref (B.1 + 0), .int (z (i + 1)), .ref (B.1 + 377)]) (rest := []) rfl rfl (by decide) (by decide) (Nat.le_of_ble_eq_true rfl) hk hn dL_law_876 fun r G1 sz1 hh => ?_
  obtain ⟨rfl, hW1⟩ := hh
  refine J_is hx (by decide) (hc_of rfl) rfl dL_law_879 ?_
  refine J_al4 hx (i := 2) rfl rfl dL_law_881 ?_
  refine J_argz hx hX (i := i) (j := 1) (by omega) rfl rfl dL_law_882 dL_law_883 dL_law_885 rfl dL_law_886 dL_law_887 ?_
  refine J_wrV hx (kX13_close hW1 e2) ml_L_148 lk_X13_close (ci := 11) rfl (hW1.obj (rfl : kd 371 = 19) (by decide) (by decide)) (As := [.int (z (i + 1))]) (rest := []) rfl rfl (by decide) (by decide) (Nat.le_of_ble_eq_true rfl) hk hn dL_law_888 fun G2 hW2 => ?_
  exact J_tail hx hW2 h5 ho hk hn dL_law_891 dL_law_893 dL_law_894 dL_law_897 dL_law_899 dL_law_904 dL_law_906 dL_law_909 dL_law_910 dL_law_911 dL_law_912 dL_law_914 dL_law_915 dL_law_916 dL_law_921 rfl (kk _ _ _ _ _ _ _ (Nat.le_refl _) (Nat.le_refl _) hW2 hA2)
theorem lc_10 (hx : Fx X cL_law 7 RL 12 mc ms) (hC : GC (xΓ X) B) (htr : (xl X).stackTraces = false) (hX : XS X b L z) (hi : i + 6 ≤ L) (hW : Wd (xΓ X) B w G) (hA : AL T w) (hT : T + 40000 ≤ 1000000000) (hk : k + 1 ≤ mc) (hn : n + 6 ≤ ms) (kk : ∀ (G2 : Gf) (sz2 k2 n2 : Nat) (w2 : Wl) (l5 l6 : Option Value), k2 ≤ k + 1 → n2 ≤ n + 6 → Wd (xΓ X) B w2 G2 → AL (T + 40000) w2 → J X 7 G2 sz2 k2 n2 2092 (lsL B b i l5 l6) []) : J X 7 G sz k n 924 (lsL B b i none none) [] := by
  obtain ⟨kc, w1, e1, bb, w2, e2, h5, ho, hA2⟩ := b_nest hA hT (z (i + 1)) (z (i + 2))
  have e2 : sX13_nest w1 (z (i + 1)) (z (i + 2)) = some (bb, w2) := e2
  refine J_al4 hx (i := 1) rfl rfl dL_law_924 ?_
  refine J_argz hx hX (i := i) (j := 1) (by omega) rfl rfl dL_law_925 dL_law_926 dL_law_928 rfl dL_law_929 dL_law_930 ?_
  refine J_argz hx hX (i := i) (j := 2) (by omega) rfl rfl dL_law_931 dL_law_932 dL_law_934 rfl dL_law_935 dL_law_936 ?_
  refine J_al4 hx (i := 3) rfl rfl dL_law_937 ?_
  refine J_callSW hx (kL_nest (l := xl X) htr hC hW e1) ml_L_149 cw_nest (wtm_5 216 (by decide +kernel) (by decide +kernel)) ini_L ⟨by decide +kernel, by decide +kernel, by decide +kernel⟩ (nA := 4) (As := [.ref (B.1 + 0), .int (z (i + 1)), .int (z (i + 2)), .ref (B.1 + 377)]) (rest := []) rfl rfl (by decide) (by decide) (Nat.le_of_ble_eq_true rfl) hk hn dL_law_938 fun r G1 sz1 hh => ?_
  obtain ⟨rfl, hW1⟩ := hh
  refine J_is hx (by decide) (hc_of rfl) rfl dL_law_941 ?_
  refine J_al4 hx (i := 2) rfl rfl dL_law_943 ?_
  refine J_argz hx hX (i := i) (j := 1) (by omega) rfl rfl dL_law_944 dL_law_945 dL_law_947 rfl dL_law_948 dL_law_949 ?_
  refine J_argz hx hX (i := i) (j := 2) (by omega) rfl rfl dL_law_950 dL_law_951 dL_law_953 rfl dL_law_954 dL_law_955 ?_
  refine J_wrV hx (kX13_nest hW1 e2) ml_L_151 lk_X13_nest (ci := 11) rfl (hW1.obj (rfl : kd 371 = 19) (by decide) (by decide)) (As := [.int (z (i + 1)), .int (z (i + 2))]) (rest := []) rfl rfl (by decide) (by decide) (Nat.le_of_ble_eq_true rfl) hk hn dL_law_956 fun G2 hW2 => ?_
  exact J_tail hx hW2 h5 ho hk hn dL_law_959 dL_law_961 dL_law_962 dL_law_965 dL_law_967 dL_law_972 dL_law_974 dL_law_977 dL_law_978 dL_law_979 dL_law_980 dL_law_982 dL_law_983 dL_law_984 dL_law_989 rfl (kk _ _ _ _ _ _ _ (Nat.le_refl _) (Nat.le_refl _) hW2 hA2)
theorem lc_11 (hx : Fx X cL_law 7 RL 12 mc ms) (hC : GC (xΓ X) B) (htr : (xl X).stackTraces = false) (hX : XS X b L z) (hi : i + 6 ≤ L) (hW : Wd (xΓ X) B w G) (hA : AL T w) (hT : T + 40000 ≤ 1000000000) (hk : k + 1 ≤ mc) (hn : n + 6 ≤ ms) (kk : ∀ (G2 : Gf) (sz2 k2 n2 : Nat) (w2 : Wl) (l5 l6 : Option Value), k2 ≤ k + 1 → n2 ≤ n + 6 → Wd (xΓ X) B w2 G2 → AL (T + 40000) w2 → J X 7 G2 sz2 k2 n2 2092 (lsL B b i l5 l6) []) : J X 7 G sz k n 992 (lsL B b i none none) [] := by
  obtain ⟨kc, w1, e1, bb, w2, e2, h5, ho, hA2⟩ := b_takeOut hA hT (z (i + 1))
  have e2 : sX13_takeOut w1 (z (i + 1)) = some (bb, w2) := e2
  refine J_al4 hx (i := 1) rfl rfl dL_law_992 ?_
  refine J_argz hx hX (i := i) (j := 1) (by omega) rfl rfl dL_law_993 dL_law_994 dL_law_996 rfl dL_law_997 dL_law_998 ?_
  refine J_al4 hx (i := 3) rfl rfl dL_law_999 ?_
  refine J_callSW hx (kL_takeOut (l := xl X) htr hC hW e1) ml_L_152 cw_takeOut (wtm_5 223 (by decide +kernel) (by decide +kernel)) ini_L ⟨by decide +kernel, by decide +kernel, by decide +kernel⟩ (nA := 3) (As := [.ref (B.1 + 0), .int (z (i + 1)), .ref (B.1 + 377)]) (rest := []) rfl rfl (by decide) (by decide) (Nat.le_of_ble_eq_true rfl) hk hn dL_law_1000 fun r G1 sz1 hh => ?_
  obtain ⟨rfl, hW1⟩ := hh
  refine J_is hx (by decide) (hc_of rfl) rfl dL_law_1003 ?_
  refine J_al4 hx (i := 2) rfl rfl dL_law_1005 ?_
  refine J_argz hx hX (i := i) (j := 1) (by omega) rfl rfl dL_law_1006 dL_law_1007 dL_law_1009 rfl dL_law_1010 dL_law_1011 ?_
  refine J_wrV hx (kX13_takeOut hW1 e2) ml_L_154 lk_X13_takeOut (ci := 11) rfl (hW1.obj (rfl : kd 371 = 19) (by decide) (by decide)) (As := [.int (z (i + 1))]) (rest := []) rfl rfl (by decide) (by decide) (Nat.le_of_ble_eq_true rfl) hk hn dL_law_1012 fun G2 hW2 => ?_
  exact J_tail hx hW2 h5 ho hk hn dL_law_1015 dL_law_1017 dL_law_1018 dL_law_1021 dL_law_1023 dL_law_1028 dL_law_1030 dL_law_1033 dL_law_1034 dL_law_1035 dL_law_1036 dL_law_1038 dL_law_1039 dL_law_1040 dL_law_1045 rfl (kk _ _ _ _ _ _ _ (Nat.le_refl _) (Nat.le_refl _) hW2 hA2)
theorem lc_12 (hx : Fx X cL_law 7 RL 12 mc ms) (hC : GC (xΓ X) B) (htr : (xl X).stackTraces = false) (hX : XS X b L z) (hi : i + 6 ≤ L) (hW : Wd (xΓ X) B w G) (hA : AL T w) (hT : T + 40000 ≤ 1000000000) (hk : k + 1 ≤ mc) (hn : n + 6 ≤ ms) (kk : ∀ (G2 : Gf) (sz2 k2 n2 : Nat) (w2 : Wl) (l5 l6 : Option Value), k2 ≤ k + 1 → n2 ≤ n + 6 → Wd (xΓ X) B w2 G2 → AL (T + 40000) w2 → J X 7 G2 sz2 k2 n2 2092 (lsL B b i l5 l6) []) : J X 7 G sz k n 1048 (lsL B b i none none) [] := by
  obtain ⟨kc, w1, e1, bb, w2, e2, h5, ho, hA2⟩ := b_pack hA hT (z (i + 1)) (z (i + 2))
  have e2 : sX13_pack w1 (z (i + 1)) (z (i + 2)) = some (bb, w2) := e2
  refine J_al4 hx (i := 1) rfl rfl dL_law_1048 ?_
  refine J_argz hx hX (i := i) (j := 1) (by omega) rfl rfl dL_law_1049 dL_law_1050 dL_law_1052 rfl dL_law_1053 dL_law_1054 ?_
  refine J_argz hx hX (i := i) (j := 2) (by omega) rfl rfl dL_law_1055 dL_law_1056 dL_law_1058 rfl dL_law_1059 dL_law_1060 ?_
  refine J_al4 hx (i := 3) rfl rfl dL_law_1061 ?_
  refine J_callSW hx (kL_pack (l := xl X) htr hC hW e1) ml_L_155 cw_pack (wtm_5 230 (by decide +kernel) (by decide +kernel)) ini_L ⟨by decide +kernel, by decide +kernel, by decide +kernel⟩ (nA := 4) (As := [.ref (B.1 + 0), .int (z (i + 1)), .int (z (i + 2)), .ref (B.1 + 377)]) (rest := []) rfl rfl (by decide) (by decide) (Nat.le_of_ble_eq_true rfl) hk hn dL_law_1062 fun r G1 sz1 hh => ?_
  obtain ⟨rfl, hW1⟩ := hh
  refine J_is hx (by decide) (hc_of rfl) rfl dL_law_1065 ?_
  refine J_al4 hx (i := 2) rfl rfl dL_law_1067 ?_
  refine J_argz hx hX (i := i) (j := 1) (by omega) rfl rfl dL_law_1068 dL_law_1069 dL_law_1071 rfl dL_law_1072 dL_law_1073 ?_
  refine J_argz hx hX (i := i) (j := 2) (by omega) rfl rfl dL_law_1074 dL_law_1075 dL_law_1077 rfl dL_law_1078 dL_law_1079 ?_
  refine J_wrV hx (kX13_pack hW1 e2) ml_L_157 lk_X13_pack (ci := 11) rfl (hW1.obj (rfl : kd 371 = 19) (by decide) (by decide)) (As := [.int (z (i + 1)), .int (z (i + 2))]) (rest := []) rfl rfl (by decide) (by decide) (Nat.le_of_ble_eq_true rfl) hk hn dL_law_1080 fun G2 hW2 => ?_
  exact J_tail hx hW2 h5 ho hk hn dL_law_1083 dL_law_1085 dL_law_1086 dL_law_1089 dL_law_1091 dL_law_1096 dL_law_1098 dL_law_1101 dL_law_1102 dL_law_1103 dL_law_1104 dL_law_1106 dL_law_1107 dL_law_1108 dL_law_1113 rfl (kk _ _ _ _ _ _ _ (Nat.le_refl _) (Nat.le_refl _) hW2 hA2)
theorem lc_13 (hx : Fx X cL_law 7 RL 12 mc ms) (hC : GC (xΓ X) B) (htr : (xl X).stackTraces = false) (hX : XS X b L z) (hi : i + 6 ≤ L) (hW : Wd (xΓ X) B w G) (hA : AL T w) (hT : T + 40000 ≤ 1000000000) (hk : k + 1 ≤ mc) (hn : n + 6 ≤ ms) (kk : ∀ (G2 : Gf) (sz2 k2 n2 : Nat) (w2 : Wl) (l5 l6 : Option Value), k2 ≤ k + 1 → n2 ≤ n + 6 → Wd (xΓ X) B w2 G2 → AL (T + 40000) w2 → J X 7 G2 sz2 k2 n2 2092 (lsL B b i l5 l6) []) : J X 7 G sz k n 1116 (lsL B b i none none) [] := by
  obtain ⟨kc, w1, e1, bb, w2, e2, h5, ho, hA2⟩ := b_unpack hA hT (z (i + 1))
  have e2 : sX13_unpack w1 (z (i + 1)) = some (bb, w2) := e2
  refine J_al4 hx (i := 1) rfl rfl dL_law_1116 ?_
  refine J_argz hx hX (i := i) (j := 1) (by omega) rfl rfl dL_law_1117 dL_law_1118 dL_law_1120 rfl dL_law_1121 dL_law_1122 ?_
  refine J_al4 hx (i := 3) rfl rfl dL_law_1123 ?_
  refine J_callSW hx (kL_unpack (l := xl X) htr hC hW e1) ml_L_158 cw_unpack (wtm_5 237 (by decide +kernel) (by decide +kernel)) ini_L ⟨by decide +kernel, by decide +kernel, by decide +kernel⟩ (nA := 3) (As := [.ref (B.1 + 0), .int (z (i + 1)), .ref (B.1 + 377)]) (rest := []) rfl rfl (by decide) (by decide) (Nat.le_of_ble_eq_true rfl) hk hn dL_law_1124 fun r G1 sz1 hh => ?_
  obtain ⟨rfl, hW1⟩ := hh
  refine J_is hx (by decide) (hc_of rfl) rfl dL_law_1127 ?_
  refine J_al4 hx (i := 2) rfl rfl dL_law_1129 ?_
  refine J_argz hx hX (i := i) (j := 1) (by omega) rfl rfl dL_law_1130 dL_law_1131 dL_law_1133 rfl dL_law_1134 dL_law_1135 ?_
  refine J_wrV hx (kX13_unpack hW1 e2) ml_L_160 lk_X13_unpack (ci := 11) rfl (hW1.obj (rfl : kd 371 = 19) (by decide) (by decide)) (As := [.int (z (i + 1))]) (rest := []) rfl rfl (by decide) (by decide) (Nat.le_of_ble_eq_true rfl) hk hn dL_law_1136 fun G2 hW2 => ?_
  exact J_tail hx hW2 h5 ho hk hn dL_law_1139 dL_law_1141 dL_law_1142 dL_law_1145 dL_law_1147 dL_law_1152 dL_law_1154 dL_law_1157 dL_law_1158 dL_law_1159 dL_law_1160 dL_law_1162 dL_law_1163 dL_law_1164 dL_law_1169 rfl (kk _ _ _ _ _ _ _ (Nat.le_refl _) (Nat.le_refl _) hW2 hA2)
theorem lc_14 (hx : Fx X cL_law 7 RL 12 mc ms) (hC : GC (xΓ X) B) (htr : (xl X).stackTraces = false) (hX : XS X b L z) (hi : i + 6 ≤ L) (hW : Wd (xΓ X) B w G) (hA : AL T w) (hT : T + 40000 ≤ 1000000000) (hk : k + 1 ≤ mc) (hn : n + 6 ≤ ms) (kk : ∀ (G2 : Gf) (sz2 k2 n2 : Nat) (w2 : Wl) (l5 l6 : Option Value), k2 ≤ k + 1 → n2 ≤ n + 6 → Wd (xΓ X) B w2 G2 → AL (T + 40000) w2 → J X 7 G2 sz2 k2 n2 2092 (lsL B b i l5 l6) []) : J X 7 G sz k n 1172 (lsL B b i none none) [] := by
  obtain ⟨kc, w1, e1, bb, w2, e2, h5, ho, hA2⟩ := b_send hA hT (z (i + 1)) (z (i + 2)) (z (i + 3))
  have e2 : sX13_send w1 (z (i + 1)) (z (i + 2)) (z (i + 3)) = some (bb, w2) := e2
  refine J_al4 hx (i := 1) rfl rfl dL_law_1172 ?_
  refine J_argz hx hX (i := i) (j := 1) (by omega) rfl rfl dL_law_1173 dL_law_1174 dL_law_1176 rfl dL_law_1177 dL_law_1178 ?_
  refine J_argz hx hX (i := i) (j := 2) (by omega) rfl rfl dL_law_1179 dL_law_1180 dL_law_1182 rfl dL_law_1183 dL_law_1184 ?_
  refine J_argz hx hX (i := i) (j := 3) (by omega) rfl rfl dL_law_1185 dL_law_1186 dL_law_1188 rfl dL_law_1189 dL_law_1190 ?_
  refine J_al4 hx (i := 3) rfl rfl dL_law_1191 ?_
  refine J_callSW hx (kL_send (l := xl X) htr hC hW e1) ml_L_161 cw_send (wtm_6 4 (by decide +kernel) (by decide +kernel)) ini_L ⟨by decide +kernel, by decide +kernel, by decide +kernel⟩ (nA := 5) (As := [.ref (B.1 + 0), .int (z (i + 1)), .int (z (i + 2)), .int (z (i + 3)), .ref (B.1 + 377)]) (rest := []) rfl rfl (by decide) (by decide) (Nat.le_of_ble_eq_true rfl) hk hn dL_law_1192 fun r G1 sz1 hh => ?_
  obtain ⟨rfl, hW1⟩ := hh
  refine J_is hx (by decide) (hc_of rfl) rfl dL_law_1195 ?_
  refine J_al4 hx (i := 2) rfl rfl dL_law_1197 ?_
  refine J_argz hx hX (i := i) (j := 1) (by omega) rfl rfl dL_law_1198 dL_law_1199 dL_law_1201 rfl dL_law_1202 dL_law_1203 ?_
  refine J_argz hx hX (i := i) (j := 2) (by omega) rfl rfl dL_law_1204 dL_law_1205 dL_law_1207 rfl dL_law_1208 dL_law_1209 ?_
  refine J_argz hx hX (i := i) (j := 3) (by omega) rfl rfl dL_law_1210 dL_law_1211 dL_law_1213 rfl dL_law_1214 dL_law_1215 ?_
  refine J_wrV hx (kX13_send hW1 e2) ml_L_163 lk_X13_send (ci := 11) rfl (hW1.obj (rfl : kd 371 = 19) (by decide) (by decide)) (As := [.int (z (i + 1)), .int (z (i + 2)), .int (z (i + 3))]) (rest := []) rfl rfl (by decide) (by decide) (Nat.le_of_ble_eq_true rfl) hk hn dL_law_1216 fun G2 hW2 => ?_
  exact J_tail hx hW2 h5 ho hk hn dL_law_1219 dL_law_1221 dL_law_1222 dL_law_1225 dL_law_1227 dL_law_1232 dL_law_1234 dL_law_1237 dL_law_1238 dL_law_1239 dL_law_1240 dL_law_1242 dL_law_1243 dL_law_1244 dL_law_1249 rfl (kk _ _ _ _ _ _ _ (Nat.le_refl _) (Nat.le_refl _) hW2 hA2)
theorem lc_15 (hx : Fx X cL_law 7 RL 12 mc ms) (hC : GC (xΓ X) B) (htr : (xl X).stackTraces = false) (hX : XS X b L z) (hi : i + 6 ≤ L) (hW : Wd (xΓ X) B w G) (hA : AL T w) (hT : T + 40000 ≤ 1000000000) (hk : k + 1 ≤ mc) (hn : n + 6 ≤ ms) (kk : ∀ (G2 : Gf) (sz2 k2 n2 : Nat) (w2 : Wl) (l5 l6 : Option Value), k2 ≤ k + 1 → n2 ≤ n + 6 → Wd (xΓ X) B w2 G2 → AL (T + 40000) w2 → J X 7 G2 sz2 k2 n2 2092 (lsL B b i l5 l6) []) : J X 7 G sz k n 1252 (lsL B b i none none) [] := by
  obtain ⟨kc, w1, e1, bb, w2, e2, h5, ho, hA2⟩ := b_advance hA hT (z (i + 1))
  have e2 : sX13_advance w1 (z (i + 1)) = some (bb, w2) := e2
  refine J_al4 hx (i := 1) rfl rfl dL_law_1252 ?_
  refine J_argz hx hX (i := i) (j := 1) (by omega) rfl rfl dL_law_1253 dL_law_1254 dL_law_1256 rfl dL_law_1257 dL_law_1258 ?_
  refine J_al4 hx (i := 3) rfl rfl dL_law_1259 ?_
  refine J_callSW hx (kL_advance (l := xl X) htr hC hW e1) ml_L_164 cw_advance (wtm_6 11 (by decide +kernel) (by decide +kernel)) ini_L ⟨by decide +kernel, by decide +kernel, by decide +kernel⟩ (nA := 3) (As := [.ref (B.1 + 0), .int (z (i + 1)), .ref (B.1 + 377)]) (rest := []) rfl rfl (by decide) (by decide) (Nat.le_of_ble_eq_true rfl) hk hn dL_law_1260 fun r G1 sz1 hh => ?_
  obtain ⟨rfl, hW1⟩ := hh
  refine J_is hx (by decide) (hc_of rfl) rfl dL_law_1263 ?_
  refine J_al4 hx (i := 2) rfl rfl dL_law_1265 ?_
  refine J_argz hx hX (i := i) (j := 1) (by omega) rfl rfl dL_law_1266 dL_law_1267 dL_law_1269 rfl dL_law_1270 dL_law_1271 ?_
  refine J_wrV hx (kX13_advance hW1 e2) ml_L_166 lk_X13_advance (ci := 11) rfl (hW1.obj (rfl : kd 371 = 19) (by decide) (by decide)) (As := [.int (z (i + 1))]) (rest := []) rfl rfl (by decide) (by decide) (Nat.le_of_ble_eq_true rfl) hk hn dL_law_1272 fun G2 hW2 => ?_
  exact J_tail hx hW2 h5 ho hk hn dL_law_1275 dL_law_1277 dL_law_1278 dL_law_1281 dL_law_1283 dL_law_1288 dL_law_1290 dL_law_1293 dL_law_1294 dL_law_1295 dL_law_1296 dL_law_1298 dL_law_1299 dL_law_1300 dL_law_1305 rfl (kk _ _ _ _ _ _ _ (Nat.le_refl _) (Nat.le_refl _) hW2 hA2)
theorem lc_16 (hx : Fx X cL_law 7 RL 12 mc ms) (hC : GC (xΓ X) B) (htr : (xl X).stackTraces = false) (hX : XS X b L z) (hi : i + 6 ≤ L) (hW : Wd (xΓ X) B w G) (hA : AL T w) (hT : T + 40000 ≤ 1000000000) (hk : k + 1 ≤ mc) (hn : n + 6 ≤ ms) (kk : ∀ (G2 : Gf) (sz2 k2 n2 : Nat) (w2 : Wl) (l5 l6 : Option Value), k2 ≤ k + 1 → n2 ≤ n + 6 → Wd (xΓ X) B w2 G2 → AL (T + 40000) w2 → J X 7 G2 sz2 k2 n2 2092 (lsL B b i l5 l6) []) : J X 7 G sz k n 1308 (lsL B b i none none) [] := by
  obtain ⟨kc, w1, e1, bb, w2, e2, h5, ho, hA2⟩ := b_refusal hA hT (z (i + 1)) (z (i + 2)) (z (i + 3))
  have e2 : sX13_refusal w1 (z (i + 1)) (z (i + 2)) (z (i + 3)) = some (bb, w2) := e2
  refine J_al4 hx (i := 1) rfl rfl dL_law_1308 ?_
  refine J_argz hx hX (i := i) (j := 1) (by omega) rfl rfl dL_law_1309 dL_law_1310 dL_law_1312 rfl dL_law_1313 dL_law_1314 ?_
  refine J_argz hx hX (i := i) (j := 2) (by omega) rfl rfl dL_law_1315 dL_law_1316 dL_law_1318 rfl dL_law_1319 dL_law_1320 ?_
  refine J_argz hx hX (i := i) (j := 3) (by omega) rfl rfl dL_law_1321 dL_law_1322 dL_law_1324 rfl dL_law_1325 dL_law_1326 ?_
  refine J_al4 hx (i := 3) rfl rfl dL_law_1327 ?_
  refine J_callSW hx (kL_refusal (l := xl X) htr hC hW e1) ml_L_167 cw_refusal (wtm_6 18 (by decide +kernel) (by decide +kernel)) ini_L ⟨by decide +kernel, by decide +kernel, by decide +kernel⟩ (nA := 5) (As := [.ref (B.1 + 0), .int (z (i + 1)), .int (z (i + 2)), .int (z (i + 3)), .ref (B.1 + 377)]) (rest := []) rfl rfl (by decide) (by decide) (Nat.le_of_ble_eq_true rfl) hk hn dL_law_1328 fun r G1 sz1 hh => ?_
  obtain ⟨rfl, hW1⟩ := hh
  refine J_is hx (by decide) (hc_of rfl) rfl dL_law_1331 ?_
  refine J_al4 hx (i := 2) rfl rfl dL_law_1333 ?_
  refine J_argz hx hX (i := i) (j := 1) (by omega) rfl rfl dL_law_1334 dL_law_1335 dL_law_1337 rfl dL_law_1338 dL_law_1339 ?_
  refine J_argz hx hX (i := i) (j := 2) (by omega) rfl rfl dL_law_1340 dL_law_1341 dL_law_1343 rfl dL_law_1344 dL_law_1345 ?_
  refine J_argz hx hX (i := i) (j := 3) (by omega) rfl rfl dL_law_1346 dL_law_1347 dL_law_1349 rfl dL_law_1350 dL_law_1351 ?_
  refine J_wrV hx (kX13_refusal hW1 e2) ml_L_169 lk_X13_refusal (ci := 11) rfl (hW1.obj (rfl : kd 371 = 19) (by decide) (by decide)) (As := [.int (z (i + 1)), .int (z (i + 2)), .int (z (i + 3))]) (rest := []) rfl rfl (by decide) (by decide) (Nat.le_of_ble_eq_true rfl) hk hn dL_law_1352 fun G2 hW2 => ?_
  exact J_tail hx hW2 h5 ho hk hn dL_law_1355 dL_law_1357 dL_law_1358 dL_law_1361 dL_law_1363 dL_law_1368 dL_law_1370 dL_law_1373 dL_law_1374 dL_law_1375 dL_law_1376 dL_law_1378 dL_law_1379 dL_law_1380 dL_law_1385 rfl (kk _ _ _ _ _ _ _ (Nat.le_refl _) (Nat.le_refl _) hW2 hA2)
theorem lc_17 (hx : Fx X cL_law 7 RL 12 mc ms) (hC : GC (xΓ X) B) (htr : (xl X).stackTraces = false) (hX : XS X b L z) (hi : i + 6 ≤ L) (hW : Wd (xΓ X) B w G) (hA : AL T w) (hT : T + 40000 ≤ 1000000000) (hk : k + 1 ≤ mc) (hn : n + 6 ≤ ms) (kk : ∀ (G2 : Gf) (sz2 k2 n2 : Nat) (w2 : Wl) (l5 l6 : Option Value), k2 ≤ k + 1 → n2 ≤ n + 6 → Wd (xΓ X) B w2 G2 → AL (T + 40000) w2 → J X 7 G2 sz2 k2 n2 2092 (lsL B b i l5 l6) []) : J X 7 G sz k n 1388 (lsL B b i none none) [] := by
  obtain ⟨kc, w1, e1, bb, w2, e2, h5, ho, hA2⟩ := b_crate hA hT (z (i + 1)) (z (i + 2))
  have e2 : sX13_crate w1 (z (i + 1)) (z (i + 2)) = some (bb, w2) := e2
  refine J_al4 hx (i := 1) rfl rfl dL_law_1388 ?_
  refine J_argz hx hX (i := i) (j := 1) (by omega) rfl rfl dL_law_1389 dL_law_1390 dL_law_1392 rfl dL_law_1393 dL_law_1394 ?_
  refine J_argz hx hX (i := i) (j := 2) (by omega) rfl rfl dL_law_1395 dL_law_1396 dL_law_1398 rfl dL_law_1399 dL_law_1400 ?_
  refine J_al4 hx (i := 3) rfl rfl dL_law_1401 ?_
  refine J_callSW hx (kL_crate (l := xl X) htr hC hW e1) ml_L_170 cw_crate (wtm_6 27 (by decide +kernel) (by decide +kernel)) ini_L ⟨by decide +kernel, by decide +kernel, by decide +kernel⟩ (nA := 4) (As := [.ref (B.1 + 0), .int (z (i + 1)), .int (z (i + 2)), .ref (B.1 + 377)]) (rest := []) rfl rfl (by decide) (by decide) (Nat.le_of_ble_eq_true rfl) hk hn dL_law_1402 fun r G1 sz1 hh => ?_
  obtain ⟨rfl, hW1⟩ := hh
  refine J_is hx (by decide) (hc_of rfl) rfl dL_law_1405 ?_
  refine J_al4 hx (i := 2) rfl rfl dL_law_1407 ?_
  refine J_argz hx hX (i := i) (j := 1) (by omega) rfl rfl dL_law_1408 dL_law_1409 dL_law_1411 rfl dL_law_1412 dL_law_1413 ?_
  refine J_argz hx hX (i := i) (j := 2) (by omega) rfl rfl dL_law_1414 dL_law_1415 dL_law_1417 rfl dL_law_1418 dL_law_1419 ?_
  refine J_wrV hx (kX13_crate hW1 e2) ml_L_172 lk_X13_crate (ci := 11) rfl (hW1.obj (rfl : kd 371 = 19) (by decide) (by decide)) (As := [.int (z (i + 1)), .int (z (i + 2))]) (rest := []) rfl rfl (by decide) (by decide) (Nat.le_of_ble_eq_true rfl) hk hn dL_law_1420 fun G2 hW2 => ?_
  exact J_tail hx hW2 h5 ho hk hn dL_law_1423 dL_law_1425 dL_law_1426 dL_law_1429 dL_law_1431 dL_law_1436 dL_law_1438 dL_law_1441 dL_law_1442 dL_law_1443 dL_law_1444 dL_law_1446 dL_law_1447 dL_law_1448 dL_law_1453 rfl (kk _ _ _ _ _ _ _ (Nat.le_refl _) (Nat.le_refl _) hW2 hA2)
theorem lc_18 (hx : Fx X cL_law 7 RL 12 mc ms) (hC : GC (xΓ X) B) (htr : (xl X).stackTraces = false) (hX : XS X b L z) (hi : i + 6 ≤ L) (hW : Wd (xΓ X) B w G) (hA : AL T w) (hT : T + 40000 ≤ 1000000000) (hk : k + 1 ≤ mc) (hn : n + 6 ≤ ms) (kk : ∀ (G2 : Gf) (sz2 k2 n2 : Nat) (w2 : Wl) (l5 l6 : Option Value), k2 ≤ k + 1 → n2 ≤ n + 6 → Wd (xΓ X) B w2 G2 → AL (T + 40000) w2 → J X 7 G2 sz2 k2 n2 2092 (lsL B b i l5 l6) []) : J X 7 G sz k n 1456 (lsL B b i none none) [] := by
  obtain ⟨kc, w1, e1, bb, w2, e2, h5, ho, hA2⟩ := b_work hA hT (z (i + 1)) (z (i + 2))
  have e2 : sX13_work w1 (z (i + 1)) (z (i + 2)) = some (bb, w2) := e2
  refine J_al4 hx (i := 1) rfl rfl dL_law_1456 ?_
  refine J_argz hx hX (i := i) (j := 1) (by omega) rfl rfl dL_law_1457 dL_law_1458 dL_law_1460 rfl dL_law_1461 dL_law_1462 ?_
  refine J_argz hx hX (i := i) (j := 2) (by omega) rfl rfl dL_law_1463 dL_law_1464 dL_law_1466 rfl dL_law_1467 dL_law_1468 ?_
  refine J_al4 hx (i := 3) rfl rfl dL_law_1469 ?_
  refine J_callSW hx (kL_work (l := xl X) htr hC hW e1) ml_L_173 cw_work (wtm_6 39 (by decide +kernel) (by decide +kernel)) ini_L ⟨by decide +kernel, by decide +kernel, by decide +kernel⟩ (nA := 4) (As := [.ref (B.1 + 0), .int (z (i + 1)), .int (z (i + 2)), .ref (B.1 + 377)]) (rest := []) rfl rfl (by decide) (by decide) (Nat.le_of_ble_eq_true rfl) hk hn dL_law_1470 fun r G1 sz1 hh => ?_
  obtain ⟨rfl, hW1⟩ := hh
  refine J_is hx (by decide) (hc_of rfl) rfl dL_law_1473 ?_
  refine J_al4 hx (i := 2) rfl rfl dL_law_1475 ?_
  refine J_argz hx hX (i := i) (j := 1) (by omega) rfl rfl dL_law_1476 dL_law_1477 dL_law_1479 rfl dL_law_1480 dL_law_1481 ?_
  refine J_argz hx hX (i := i) (j := 2) (by omega) rfl rfl dL_law_1482 dL_law_1483 dL_law_1485 rfl dL_law_1486 dL_law_1487 ?_
  refine J_wrV hx (kX13_work hW1 e2) ml_L_175 lk_X13_work (ci := 11) rfl (hW1.obj (rfl : kd 371 = 19) (by decide) (by decide)) (As := [.int (z (i + 1)), .int (z (i + 2))]) (rest := []) rfl rfl (by decide) (by decide) (Nat.le_of_ble_eq_true rfl) hk hn dL_law_1488 fun G2 hW2 => ?_
  exact J_tail hx hW2 h5 ho hk hn dL_law_1491 dL_law_1493 dL_law_1494 dL_law_1497 dL_law_1499 dL_law_1504 dL_law_1506 dL_law_1509 dL_law_1510 dL_law_1511 dL_law_1512 dL_law_1514 dL_law_1515 dL_law_1516 dL_law_1521 rfl (kk _ _ _ _ _ _ _ (Nat.le_refl _) (Nat.le_refl _) hW2 hA2)
theorem lc_19 (hx : Fx X cL_law 7 RL 12 mc ms) (hC : GC (xΓ X) B) (htr : (xl X).stackTraces = false) (hX : XS X b L z) (hi : i + 6 ≤ L) (hW : Wd (xΓ X) B w G) (hA : AL T w) (hT : T + 40000 ≤ 1000000000) (hk : k + 1 ≤ mc) (hn : n + 6 ≤ ms) (kk : ∀ (G2 : Gf) (sz2 k2 n2 : Nat) (w2 : Wl) (l5 l6 : Option Value), k2 ≤ k + 1 → n2 ≤ n + 6 → Wd (xΓ X) B w2 G2 → AL (T + 40000) w2 → J X 7 G2 sz2 k2 n2 2092 (lsL B b i l5 l6) []) : J X 7 G sz k n 1524 (lsL B b i none none) [] := by
  obtain ⟨kc, w1, e1, bb, w2, e2, h5, ho, hA2⟩ := b_noted hA hT (z (i + 1)) (z (i + 2))
  have e2 : sX13_noted w1 (z (i + 1)) (z (i + 2)) = some (bb, w2) := e2
  refine J_al4 hx (i := 1) rfl rfl dL_law_1524 ?_
  refine J_argz hx hX (i := i) (j := 1) (by omega) rfl rfl dL_law_1525 dL_law_1526 dL_law_1528 rfl dL_law_1529 dL_law_1530 ?_
  refine J_argz hx hX (i := i) (j := 2) (by omega) rfl rfl dL_law_1531 dL_law_1532 dL_law_1534 rfl dL_law_1535 dL_law_1536 ?_
  refine J_al4 hx (i := 3) rfl rfl dL_law_1537 ?_
  refine J_callSW hx (kL_noted (l := xl X) htr hC hW e1) ml_L_176 cw_noted (wtm_6 47 (by decide +kernel) (by decide +kernel)) ini_L ⟨by decide +kernel, by decide +kernel, by decide +kernel⟩ (nA := 4) (As := [.ref (B.1 + 0), .int (z (i + 1)), .int (z (i + 2)), .ref (B.1 + 377)]) (rest := []) rfl rfl (by decide) (by decide) (Nat.le_of_ble_eq_true rfl) hk hn dL_law_1538 fun r G1 sz1 hh => ?_
  obtain ⟨rfl, hW1⟩ := hh
  refine J_is hx (by decide) (hc_of rfl) rfl dL_law_1541 ?_
  refine J_al4 hx (i := 2) rfl rfl dL_law_1543 ?_
  refine J_argz hx hX (i := i) (j := 1) (by omega) rfl rfl dL_law_1544 dL_law_1545 dL_law_1547 rfl dL_law_1548 dL_law_1549 ?_
  refine J_argz hx hX (i := i) (j := 2) (by omega) rfl rfl dL_law_1550 dL_law_1551 dL_law_1553 rfl dL_law_1554 dL_law_1555 ?_
  refine J_wrV hx (kX13_noted hW1 e2) ml_L_178 lk_X13_noted (ci := 11) rfl (hW1.obj (rfl : kd 371 = 19) (by decide) (by decide)) (As := [.int (z (i + 1)), .int (z (i + 2))]) (rest := []) rfl rfl (by decide) (by decide) (Nat.le_of_ble_eq_true rfl) hk hn dL_law_1556 fun G2 hW2 => ?_
  exact J_tail hx hW2 h5 ho hk hn dL_law_1559 dL_law_1561 dL_law_1562 dL_law_1565 dL_law_1567 dL_law_1572 dL_law_1574 dL_law_1577 dL_law_1578 dL_law_1579 dL_law_1580 dL_law_1582 dL_law_1583 dL_law_1584 dL_law_1589 rfl (kk _ _ _ _ _ _ _ (Nat.le_refl _) (Nat.le_refl _) hW2 hA2)
theorem lc_20 (hx : Fx X cL_law 7 RL 12 mc ms) (hC : GC (xΓ X) B) (htr : (xl X).stackTraces = false) (hX : XS X b L z) (hi : i + 6 ≤ L) (hW : Wd (xΓ X) B w G) (hA : AL T w) (hT : T + 40000 ≤ 1000000000) (hk : k + 1 ≤ mc) (hn : n + 6 ≤ ms) (kk : ∀ (G2 : Gf) (sz2 k2 n2 : Nat) (w2 : Wl) (l5 l6 : Option Value), k2 ≤ k + 1 → n2 ≤ n + 6 → Wd (xΓ X) B w2 G2 → AL (T + 40000) w2 → J X 7 G2 sz2 k2 n2 2092 (lsL B b i l5 l6) []) : J X 7 G sz k n 1592 (lsL B b i none none) [] := by
  obtain ⟨kc, w1, e1, bb, w2, e2, h5, ho, hA2⟩ := b_venue hA hT (z (i + 1)) (z (i + 2))
  have e2 : sX13_venue w1 (z (i + 1)) (z (i + 2)) = some (bb, w2) := e2
  refine J_al4 hx (i := 1) rfl rfl dL_law_1592 ?_
  refine J_argz hx hX (i := i) (j := 1) (by omega) rfl rfl dL_law_1593 dL_law_1594 dL_law_1596 rfl dL_law_1597 dL_law_1598 ?_
  refine J_argz hx hX (i := i) (j := 2) (by omega) rfl rfl dL_law_1599 dL_law_1600 dL_law_1602 rfl dL_law_1603 dL_law_1604 ?_
  refine J_al4 hx (i := 3) rfl rfl dL_law_1605 ?_
  refine J_callSW hx (kL_venue (l := xl X) htr hC hW e1) ml_L_179 cw_venue (wtm_6 58 (by decide +kernel) (by decide +kernel)) ini_L ⟨by decide +kernel, by decide +kernel, by decide +kernel⟩ (nA := 4) (As := [.ref (B.1 + 0), .int (z (i + 1)), .int (z (i + 2)), .ref (B.1 + 377)]) (rest := []) rfl rfl (by decide) (by decide) (Nat.le_of_ble_eq_true rfl) hk hn dL_law_1606 fun r G1 sz1 hh => ?_
  obtain ⟨rfl, hW1⟩ := hh
  refine J_is hx (by decide) (hc_of rfl) rfl dL_law_1609 ?_
  refine J_al4 hx (i := 2) rfl rfl dL_law_1611 ?_
  refine J_argz hx hX (i := i) (j := 1) (by omega) rfl rfl dL_law_1612 dL_law_1613 dL_law_1615 rfl dL_law_1616 dL_law_1617 ?_
  refine J_argz hx hX (i := i) (j := 2) (by omega) rfl rfl dL_law_1618 dL_law_1619 dL_law_1621 rfl dL_law_1622 dL_law_1623 ?_
  refine J_wrV hx (kX13_venue hW1 e2) ml_L_181 lk_X13_venue (ci := 11) rfl (hW1.obj (rfl : kd 371 = 19) (by decide) (by decide)) (As := [.int (z (i + 1)), .int (z (i + 2))]) (rest := []) rfl rfl (by decide) (by decide) (Nat.le_of_ble_eq_true rfl) hk hn dL_law_1624 fun G2 hW2 => ?_
  exact J_tail hx hW2 h5 ho hk hn dL_law_1627 dL_law_1629 dL_law_1630 dL_law_1633 dL_law_1635 dL_law_1640 dL_law_1642 dL_law_1645 dL_law_1646 dL_law_1647 dL_law_1648 dL_law_1650 dL_law_1651 dL_law_1652 dL_law_1657 rfl (kk _ _ _ _ _ _ _ (Nat.le_refl _) (Nat.le_refl _) hW2 hA2)
theorem lc_21 (hx : Fx X cL_law 7 RL 12 mc ms) (hC : GC (xΓ X) B) (htr : (xl X).stackTraces = false) (hX : XS X b L z) (hi : i + 6 ≤ L) (hW : Wd (xΓ X) B w G) (hA : AL T w) (hT : T + 40000 ≤ 1000000000) (hk : k + 1 ≤ mc) (hn : n + 6 ≤ ms) (kk : ∀ (G2 : Gf) (sz2 k2 n2 : Nat) (w2 : Wl) (l5 l6 : Option Value), k2 ≤ k + 1 → n2 ≤ n + 6 → Wd (xΓ X) B w2 G2 → AL (T + 40000) w2 → J X 7 G2 sz2 k2 n2 2092 (lsL B b i l5 l6) []) : J X 7 G sz k n 1660 (lsL B b i none none) [] := by
  obtain ⟨kc, w1, e1, bb, w2, e2, h5, ho, hA2⟩ := b_courier hA hT (z (i + 1))
  have e2 : sX13_courier w1 (z (i + 1)) = some (bb, w2) := e2
  refine J_al4 hx (i := 1) rfl rfl dL_law_1660 ?_
  refine J_argz hx hX (i := i) (j := 1) (by omega) rfl rfl dL_law_1661 dL_law_1662 dL_law_1664 rfl dL_law_1665 dL_law_1666 ?_
  refine J_al4 hx (i := 3) rfl rfl dL_law_1667 ?_
  refine J_callSW hx (kL_courier (l := xl X) htr hC hW e1) ml_L_182 cw_courier (wtm_6 66 (by decide +kernel) (by decide +kernel)) ini_L ⟨by decide +kernel, by decide +kernel, by decide +kernel⟩ (nA := 3) (As := [.ref (B.1 + 0), .int (z (i + 1)), .ref (B.1 + 377)]) (rest := []) rfl rfl (by decide) (by decide) (Nat.le_of_ble_eq_true rfl) hk hn dL_law_1668 fun r G1 sz1 hh => ?_
  obtain ⟨rfl, hW1⟩ := hh
  refine J_is hx (by decide) (hc_of rfl) rfl dL_law_1671 ?_
  refine J_al4 hx (i := 2) rfl rfl dL_law_1673 ?_
  refine J_argz hx hX (i := i) (j := 1) (by omega) rfl rfl dL_law_1674 dL_law_1675 dL_law_1677 rfl dL_law_1678 dL_law_1679 ?_
  refine J_wrV hx (kX13_courier hW1 e2) ml_L_184 lk_X13_courier (ci := 11) rfl (hW1.obj (rfl : kd 371 = 19) (by decide) (by decide)) (As := [.int (z (i + 1))]) (rest := []) rfl rfl (by decide) (by decide) (Nat.le_of_ble_eq_true rfl) hk hn dL_law_1680 fun G2 hW2 => ?_
  exact J_tail hx hW2 h5 ho hk hn dL_law_1683 dL_law_1685 dL_law_1686 dL_law_1689 dL_law_1691 dL_law_1696 dL_law_1698 dL_law_1701 dL_law_1702 dL_law_1703 dL_law_1704 dL_law_1706 dL_law_1707 dL_law_1708 dL_law_1713 rfl (kk _ _ _ _ _ _ _ (Nat.le_refl _) (Nat.le_refl _) hW2 hA2)
theorem lc_22 (hx : Fx X cL_law 7 RL 12 mc ms) (hC : GC (xΓ X) B) (htr : (xl X).stackTraces = false) (hX : XS X b L z) (hi : i + 6 ≤ L) (hW : Wd (xΓ X) B w G) (hA : AL T w) (hT : T + 40000 ≤ 1000000000) (hk : k + 1 ≤ mc) (hn : n + 6 ≤ ms) (kk : ∀ (G2 : Gf) (sz2 k2 n2 : Nat) (w2 : Wl) (l5 l6 : Option Value), k2 ≤ k + 1 → n2 ≤ n + 6 → Wd (xΓ X) B w2 G2 → AL (T + 40000) w2 → J X 7 G2 sz2 k2 n2 2092 (lsL B b i l5 l6) []) : J X 7 G sz k n 1716 (lsL B b i none none) [] := by
  obtain ⟨kc, w1, e1, bb, w2, e2, h5, ho, hA2⟩ := b_whole hA hT (z (i + 1))
  have e2 : sX13_whole w1 (z (i + 1)) = some (bb, w2) := e2
  refine J_al4 hx (i := 1) rfl rfl dL_law_1716 ?_
  refine J_argz hx hX (i := i) (j := 1) (by omega) rfl rfl dL_law_1717 dL_law_1718 dL_law_1720 rfl dL_law_1721 dL_law_1722 ?_
  refine J_al4 hx (i := 3) rfl rfl dL_law_1723 ?_
  refine J_callSW hx (kL_whole (l := xl X) htr hC hW e1) ml_L_185 cw_whole (wtm_6 75 (by decide +kernel) (by decide +kernel)) ini_L ⟨by decide +kernel, by decide +kernel, by decide +kernel⟩ (nA := 3) (As := [.ref (B.1 + 0), .int (z (i + 1)), .ref (B.1 + 377)]) (rest := []) rfl rfl (by decide) (by decide) (Nat.le_of_ble_eq_true rfl) hk hn dL_law_1724 fun r G1 sz1 hh => ?_
  obtain ⟨rfl, hW1⟩ := hh
  refine J_is hx (by decide) (hc_of rfl) rfl dL_law_1727 ?_
  refine J_al4 hx (i := 2) rfl rfl dL_law_1729 ?_
  refine J_argz hx hX (i := i) (j := 1) (by omega) rfl rfl dL_law_1730 dL_law_1731 dL_law_1733 rfl dL_law_1734 dL_law_1735 ?_
  refine J_wrV hx (kX13_whole hW1 e2) ml_L_187 lk_X13_whole (ci := 11) rfl (hW1.obj (rfl : kd 371 = 19) (by decide) (by decide)) (As := [.int (z (i + 1))]) (rest := []) rfl rfl (by decide) (by decide) (Nat.le_of_ble_eq_true rfl) hk hn dL_law_1736 fun G2 hW2 => ?_
  exact J_tail hx hW2 h5 ho hk hn dL_law_1739 dL_law_1741 dL_law_1742 dL_law_1745 dL_law_1747 dL_law_1752 dL_law_1754 dL_law_1757 dL_law_1758 dL_law_1759 dL_law_1760 dL_law_1762 dL_law_1763 dL_law_1764 dL_law_1769 rfl (kk _ _ _ _ _ _ _ (Nat.le_refl _) (Nat.le_refl _) hW2 hA2)
theorem lc_23 (hx : Fx X cL_law 7 RL 12 mc ms) (hC : GC (xΓ X) B) (htr : (xl X).stackTraces = false) (hX : XS X b L z) (hi : i + 6 ≤ L) (hW : Wd (xΓ X) B w G) (hA : AL T w) (hT : T + 40000 ≤ 1000000000) (hk : k + 1 ≤ mc) (hn : n + 6 ≤ ms) (kk : ∀ (G2 : Gf) (sz2 k2 n2 : Nat) (w2 : Wl) (l5 l6 : Option Value), k2 ≤ k + 1 → n2 ≤ n + 6 → Wd (xΓ X) B w2 G2 → AL (T + 40000) w2 → J X 7 G2 sz2 k2 n2 2092 (lsL B b i l5 l6) []) : J X 7 G sz k n 1772 (lsL B b i none none) [] := by
  obtain ⟨kc, w1, e1, bb, w2, e2, h5, ho, hA2⟩ := b_readyAt hA hT (z (i + 1))
  have e2 : sX13_readyAt w1 (z (i + 1)) = some (bb, w2) := e2
  refine J_al4 hx (i := 1) rfl rfl dL_law_1772 ?_
  refine J_argz hx hX (i := i) (j := 1) (by omega) rfl rfl dL_law_1773 dL_law_1774 dL_law_1776 rfl dL_law_1777 dL_law_1778 ?_
  refine J_al4 hx (i := 3) rfl rfl dL_law_1779 ?_
  refine J_callSW hx (kL_readyAt (l := xl X) htr hC hW e1) ml_L_188 cw_readyAt (wtm_6 82 (by decide +kernel) (by decide +kernel)) ini_L ⟨by decide +kernel, by decide +kernel, by decide +kernel⟩ (nA := 3) (As := [.ref (B.1 + 0), .int (z (i + 1)), .ref (B.1 + 377)]) (rest := []) rfl rfl (by decide) (by decide) (Nat.le_of_ble_eq_true rfl) hk hn dL_law_1780 fun r G1 sz1 hh => ?_
  obtain ⟨rfl, hW1⟩ := hh
  refine J_is hx (by decide) (hc_of rfl) rfl dL_law_1783 ?_
  refine J_al4 hx (i := 2) rfl rfl dL_law_1785 ?_
  refine J_argz hx hX (i := i) (j := 1) (by omega) rfl rfl dL_law_1786 dL_law_1787 dL_law_1789 rfl dL_law_1790 dL_law_1791 ?_
  refine J_wrV hx (kX13_readyAt hW1 e2) ml_L_190 lk_X13_readyAt (ci := 11) rfl (hW1.obj (rfl : kd 371 = 19) (by decide) (by decide)) (As := [.int (z (i + 1))]) (rest := []) rfl rfl (by decide) (by decide) (Nat.le_of_ble_eq_true rfl) hk hn dL_law_1792 fun G2 hW2 => ?_
  exact J_tail hx hW2 h5 ho hk hn dL_law_1795 dL_law_1797 dL_law_1798 dL_law_1801 dL_law_1803 dL_law_1808 dL_law_1810 dL_law_1813 dL_law_1814 dL_law_1815 dL_law_1816 dL_law_1818 dL_law_1819 dL_law_1820 dL_law_1825 rfl (kk _ _ _ _ _ _ _ (Nat.le_refl _) (Nat.le_refl _) hW2 hA2)
theorem lc_24 (hx : Fx X cL_law 7 RL 12 mc ms) (hC : GC (xΓ X) B) (htr : (xl X).stackTraces = false) (hX : XS X b L z) (hi : i + 6 ≤ L) (hW : Wd (xΓ X) B w G) (hA : AL T w) (hT : T + 40000 ≤ 1000000000) (hk : k + 1 ≤ mc) (hn : n + 6 ≤ ms) (kk : ∀ (G2 : Gf) (sz2 k2 n2 : Nat) (w2 : Wl) (l5 l6 : Option Value), k2 ≤ k + 1 → n2 ≤ n + 6 → Wd (xΓ X) B w2 G2 → AL (T + 40000) w2 → J X 7 G2 sz2 k2 n2 2092 (lsL B b i l5 l6) []) : J X 7 G sz k n 1828 (lsL B b i none none) [] := by
  obtain ⟨kc, w1, e1, bb, w2, e2, h5, ho, hA2⟩ := b_allReadyAt hA hT (z (i + 1))
  have e2 : sX13_allReadyAt w1 (z (i + 1)) = some (bb, w2) := e2
  refine J_al4 hx (i := 1) rfl rfl dL_law_1828 ?_
  refine J_argz hx hX (i := i) (j := 1) (by omega) rfl rfl dL_law_1829 dL_law_1830 dL_law_1832 rfl dL_law_1833 dL_law_1834 ?_
  refine J_al4 hx (i := 3) rfl rfl dL_law_1835 ?_
  refine J_callSW hx (kL_allReadyAt (l := xl X) htr hC hW e1) ml_L_191 cw_allReadyAt (wtm_6 89 (by decide +kernel) (by decide +kernel)) ini_L ⟨by decide +kernel, by decide +kernel, by decide +kernel⟩ (nA := 3) (As := [.ref (B.1 + 0), .int (z (i + 1)), .ref (B.1 + 377)]) (rest := []) rfl rfl (by decide) (by decide) (Nat.le_of_ble_eq_true rfl) hk hn dL_law_1836 fun r G1 sz1 hh => ?_
  obtain ⟨rfl, hW1⟩ := hh
  refine J_is hx (by decide) (hc_of rfl) rfl dL_law_1839 ?_
  refine J_al4 hx (i := 2) rfl rfl dL_law_1841 ?_
  refine J_argz hx hX (i := i) (j := 1) (by omega) rfl rfl dL_law_1842 dL_law_1843 dL_law_1845 rfl dL_law_1846 dL_law_1847 ?_
  refine J_wrV hx (kX13_allReadyAt hW1 e2) ml_L_193 lk_X13_allReadyAt (ci := 11) rfl (hW1.obj (rfl : kd 371 = 19) (by decide) (by decide)) (As := [.int (z (i + 1))]) (rest := []) rfl rfl (by decide) (by decide) (Nat.le_of_ble_eq_true rfl) hk hn dL_law_1848 fun G2 hW2 => ?_
  exact J_tail hx hW2 h5 ho hk hn dL_law_1851 dL_law_1853 dL_law_1854 dL_law_1857 dL_law_1859 dL_law_1864 dL_law_1866 dL_law_1869 dL_law_1870 dL_law_1871 dL_law_1872 dL_law_1874 dL_law_1875 dL_law_1876 dL_law_1881 rfl (kk _ _ _ _ _ _ _ (Nat.le_refl _) (Nat.le_refl _) hW2 hA2)
theorem lc_25 (hx : Fx X cL_law 7 RL 12 mc ms) (hC : GC (xΓ X) B) (htr : (xl X).stackTraces = false) (hX : XS X b L z) (hi : i + 6 ≤ L) (hW : Wd (xΓ X) B w G) (hA : AL T w) (hT : T + 40000 ≤ 1000000000) (hk : k + 1 ≤ mc) (hn : n + 6 ≤ ms) (kk : ∀ (G2 : Gf) (sz2 k2 n2 : Nat) (w2 : Wl) (l5 l6 : Option Value), k2 ≤ k + 1 → n2 ≤ n + 6 → Wd (xΓ X) B w2 G2 → AL (T + 40000) w2 → J X 7 G2 sz2 k2 n2 2092 (lsL B b i l5 l6) []) : J X 7 G sz k n 1884 (lsL B b i none none) [] := by
  obtain ⟨kc, w1, e1, bb, w2, e2, h5, ho, hA2⟩ := b_bestVenue hA hT (z (i + 1)) (z (i + 2))
  have e2 : sX13_bestVenue w1 (z (i + 1)) (z (i + 2)) = some (bb, w2) := e2
  refine J_al4 hx (i := 1) rfl rfl dL_law_1884 ?_
  refine J_argz hx hX (i := i) (j := 1) (by omega) rfl rfl dL_law_1885 dL_law_1886 dL_law_1888 rfl dL_law_1889 dL_law_1890 ?_
  refine J_argz hx hX (i := i) (j := 2) (by omega) rfl rfl dL_law_1891 dL_law_1892 dL_law_1894 rfl dL_law_1895 dL_law_1896 ?_
  refine J_al4 hx (i := 3) rfl rfl dL_law_1897 ?_
  refine J_callSW hx (kL_bestVenue (l := xl X) htr hC hW e1) ml_L_194 cw_bestVenue (wtm_6 96 (by decide +kernel) (by decide +kernel)) ini_L ⟨by decide +kernel, by decide +kernel, by decide +kernel⟩ (nA := 4) (As := [.ref (B.1 + 0), .int (z (i + 1)), .int (z (i + 2)), .ref (B.1 + 377)]) (rest := []) rfl rfl (by decide) (by decide) (Nat.le_of_ble_eq_true rfl) hk hn dL_law_1898 fun r G1 sz1 hh => ?_
  obtain ⟨rfl, hW1⟩ := hh
  refine J_is hx (by decide) (hc_of rfl) rfl dL_law_1901 ?_
  refine J_al4 hx (i := 2) rfl rfl dL_law_1903 ?_
  refine J_argz hx hX (i := i) (j := 1) (by omega) rfl rfl dL_law_1904 dL_law_1905 dL_law_1907 rfl dL_law_1908 dL_law_1909 ?_
  refine J_argz hx hX (i := i) (j := 2) (by omega) rfl rfl dL_law_1910 dL_law_1911 dL_law_1913 rfl dL_law_1914 dL_law_1915 ?_
  refine J_wrV hx (kX13_bestVenue hW1 e2) ml_L_196 lk_X13_bestVenue (ci := 11) rfl (hW1.obj (rfl : kd 371 = 19) (by decide) (by decide)) (As := [.int (z (i + 1)), .int (z (i + 2))]) (rest := []) rfl rfl (by decide) (by decide) (Nat.le_of_ble_eq_true rfl) hk hn dL_law_1916 fun G2 hW2 => ?_
  exact J_tail hx hW2 h5 ho hk hn dL_law_1919 dL_law_1921 dL_law_1922 dL_law_1925 dL_law_1927 dL_law_1932 dL_law_1934 dL_law_1937 dL_law_1938 dL_law_1939 dL_law_1940 dL_law_1942 dL_law_1943 dL_law_1944 dL_law_1949 rfl (kk _ _ _ _ _ _ _ (Nat.le_refl _) (Nat.le_refl _) hW2 hA2)
theorem lc_26 (hx : Fx X cL_law 7 RL 12 mc ms) (hC : GC (xΓ X) B) (htr : (xl X).stackTraces = false) (hX : XS X b L z) (hi : i + 6 ≤ L) (hW : Wd (xΓ X) B w G) (hA : AL T w) (hT : T + 40000 ≤ 1000000000) (hk : k + 1 ≤ mc) (hn : n + 6 ≤ ms) (kk : ∀ (G2 : Gf) (sz2 k2 n2 : Nat) (w2 : Wl) (l5 l6 : Option Value), k2 ≤ k + 1 → n2 ≤ n + 6 → Wd (xΓ X) B w2 G2 → AL (T + 40000) w2 → J X 7 G2 sz2 k2 n2 2092 (lsL B b i l5 l6) []) : J X 7 G sz k n 1952 (lsL B b i none none) [] := by
  obtain ⟨kc, w1, e1, bb, w2, e2, h5, ho, hA2⟩ := b_type hA hT (z (i + 1))
  have e2 : sX13_type w1 (z (i + 1)) = some (bb, w2) := e2
  refine J_al4 hx (i := 1) rfl rfl dL_law_1952 ?_
  refine J_argz hx hX (i := i) (j := 1) (by omega) rfl rfl dL_law_1953 dL_law_1954 dL_law_1956 rfl dL_law_1957 dL_law_1958 ?_
  refine J_al4 hx (i := 3) rfl rfl dL_law_1959 ?_
  refine J_callSW hx (kL_type (l := xl X) htr hC hW e1) ml_L_197 cw_type (wtm_6 114 (by decide +kernel) (by decide +kernel)) ini_L ⟨by decide +kernel, by decide +kernel, by decide +kernel⟩ (nA := 3) (As := [.ref (B.1 + 0), .int (z (i + 1)), .ref (B.1 + 377)]) (rest := []) rfl rfl (by decide) (by decide) (Nat.le_of_ble_eq_true rfl) hk hn dL_law_1960 fun r G1 sz1 hh => ?_
  obtain ⟨rfl, hW1⟩ := hh
  refine J_is hx (by decide) (hc_of rfl) rfl dL_law_1963 ?_
  refine J_al4 hx (i := 2) rfl rfl dL_law_1965 ?_
  refine J_argz hx hX (i := i) (j := 1) (by omega) rfl rfl dL_law_1966 dL_law_1967 dL_law_1969 rfl dL_law_1970 dL_law_1971 ?_
  refine J_wrV hx (kX13_type hW1 e2) ml_L_199 lk_X13_type (ci := 11) rfl (hW1.obj (rfl : kd 371 = 19) (by decide) (by decide)) (As := [.int (z (i + 1))]) (rest := []) rfl rfl (by decide) (by decide) (Nat.le_of_ble_eq_true rfl) hk hn dL_law_1972 fun G2 hW2 => ?_
  exact J_tail hx hW2 h5 ho hk hn dL_law_1975 dL_law_1977 dL_law_1978 dL_law_1981 dL_law_1983 dL_law_1988 dL_law_1990 dL_law_1993 dL_law_1994 dL_law_1995 dL_law_1996 dL_law_1998 dL_law_1999 dL_law_2000 dL_law_2005 rfl (kk _ _ _ _ _ _ _ (Nat.le_refl _) (Nat.le_refl _) hW2 hA2)
theorem lc_27 (hx : Fx X cL_law 7 RL 12 mc ms) (hC : GC (xΓ X) B) (htr : (xl X).stackTraces = false) (hX : XS X b L z) (hi : i + 6 ≤ L) (hW : Wd (xΓ X) B w G) (hA : AL T w) (hT : T + 40000 ≤ 1000000000) (hk : k + 1 ≤ mc) (hn : n + 6 ≤ ms) (kk : ∀ (G2 : Gf) (sz2 k2 n2 : Nat) (w2 : Wl) (l5 l6 : Option Value), k2 ≤ k + 1 → n2 ≤ n + 6 → Wd (xΓ X) B w2 G2 → AL (T + 40000) w2 → J X 7 G2 sz2 k2 n2 2092 (lsL B b i l5 l6) []) : J X 7 G sz k n 2008 (lsL B b i none none) [] := by
  obtain ⟨aa, w1, e1, w2, e2, hA2⟩ := b_clear hA hT
  refine J_al4 hx (i := 1) rfl rfl dL_law_2008 ?_
  refine J_wrV hx (kX12_clearCommands hW e1) ml_L_200 lk_X12_clearCommands (ci := 10) rfl (hW.obj (rfl : kd 0 = 1) (by decide) (by decide)) (As := []) (rest := []) rfl rfl (by decide) (by decide) (Nat.le_of_ble_eq_true rfl) (by omega) (by omega) dL_law_2009 fun G1 hW1 => ?_
  refine J_al4 hx (i := 2) rfl rfl dL_law_2012 ?_
  refine J_wrV hx (kX13_clearCommands hW1 e2) ml_L_203 lk_X13_clearCommands (ci := 11) rfl (hW1.obj (rfl : kd 371 = 19) (by decide) (by decide)) (As := []) (rest := [.int aa]) rfl rfl (by decide) (by decide) (Nat.le_of_ble_eq_true rfl) (by omega) (by omega) dL_law_2013 fun G2 hW2 => ?_
  refine J_icmp_eq hx 2092 dL_law_2016 rfl (fun _ => ?_) (fun h => (h rfl).elim)
  exact kk _ _ _ _ _ _ _ (Nat.le_succ _) (Nat.le_add_right _ _) hW2 hA2
theorem lc_28 (hx : Fx X cL_law 7 RL 12 mc ms) (hC : GC (xΓ X) B) (htr : (xl X).stackTraces = false) (hX : XS X b L z) (hi : i + 6 ≤ L) (hW : Wd (xΓ X) B w G) (hA : AL T w) (hT : T + 40000 ≤ 1000000000) (hk : k + 1 ≤ mc) (hn : n + 6 ≤ ms) (kk : ∀ (G2 : Gf) (sz2 k2 n2 : Nat) (w2 : Wl) (l5 l6 : Option Value), k2 ≤ k + 1 → n2 ≤ n + 6 → Wd (xΓ X) B w2 G2 → AL (T + 40000) w2 → J X 7 G2 sz2 k2 n2 2092 (lsL B b i l5 l6) []) : J X 7 G sz k n 2021 (lsL B b i none none) [] := by
  obtain ⟨aa, w1, e1, w2, e2, hA2⟩ := b_run hA hT
  refine J_al4 hx (i := 1) rfl rfl dL_law_2021 ?_
  refine J_wrV hx (kX12_runCommands hC hW e1) ml_L_204 lk_X12_runCommands (ci := 10) rfl (hW.obj (rfl : kd 0 = 1) (by decide) (by decide)) (As := []) (rest := []) rfl rfl (by decide) (by decide) (Nat.le_of_ble_eq_true rfl) (by omega) (by omega) dL_law_2022 fun G1 hW1 => ?_
  refine J_al4 hx (i := 2) rfl rfl dL_law_2025 ?_
  refine J_wrV hx (kX13_runCommands hW1 e2) ml_L_207 lk_X13_runCommands (ci := 11) rfl (hW1.obj (rfl : kd 371 = 19) (by decide) (by decide)) (As := []) (rest := [.int aa]) rfl rfl (by decide) (by decide) (Nat.le_of_ble_eq_true rfl) (by omega) (by omega) dL_law_2026 fun G2 hW2 => ?_
  refine J_icmp_eq hx 2092 dL_law_2029 rfl (fun _ => ?_) (fun h => (h rfl).elim)
  exact kk _ _ _ _ _ _ _ (Nat.le_succ _) (Nat.le_add_right _ _) hW2 hA2
theorem lc_29 (hx : Fx X cL_law 7 RL 12 mc ms) (hC : GC (xΓ X) B) (htr : (xl X).stackTraces = false) (hX : XS X b L z) (hi : i + 6 ≤ L) (hW : Wd (xΓ X) B w G) (hA : AL T w) (hT : T + 40000 ≤ 1000000000) (hk : k + 1 ≤ mc) (hn : n + 6 ≤ ms) (kk : ∀ (G2 : Gf) (sz2 k2 n2 : Nat) (w2 : Wl) (l5 l6 : Option Value), k2 ≤ k + 1 → n2 ≤ n + 6 → Wd (xΓ X) B w2 G2 → AL (T + 40000) w2 → J X 7 G2 sz2 k2 n2 2092 (lsL B b i l5 l6) []) : J X 7 G sz k n 2034 (lsL B b i none none) [] := by
  obtain ⟨kc, w1, e1, bb, w2, e2, h5, ho, hA2⟩ := b_undo hA hT 
  have e2 : sX13_undo w1  = some (bb, w2) := e2
  refine J_al4 hx (i := 1) rfl rfl dL_law_2034 ?_
  refine J_al4 hx (i := 3) rfl rfl dL_law_2035 ?_
  refine J_callSW hx (kL_undo (l := xl X) htr hC hW e1) ml_L_208 cw_undo (wtm_6 129 (by decide +kernel) (by decide +kernel)) ini_L ⟨by decide +kernel, by decide +kernel, by decide +kernel⟩ (nA := 2) (As := [.ref (B.1 + 0), .ref (B.1 + 377)]) (rest := []) rfl rfl (by decide) (by decide) (Nat.le_of_ble_eq_true rfl) hk hn dL_law_2036 fun r G1 sz1 hh => ?_
  obtain ⟨rfl, hW1⟩ := hh
  refine J_is hx (by decide) (hc_of rfl) rfl dL_law_2039 ?_
  refine J_al4 hx (i := 2) rfl rfl dL_law_2041 ?_
  refine J_wrV hx (kX13_undo hW1 e2) ml_L_211 lk_X13_undo (ci := 11) rfl (hW1.obj (rfl : kd 371 = 19) (by decide) (by decide)) (As := []) (rest := []) rfl rfl (by decide) (by decide) (Nat.le_of_ble_eq_true rfl) hk hn dL_law_2042 fun G2 hW2 => ?_
  exact J_tail hx hW2 h5 ho hk hn dL_law_2045 dL_law_2047 dL_law_2048 dL_law_2051 dL_law_2053 dL_law_2058 dL_law_2060 dL_law_2063 dL_law_2064 dL_law_2065 dL_law_2066 dL_law_2068 dL_law_2069 dL_law_2070 dL_law_2075 rfl (kk _ _ _ _ _ _ _ (Nat.le_refl _) (Nat.le_refl _) hW2 hA2)
theorem lc_30 (hx : Fx X cL_law 7 RL 12 mc ms) (hC : GC (xΓ X) B) (htr : (xl X).stackTraces = false) (hX : XS X b L z) (hi : i + 6 ≤ L) (hW : Wd (xΓ X) B w G) (hA : AL T w) (hT : T + 40000 ≤ 1000000000) (hk : k + 1 ≤ mc) (hn : n + 6 ≤ ms) (kk : ∀ (G2 : Gf) (sz2 k2 n2 : Nat) (w2 : Wl) (l5 l6 : Option Value), k2 ≤ k + 1 → n2 ≤ n + 6 → Wd (xΓ X) B w2 G2 → AL (T + 40000) w2 → J X 7 G2 sz2 k2 n2 2092 (lsL B b i l5 l6) []) : J X 7 G sz k n 2078 (lsL B b i none none) [] := by
  obtain ⟨aa, w1, e1, w2, e2, hA2⟩ := b_digest hA hT
  refine J_al4 hx (i := 1) rfl rfl dL_law_2078 ?_
  refine J_wrV hx (kX12_digest hW e1) ml_L_212 lk_X12_digest (ci := 10) rfl (hW.obj (rfl : kd 0 = 1) (by decide) (by decide)) (As := []) (rest := []) rfl rfl (by decide) (by decide) (Nat.le_of_ble_eq_true rfl) (by omega) (by omega) dL_law_2079 fun G1 hW1 => ?_
  refine J_al4 hx (i := 2) rfl rfl dL_law_2082 ?_
  refine J_wrV hx (kX13_digest hW1 e2) ml_L_216 lk_X13_digest (ci := 11) rfl (hW1.obj (rfl : kd 371 = 19) (by decide) (by decide)) (As := []) (rest := [.long aa]) rfl rfl (by decide) (by decide) (Nat.le_of_ble_eq_true rfl) (by omega) (by omega) dL_law_2083 fun G2 hW2 => ?_
  refine J_lcmp hx dL_law_2086 ?_
  rw [lg_same]
  refine J_if_eq hx 2092 dL_law_2087 rfl (fun _ => ?_) (fun h => (h rfl).elim)
  exact kk _ _ _ _ _ _ _ (Nat.le_succ _) (Nat.le_add_right _ _) hW2 hA2
end LC
