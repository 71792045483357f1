/-! THE LAW'S CODE -/
theorem dL_law_0 : decode cL_law 0 = .ok (.new 8, 3) := by decide +kernel
theorem dL_law_3 : decode cL_law 3 = .ok (.dup, 1) := by decide +kernel
theorem dL_law_4 : decode cL_law 4 = .ok (.invokespecial 93, 3) := by decide +kernel
theorem dL_law_7 : decode cL_law 7 = .ok (.astore_n 1, 1) := by decide +kernel
theorem dL_law_8 : decode cL_law 8 = .ok (.new 94, 3) := by decide +kernel
theorem dL_law_11 : decode cL_law 11 = .ok (.dup, 1) := by decide +kernel
theorem dL_law_12 : decode cL_law 12 = .ok (.invokespecial 96, 3) := by decide +kernel
theorem dL_law_15 : decode cL_law 15 = .ok (.astore_n 2, 1) := by decide +kernel
theorem dL_law_16 : decode cL_law 16 = .ok (.iconst 1, 1) := by decide +kernel
theorem dL_law_17 : decode cL_law 17 = .ok (.newarray .long, 2) := by decide +kernel
theorem dL_law_19 : decode cL_law 19 = .ok (.astore_n 3, 1) := by decide +kernel
theorem dL_law_20 : decode cL_law 20 = .ok (.iconst 0, 1) := by decide +kernel
theorem dL_law_21 : decode cL_law 21 = .ok (.istore 4, 2) := by decide +kernel
theorem dL_law_23 : decode cL_law 23 = .ok (.iload 4, 2) := by decide +kernel
theorem dL_law_25 : decode cL_law 25 = .ok (.aload_n 0, 1) := by decide +kernel
theorem dL_law_26 : decode cL_law 26 = .ok (.arraylength, 1) := by decide +kernel
theorem dL_law_27 : decode cL_law 27 = .ok (.bipush 6, 2) := by decide +kernel
theorem dL_law_29 : decode cL_law 29 = .ok (.isub, 1) := by decide +kernel
theorem dL_law_30 : decode cL_law 30 = .ok (.if_icmp .gt 1814, 3) := by decide +kernel
theorem dL_law_33 : decode cL_law 33 = .ok (.aload_n 0, 1) := by decide +kernel
theorem dL_law_34 : decode cL_law 34 = .ok (.iload 4, 2) := by decide +kernel
theorem dL_law_36 : decode cL_law 36 = .ok (.iaload, 1) := by decide +kernel
theorem dL_law_37 : decode cL_law 37 = .ok (.bipush 31, 2) := by decide +kernel
theorem dL_law_39 : decode cL_law 39 = .ok (.iand, 1) := by decide +kernel
theorem dL_law_40 : decode cL_law 40 = .ok (.tableswitch 1798 0 30 #[140, 213, 238, 251, 276, 332, 407, 463, 519, 582, 645, 713, 781, 836, 904, 972, 1040, 1120, 1176, 1232, 1307, 1375, 1487, 1512, 1523, 1579, 1635, 1679, 1735, 1760, 1785], 140) := by decide +kernel
theorem dL_law_180 : decode cL_law 180 = .ok (.aload_n 1, 1) := by decide +kernel
theorem dL_law_181 : decode cL_law 181 = .ok (.aload_n 0, 1) := by decide +kernel
theorem dL_law_182 : decode cL_law 182 = .ok (.iload 4, 2) := by decide +kernel
theorem dL_law_184 : decode cL_law 184 = .ok (.iconst 1, 1) := by decide +kernel
theorem dL_law_185 : decode cL_law 185 = .ok (.iadd, 1) := by decide +kernel
theorem dL_law_186 : decode cL_law 186 = .ok (.iaload, 1) := by decide +kernel
theorem dL_law_187 : decode cL_law 187 = .ok (.aload_n 0, 1) := by decide +kernel
theorem dL_law_188 : decode cL_law 188 = .ok (.iload 4, 2) := by decide +kernel
theorem dL_law_190 : decode cL_law 190 = .ok (.iconst 2, 1) := by decide +kernel
theorem dL_law_191 : decode cL_law 191 = .ok (.iadd, 1) := by decide +kernel
theorem dL_law_192 : decode cL_law 192 = .ok (.iaload, 1) := by decide +kernel
theorem dL_law_193 : decode cL_law 193 = .ok (.aload_n 0, 1) := by decide +kernel
theorem dL_law_194 : decode cL_law 194 = .ok (.iload 4, 2) := by decide +kernel
theorem dL_law_196 : decode cL_law 196 = .ok (.iconst 3, 1) := by decide +kernel
theorem dL_law_197 : decode cL_law 197 = .ok (.iadd, 1) := by decide +kernel
theorem dL_law_198 : decode cL_law 198 = .ok (.iaload, 1) := by decide +kernel
theorem dL_law_199 : decode cL_law 199 = .ok (.aload_n 0, 1) := by decide +kernel
theorem dL_law_200 : decode cL_law 200 = .ok (.iload 4, 2) := by decide +kernel
theorem dL_law_202 : decode cL_law 202 = .ok (.iconst 4, 1) := by decide +kernel
theorem dL_law_203 : decode cL_law 203 = .ok (.iadd, 1) := by decide +kernel
theorem dL_law_204 : decode cL_law 204 = .ok (.iaload, 1) := by decide +kernel
theorem dL_law_205 : decode cL_law 205 = .ok (.aload_n 0, 1) := by decide +kernel
theorem dL_law_206 : decode cL_law 206 = .ok (.iload 4, 2) := by decide +kernel
theorem dL_law_208 : decode cL_law 208 = .ok (.iconst 5, 1) := by decide +kernel
theorem dL_law_209 : decode cL_law 209 = .ok (.iadd, 1) := by decide +kernel
theorem dL_law_210 : decode cL_law 210 = .ok (.iaload, 1) := by decide +kernel
theorem dL_law_211 : decode cL_law 211 = .ok (.invokevirtual 97, 3) := by decide +kernel
theorem dL_law_214 : decode cL_law 214 = .ok (.aload_n 2, 1) := by decide +kernel
theorem dL_law_215 : decode cL_law 215 = .ok (.aload_n 0, 1) := by decide +kernel
theorem dL_law_216 : decode cL_law 216 = .ok (.iload 4, 2) := by decide +kernel
theorem dL_law_218 : decode cL_law 218 = .ok (.iconst 1, 1) := by decide +kernel
theorem dL_law_219 : decode cL_law 219 = .ok (.iadd, 1) := by decide +kernel
theorem dL_law_220 : decode cL_law 220 = .ok (.iaload, 1) := by decide +kernel
theorem dL_law_221 : decode cL_law 221 = .ok (.aload_n 0, 1) := by decide +kernel
theorem dL_law_222 : decode cL_law 222 = .ok (.iload 4, 2) := by decide +kernel
theorem dL_law_224 : decode cL_law 224 = .ok (.iconst 2, 1) := by decide +kernel
theorem dL_law_225 : decode cL_law 225 = .ok (.iadd, 1) := by decide +kernel
theorem dL_law_226 : decode cL_law 226 = .ok (.iaload, 1) := by decide +kernel
theorem dL_law_227 : decode cL_law 227 = .ok (.aload_n 0, 1) := by decide +kernel
theorem dL_law_228 : decode cL_law 228 = .ok (.iload 4, 2) := by decide +kernel
theorem dL_law_230 : decode cL_law 230 = .ok (.iconst 3, 1) := by decide +kernel
theorem dL_law_231 : decode cL_law 231 = .ok (.iadd, 1) := by decide +kernel
theorem dL_law_232 : decode cL_law 232 = .ok (.iaload, 1) := by decide +kernel
theorem dL_law_233 : decode cL_law 233 = .ok (.aload_n 0, 1) := by decide +kernel
theorem dL_law_234 : decode cL_law 234 = .ok (.iload 4, 2) := by decide +kernel
theorem dL_law_236 : decode cL_law 236 = .ok (.iconst 4, 1) := by decide +kernel
theorem dL_law_237 : decode cL_law 237 = .ok (.iadd, 1) := by decide +kernel
theorem dL_law_238 : decode cL_law 238 = .ok (.iaload, 1) := by decide +kernel
theorem dL_law_239 : decode cL_law 239 = .ok (.aload_n 0, 1) := by decide +kernel
theorem dL_law_240 : decode cL_law 240 = .ok (.iload 4, 2) := by decide +kernel
theorem dL_law_242 : decode cL_law 242 = .ok (.iconst 5, 1) := by decide +kernel
theorem dL_law_243 : decode cL_law 243 = .ok (.iadd, 1) := by decide +kernel
theorem dL_law_244 : decode cL_law 244 = .ok (.iaload, 1) := by decide +kernel
theorem dL_law_245 : decode cL_law 245 = .ok (.invokevirtual 101, 3) := by decide +kernel
theorem dL_law_248 : decode cL_law 248 = .ok (.if_icmp .eq 1590, 3) := by decide +kernel
theorem dL_law_251 : decode cL_law 251 = .ok (.iconst 0, 1) := by decide +kernel
theorem dL_law_252 : decode cL_law 252 = .ok (.ireturn, 1) := by decide +kernel
theorem dL_law_253 : decode cL_law 253 = .ok (.aload_n 1, 1) := by decide +kernel
theorem dL_law_254 : decode cL_law 254 = .ok (.aload_n 0, 1) := by decide +kernel
theorem dL_law_255 : decode cL_law 255 = .ok (.iload 4, 2) := by decide +kernel
theorem dL_law_257 : decode cL_law 257 = .ok (.iconst 1, 1) := by decide +kernel
theorem dL_law_258 : decode cL_law 258 = .ok (.iadd, 1) := by decide +kernel
theorem dL_law_259 : decode cL_law 259 = .ok (.iaload, 1) := by decide +kernel
theorem dL_law_260 : decode cL_law 260 = .ok (.invokevirtual 102, 3) := by decide +kernel
theorem dL_law_263 : decode cL_law 263 = .ok (.aload_n 2, 1) := by decide +kernel
theorem dL_law_264 : decode cL_law 264 = .ok (.aload_n 0, 1) := by decide +kernel
theorem dL_law_265 : decode cL_law 265 = .ok (.iload 4, 2) := by decide +kernel
theorem dL_law_267 : decode cL_law 267 = .ok (.iconst 1, 1) := by decide +kernel
theorem dL_law_268 : decode cL_law 268 = .ok (.iadd, 1) := by decide +kernel
theorem dL_law_269 : decode cL_law 269 = .ok (.iaload, 1) := by decide +kernel
theorem dL_law_270 : decode cL_law 270 = .ok (.invokevirtual 105, 3) := by decide +kernel
theorem dL_law_273 : decode cL_law 273 = .ok (.if_icmp .eq 1565, 3) := by decide +kernel
theorem dL_law_276 : decode cL_law 276 = .ok (.iconst 0, 1) := by decide +kernel
theorem dL_law_277 : decode cL_law 277 = .ok (.ireturn, 1) := by decide +kernel
theorem dL_law_278 : decode cL_law 278 = .ok (.aload_n 1, 1) := by decide +kernel
theorem dL_law_279 : decode cL_law 279 = .ok (.invokevirtual 106, 3) := by decide +kernel
theorem dL_law_282 : decode cL_law 282 = .ok (.aload_n 2, 1) := by decide +kernel
theorem dL_law_283 : decode cL_law 283 = .ok (.invokevirtual 109, 3) := by decide +kernel
theorem dL_law_286 : decode cL_law 286 = .ok (.if_icmp .eq 1552, 3) := by decide +kernel
theorem dL_law_289 : decode cL_law 289 = .ok (.iconst 0, 1) := by decide +kernel
theorem dL_law_290 : decode cL_law 290 = .ok (.ireturn, 1) := by decide +kernel
theorem dL_law_291 : decode cL_law 291 = .ok (.aload_n 1, 1) := by decide +kernel
theorem dL_law_292 : decode cL_law 292 = .ok (.aload_n 0, 1) := by decide +kernel
theorem dL_law_293 : decode cL_law 293 = .ok (.iload 4, 2) := by decide +kernel
theorem dL_law_295 : decode cL_law 295 = .ok (.iconst 1, 1) := by decide +kernel
theorem dL_law_296 : decode cL_law 296 = .ok (.iadd, 1) := by decide +kernel
theorem dL_law_297 : decode cL_law 297 = .ok (.iaload, 1) := by decide +kernel
theorem dL_law_298 : decode cL_law 298 = .ok (.invokevirtual 110, 3) := by decide +kernel
theorem dL_law_301 : decode cL_law 301 = .ok (.aload_n 2, 1) := by decide +kernel
theorem dL_law_302 : decode cL_law 302 = .ok (.aload_n 0, 1) := by decide +kernel
theorem dL_law_303 : decode cL_law 303 = .ok (.iload 4, 2) := by decide +kernel
theorem dL_law_305 : decode cL_law 305 = .ok (.iconst 1, 1) := by decide +kernel
theorem dL_law_306 : decode cL_law 306 = .ok (.iadd, 1) := by decide +kernel
theorem dL_law_307 : decode cL_law 307 = .ok (.iaload, 1) := by decide +kernel
theorem dL_law_308 : decode cL_law 308 = .ok (.invokevirtual 113, 3) := by decide +kernel
theorem dL_law_311 : decode cL_law 311 = .ok (.if_icmp .eq 1527, 3) := by decide +kernel
theorem dL_law_314 : decode cL_law 314 = .ok (.iconst 0, 1) := by decide +kernel
theorem dL_law_315 : decode cL_law 315 = .ok (.ireturn, 1) := by decide +kernel
theorem dL_law_316 : decode cL_law 316 = .ok (.aload_n 1, 1) := by decide +kernel
theorem dL_law_317 : decode cL_law 317 = .ok (.aload_n 0, 1) := by decide +kernel
theorem dL_law_318 : decode cL_law 318 = .ok (.iload 4, 2) := by decide +kernel
theorem dL_law_320 : decode cL_law 320 = .ok (.iconst 1, 1) := by decide +kernel
theorem dL_law_321 : decode cL_law 321 = .ok (.iadd, 1) := by decide +kernel
theorem dL_law_322 : decode cL_law 322 = .ok (.iaload, 1) := by decide +kernel
theorem dL_law_323 : decode cL_law 323 = .ok (.aload_n 3, 1) := by decide +kernel
theorem dL_law_324 : decode cL_law 324 = .ok (.invokestatic 114, 3) := by decide +kernel
theorem dL_law_327 : decode cL_law 327 = .ok (.istore 5, 2) := by decide +kernel
theorem dL_law_329 : decode cL_law 329 = .ok (.aload_n 2, 1) := by decide +kernel
theorem dL_law_330 : decode cL_law 330 = .ok (.aload_n 0, 1) := by decide +kernel
theorem dL_law_331 : decode cL_law 331 = .ok (.iload 4, 2) := by decide +kernel
theorem dL_law_333 : decode cL_law 333 = .ok (.iconst 1, 1) := by decide +kernel
theorem dL_law_334 : decode cL_law 334 = .ok (.iadd, 1) := by decide +kernel
theorem dL_law_335 : decode cL_law 335 = .ok (.iaload, 1) := by decide +kernel
theorem dL_law_336 : decode cL_law 336 = .ok (.invokevirtual 119, 3) := by decide +kernel
theorem dL_law_339 : decode cL_law 339 = .ok (.istore 6, 2) := by decide +kernel
theorem dL_law_341 : decode cL_law 341 = .ok (.aload_n 2, 1) := by decide +kernel
theorem dL_law_342 : decode cL_law 342 = .ok (.invokevirtual 120, 3) := by decide +kernel
theorem dL_law_345 : decode cL_law 345 = .ok (.iload 5, 2) := by decide +kernel
theorem dL_law_347 : decode cL_law 347 = .ok (.if_icmp .eq 5, 3) := by decide +kernel
theorem dL_law_350 : decode cL_law 350 = .ok (.iconst 0, 1) := by decide +kernel
theorem dL_law_351 : decode cL_law 351 = .ok (.ireturn, 1) := by decide +kernel
theorem dL_law_352 : decode cL_law 352 = .ok (.iload 5, 2) := by decide +kernel
theorem dL_law_354 : decode cL_law 354 = .ok (.ifCond .ne 15, 3) := by decide +kernel
theorem dL_law_357 : decode cL_law 357 = .ok (.aload_n 3, 1) := by decide +kernel
theorem dL_law_358 : decode cL_law 358 = .ok (.iconst 0, 1) := by decide +kernel
theorem dL_law_359 : decode cL_law 359 = .ok (.laload, 1) := by decide +kernel
theorem dL_law_360 : decode cL_law 360 = .ok (.iload 6, 2) := by decide +kernel
theorem dL_law_362 : decode cL_law 362 = .ok (.i2l, 1) := by decide +kernel
theorem dL_law_363 : decode cL_law 363 = .ok (.lcmp, 1) := by decide +kernel
theorem dL_law_364 : decode cL_law 364 = .ok (.ifCond .eq 5, 3) := by decide +kernel
theorem dL_law_367 : decode cL_law 367 = .ok (.iconst 0, 1) := by decide +kernel
theorem dL_law_368 : decode cL_law 368 = .ok (.ireturn, 1) := by decide +kernel
theorem dL_law_369 : decode cL_law 369 = .ok (.goto 1469, 3) := by decide +kernel
theorem dL_law_372 : decode cL_law 372 = .ok (.aload_n 1, 1) := by decide +kernel
theorem dL_law_373 : decode cL_law 373 = .ok (.aload_n 0, 1) := by decide +kernel
theorem dL_law_374 : decode cL_law 374 = .ok (.iload 4, 2) := by decide +kernel
theorem dL_law_376 : decode cL_law 376 = .ok (.iconst 1, 1) := by decide +kernel
theorem dL_law_377 : decode cL_law 377 = .ok (.iadd, 1) := by decide +kernel
theorem dL_law_378 : decode cL_law 378 = .ok (.iaload, 1) := by decide +kernel
theorem dL_law_379 : decode cL_law 379 = .ok (.aload_n 0, 1) := by decide +kernel
theorem dL_law_380 : decode cL_law 380 = .ok (.iload 4, 2) := by decide +kernel
theorem dL_law_382 : decode cL_law 382 = .ok (.iconst 2, 1) := by decide +kernel
theorem dL_law_383 : decode cL_law 383 = .ok (.iadd, 1) := by decide +kernel
theorem dL_law_384 : decode cL_law 384 = .ok (.iaload, 1) := by decide +kernel
theorem dL_law_385 : decode cL_law 385 = .ok (.aload_n 3, 1) := by decide +kernel
theorem dL_law_386 : decode cL_law 386 = .ok (.invokestatic 123, 3) := by decide +kernel
theorem dL_law_389 : decode cL_law 389 = .ok (.istore 5, 2) := by decide +kernel
theorem dL_law_391 : decode cL_law 391 = .ok (.aload_n 2, 1) := by decide +kernel
theorem dL_law_392 : decode cL_law 392 = .ok (.aload_n 0, 1) := by decide +kernel
theorem dL_law_393 : decode cL_law 393 = .ok (.iload 4, 2) := by decide +kernel
theorem dL_law_395 : decode cL_law 395 = .ok (.iconst 1, 1) := by decide +kernel
theorem dL_law_396 : decode cL_law 396 = .ok (.iadd, 1) := by decide +kernel
theorem dL_law_397 : decode cL_law 397 = .ok (.iaload, 1) := by decide +kernel
theorem dL_law_398 : decode cL_law 398 = .ok (.aload_n 0, 1) := by decide +kernel
theorem dL_law_399 : decode cL_law 399 = .ok (.iload 4, 2) := by decide +kernel
theorem dL_law_401 : decode cL_law 401 = .ok (.iconst 2, 1) := by decide +kernel
theorem dL_law_402 : decode cL_law 402 = .ok (.iadd, 1) := by decide +kernel
theorem dL_law_403 : decode cL_law 403 = .ok (.iaload, 1) := by decide +kernel
theorem dL_law_404 : decode cL_law 404 = .ok (.invokevirtual 126, 3) := by decide +kernel
theorem dL_law_407 : decode cL_law 407 = .ok (.istore 6, 2) := by decide +kernel
theorem dL_law_409 : decode cL_law 409 = .ok (.aload_n 2, 1) := by decide +kernel
theorem dL_law_410 : decode cL_law 410 = .ok (.invokevirtual 120, 3) := by decide +kernel
theorem dL_law_413 : decode cL_law 413 = .ok (.iload 5, 2) := by decide +kernel
theorem dL_law_415 : decode cL_law 415 = .ok (.if_icmp .eq 5, 3) := by decide +kernel
theorem dL_law_418 : decode cL_law 418 = .ok (.iconst 0, 1) := by decide +kernel
theorem dL_law_419 : decode cL_law 419 = .ok (.ireturn, 1) := by decide +kernel
theorem dL_law_420 : decode cL_law 420 = .ok (.iload 5, 2) := by decide +kernel
theorem dL_law_422 : decode cL_law 422 = .ok (.ifCond .ne 22, 3) := by decide +kernel
theorem dL_law_425 : decode cL_law 425 = .ok (.aload_n 3, 1) := by decide +kernel
theorem dL_law_426 : decode cL_law 426 = .ok (.iconst 0, 1) := by decide +kernel
theorem dL_law_427 : decode cL_law 427 = .ok (.laload, 1) := by decide +kernel
theorem dL_law_428 : decode cL_law 428 = .ok (.iload 6, 2) := by decide +kernel
theorem dL_law_430 : decode cL_law 430 = .ok (.ifCond .eq 7, 3) := by decide +kernel
theorem dL_law_433 : decode cL_law 433 = .ok (.lconst 1, 1) := by decide +kernel
theorem dL_law_434 : decode cL_law 434 = .ok (.goto 4, 3) := by decide +kernel
theorem dL_law_437 : decode cL_law 437 = .ok (.lconst 0, 1) := by decide +kernel
theorem dL_law_438 : decode cL_law 438 = .ok (.lcmp, 1) := by decide +kernel
theorem dL_law_439 : decode cL_law 439 = .ok (.ifCond .eq 5, 3) := by decide +kernel
theorem dL_law_442 : decode cL_law 442 = .ok (.iconst 0, 1) := by decide +kernel
theorem dL_law_443 : decode cL_law 443 = .ok (.ireturn, 1) := by decide +kernel
theorem dL_law_444 : decode cL_law 444 = .ok (.goto 1394, 3) := by decide +kernel
theorem dL_law_447 : decode cL_law 447 = .ok (.aload_n 1, 1) := by decide +kernel
theorem dL_law_448 : decode cL_law 448 = .ok (.aload_n 0, 1) := by decide +kernel
theorem dL_law_449 : decode cL_law 449 = .ok (.iload 4, 2) := by decide +kernel
theorem dL_law_451 : decode cL_law 451 = .ok (.iconst 1, 1) := by decide +kernel
theorem dL_law_452 : decode cL_law 452 = .ok (.iadd, 1) := by decide +kernel
theorem dL_law_453 : decode cL_law 453 = .ok (.iaload, 1) := by decide +kernel
theorem dL_law_454 : decode cL_law 454 = .ok (.aload_n 3, 1) := by decide +kernel
theorem dL_law_455 : decode cL_law 455 = .ok (.invokestatic 127, 3) := by decide +kernel
theorem dL_law_458 : decode cL_law 458 = .ok (.istore 5, 2) := by decide +kernel
theorem dL_law_460 : decode cL_law 460 = .ok (.aload_n 2, 1) := by decide +kernel
theorem dL_law_461 : decode cL_law 461 = .ok (.aload_n 0, 1) := by decide +kernel
theorem dL_law_462 : decode cL_law 462 = .ok (.iload 4, 2) := by decide +kernel
theorem dL_law_464 : decode cL_law 464 = .ok (.iconst 1, 1) := by decide +kernel
theorem dL_law_465 : decode cL_law 465 = .ok (.iadd, 1) := by decide +kernel
theorem dL_law_466 : decode cL_law 466 = .ok (.iaload, 1) := by decide +kernel
theorem dL_law_467 : decode cL_law 467 = .ok (.invokevirtual 129, 3) := by decide +kernel
theorem dL_law_470 : decode cL_law 470 = .ok (.istore 6, 2) := by decide +kernel
theorem dL_law_472 : decode cL_law 472 = .ok (.aload_n 2, 1) := by decide +kernel
theorem dL_law_473 : decode cL_law 473 = .ok (.invokevirtual 120, 3) := by decide +kernel
theorem dL_law_476 : decode cL_law 476 = .ok (.iload 5, 2) := by decide +kernel
theorem dL_law_478 : decode cL_law 478 = .ok (.if_icmp .eq 5, 3) := by decide +kernel
theorem dL_law_481 : decode cL_law 481 = .ok (.iconst 0, 1) := by decide +kernel
theorem dL_law_482 : decode cL_law 482 = .ok (.ireturn, 1) := by decide +kernel
theorem dL_law_483 : decode cL_law 483 = .ok (.iload 5, 2) := by decide +kernel
theorem dL_law_485 : decode cL_law 485 = .ok (.ifCond .ne 15, 3) := by decide +kernel
theorem dL_law_488 : decode cL_law 488 = .ok (.aload_n 3, 1) := by decide +kernel
theorem dL_law_489 : decode cL_law 489 = .ok (.iconst 0, 1) := by decide +kernel
theorem dL_law_490 : decode cL_law 490 = .ok (.laload, 1) := by decide +kernel
theorem dL_law_491 : decode cL_law 491 = .ok (.iload 6, 2) := by decide +kernel
theorem dL_law_493 : decode cL_law 493 = .ok (.i2l, 1) := by decide +kernel
theorem dL_law_494 : decode cL_law 494 = .ok (.lcmp, 1) := by decide +kernel
theorem dL_law_495 : decode cL_law 495 = .ok (.ifCond .eq 5, 3) := by decide +kernel
theorem dL_law_498 : decode cL_law 498 = .ok (.iconst 0, 1) := by decide +kernel
theorem dL_law_499 : decode cL_law 499 = .ok (.ireturn, 1) := by decide +kernel
theorem dL_law_500 : decode cL_law 500 = .ok (.goto 1338, 3) := by decide +kernel
theorem dL_law_503 : decode cL_law 503 = .ok (.aload_n 1, 1) := by decide +kernel
theorem dL_law_504 : decode cL_law 504 = .ok (.aload_n 0, 1) := by decide +kernel
theorem dL_law_505 : decode cL_law 505 = .ok (.iload 4, 2) := by decide +kernel
theorem dL_law_507 : decode cL_law 507 = .ok (.iconst 1, 1) := by decide +kernel
theorem dL_law_508 : decode cL_law 508 = .ok (.iadd, 1) := by decide +kernel
theorem dL_law_509 : decode cL_law 509 = .ok (.iaload, 1) := by decide +kernel
theorem dL_law_510 : decode cL_law 510 = .ok (.aload_n 3, 1) := by decide +kernel
theorem dL_law_511 : decode cL_law 511 = .ok (.invokestatic 130, 3) := by decide +kernel
theorem dL_law_514 : decode cL_law 514 = .ok (.istore 5, 2) := by decide +kernel
theorem dL_law_516 : decode cL_law 516 = .ok (.aload_n 2, 1) := by decide +kernel
theorem dL_law_517 : decode cL_law 517 = .ok (.aload_n 0, 1) := by decide +kernel
theorem dL_law_518 : decode cL_law 518 = .ok (.iload 4, 2) := by decide +kernel
theorem dL_law_520 : decode cL_law 520 = .ok (.iconst 1, 1) := by decide +kernel
theorem dL_law_521 : decode cL_law 521 = .ok (.iadd, 1) := by decide +kernel
theorem dL_law_522 : decode cL_law 522 = .ok (.iaload, 1) := by decide +kernel
theorem dL_law_523 : decode cL_law 523 = .ok (.invokevirtual 132, 3) := by decide +kernel
theorem dL_law_526 : decode cL_law 526 = .ok (.istore 6, 2) := by decide +kernel
theorem dL_law_528 : decode cL_law 528 = .ok (.aload_n 2, 1) := by decide +kernel
theorem dL_law_529 : decode cL_law 529 = .ok (.invokevirtual 120, 3) := by decide +kernel
theorem dL_law_532 : decode cL_law 532 = .ok (.iload 5, 2) := by decide +kernel
theorem dL_law_534 : decode cL_law 534 = .ok (.if_icmp .eq 5, 3) := by decide +kernel
theorem dL_law_537 : decode cL_law 537 = .ok (.iconst 0, 1) := by decide +kernel
theorem dL_law_538 : decode cL_law 538 = .ok (.ireturn, 1) := by decide +kernel
theorem dL_law_539 : decode cL_law 539 = .ok (.iload 5, 2) := by decide +kernel
theorem dL_law_541 : decode cL_law 541 = .ok (.ifCond .ne 15, 3) := by decide +kernel
theorem dL_law_544 : decode cL_law 544 = .ok (.aload_n 3, 1) := by decide +kernel
theorem dL_law_545 : decode cL_law 545 = .ok (.iconst 0, 1) := by decide +kernel
theorem dL_law_546 : decode cL_law 546 = .ok (.laload, 1) := by decide +kernel
theorem dL_law_547 : decode cL_law 547 = .ok (.iload 6, 2) := by decide +kernel
theorem dL_law_549 : decode cL_law 549 = .ok (.i2l, 1) := by decide +kernel
theorem dL_law_550 : decode cL_law 550 = .ok (.lcmp, 1) := by decide +kernel
theorem dL_law_551 : decode cL_law 551 = .ok (.ifCond .eq 5, 3) := by decide +kernel
theorem dL_law_554 : decode cL_law 554 = .ok (.iconst 0, 1) := by decide +kernel
theorem dL_law_555 : decode cL_law 555 = .ok (.ireturn, 1) := by decide +kernel
theorem dL_law_556 : decode cL_law 556 = .ok (.goto 1282, 3) := by decide +kernel
theorem dL_law_559 : decode cL_law 559 = .ok (.aload_n 1, 1) := by decide +kernel
theorem dL_law_560 : decode cL_law 560 = .ok (.aload_n 0, 1) := by decide +kernel
theorem dL_law_561 : decode cL_law 561 = .ok (.iload 4, 2) := by decide +kernel
theorem dL_law_563 : decode cL_law 563 = .ok (.iconst 1, 1) := by decide +kernel
theorem dL_law_564 : decode cL_law 564 = .ok (.iadd, 1) := by decide +kernel
theorem dL_law_565 : decode cL_law 565 = .ok (.iaload, 1) := by decide +kernel
theorem dL_law_566 : decode cL_law 566 = .ok (.aload_n 3, 1) := by decide +kernel
theorem dL_law_567 : decode cL_law 567 = .ok (.invokestatic 133, 3) := by decide +kernel
theorem dL_law_570 : decode cL_law 570 = .ok (.istore 5, 2) := by decide +kernel
theorem dL_law_572 : decode cL_law 572 = .ok (.aload_n 2, 1) := by decide +kernel
theorem dL_law_573 : decode cL_law 573 = .ok (.aload_n 0, 1) := by decide +kernel
theorem dL_law_574 : decode cL_law 574 = .ok (.iload 4, 2) := by decide +kernel
theorem dL_law_576 : decode cL_law 576 = .ok (.iconst 1, 1) := by decide +kernel
theorem dL_law_577 : decode cL_law 577 = .ok (.iadd, 1) := by decide +kernel
theorem dL_law_578 : decode cL_law 578 = .ok (.iaload, 1) := by decide +kernel
theorem dL_law_579 : decode cL_law 579 = .ok (.invokevirtual 135, 3) := by decide +kernel
theorem dL_law_582 : decode cL_law 582 = .ok (.istore 6, 2) := by decide +kernel
theorem dL_law_584 : decode cL_law 584 = .ok (.aload_n 2, 1) := by decide +kernel
theorem dL_law_585 : decode cL_law 585 = .ok (.invokevirtual 120, 3) := by decide +kernel
theorem dL_law_588 : decode cL_law 588 = .ok (.iload 5, 2) := by decide +kernel
theorem dL_law_590 : decode cL_law 590 = .ok (.if_icmp .eq 5, 3) := by decide +kernel
theorem dL_law_593 : decode cL_law 593 = .ok (.iconst 0, 1) := by decide +kernel
theorem dL_law_594 : decode cL_law 594 = .ok (.ireturn, 1) := by decide +kernel
theorem dL_law_595 : decode cL_law 595 = .ok (.iload 5, 2) := by decide +kernel
theorem dL_law_597 : decode cL_law 597 = .ok (.ifCond .ne 22, 3) := by decide +kernel
theorem dL_law_600 : decode cL_law 600 = .ok (.aload_n 3, 1) := by decide +kernel
theorem dL_law_601 : decode cL_law 601 = .ok (.iconst 0, 1) := by decide +kernel
theorem dL_law_602 : decode cL_law 602 = .ok (.laload, 1) := by decide +kernel
theorem dL_law_603 : decode cL_law 603 = .ok (.iload 6, 2) := by decide +kernel
theorem dL_law_605 : decode cL_law 605 = .ok (.ifCond .eq 7, 3) := by decide +kernel
theorem dL_law_608 : decode cL_law 608 = .ok (.lconst 1, 1) := by decide +kernel
theorem dL_law_609 : decode cL_law 609 = .ok (.goto 4, 3) := by decide +kernel
theorem dL_law_612 : decode cL_law 612 = .ok (.lconst 0, 1) := by decide +kernel
theorem dL_law_613 : decode cL_law 613 = .ok (.lcmp, 1) := by decide +kernel
theorem dL_law_614 : decode cL_law 614 = .ok (.ifCond .eq 5, 3) := by decide +kernel
theorem dL_law_617 : decode cL_law 617 = .ok (.iconst 0, 1) := by decide +kernel
theorem dL_law_618 : decode cL_law 618 = .ok (.ireturn, 1) := by decide +kernel
theorem dL_law_619 : decode cL_law 619 = .ok (.goto 1219, 3) := by decide +kernel
theorem dL_law_622 : decode cL_law 622 = .ok (.aload_n 1, 1) := by decide +kernel
theorem dL_law_623 : decode cL_law 623 = .ok (.aload_n 0, 1) := by decide +kernel
theorem dL_law_624 : decode cL_law 624 = .ok (.iload 4, 2) := by decide +kernel
theorem dL_law_626 : decode cL_law 626 = .ok (.iconst 1, 1) := by decide +kernel
theorem dL_law_627 : decode cL_law 627 = .ok (.iadd, 1) := by decide +kernel
theorem dL_law_628 : decode cL_law 628 = .ok (.iaload, 1) := by decide +kernel
theorem dL_law_629 : decode cL_law 629 = .ok (.aload_n 3, 1) := by decide +kernel
theorem dL_law_630 : decode cL_law 630 = .ok (.invokestatic 136, 3) := by decide +kernel
theorem dL_law_633 : decode cL_law 633 = .ok (.istore 5, 2) := by decide +kernel
theorem dL_law_635 : decode cL_law 635 = .ok (.aload_n 2, 1) := by decide +kernel
theorem dL_law_636 : decode cL_law 636 = .ok (.aload_n 0, 1) := by decide +kernel
theorem dL_law_637 : decode cL_law 637 = .ok (.iload 4, 2) := by decide +kernel
theorem dL_law_639 : decode cL_law 639 = .ok (.iconst 1, 1) := by decide +kernel
theorem dL_law_640 : decode cL_law 640 = .ok (.iadd, 1) := by decide +kernel
theorem dL_law_641 : decode cL_law 641 = .ok (.iaload, 1) := by decide +kernel
theorem dL_law_642 : decode cL_law 642 = .ok (.invokevirtual 138, 3) := by decide +kernel
theorem dL_law_645 : decode cL_law 645 = .ok (.istore 6, 2) := by decide +kernel
theorem dL_law_647 : decode cL_law 647 = .ok (.aload_n 2, 1) := by decide +kernel
theorem dL_law_648 : decode cL_law 648 = .ok (.invokevirtual 120, 3) := by decide +kernel
theorem dL_law_651 : decode cL_law 651 = .ok (.iload 5, 2) := by decide +kernel
theorem dL_law_653 : decode cL_law 653 = .ok (.if_icmp .eq 5, 3) := by decide +kernel
theorem dL_law_656 : decode cL_law 656 = .ok (.iconst 0, 1) := by decide +kernel
theorem dL_law_657 : decode cL_law 657 = .ok (.ireturn, 1) := by decide +kernel
theorem dL_law_658 : decode cL_law 658 = .ok (.iload 5, 2) := by decide +kernel
theorem dL_law_660 : decode cL_law 660 = .ok (.ifCond .ne 22, 3) := by decide +kernel
theorem dL_law_663 : decode cL_law 663 = .ok (.aload_n 3, 1) := by decide +kernel
theorem dL_law_664 : decode cL_law 664 = .ok (.iconst 0, 1) := by decide +kernel
theorem dL_law_665 : decode cL_law 665 = .ok (.laload, 1) := by decide +kernel
theorem dL_law_666 : decode cL_law 666 = .ok (.iload 6, 2) := by decide +kernel
theorem dL_law_668 : decode cL_law 668 = .ok (.ifCond .eq 7, 3) := by decide +kernel
theorem dL_law_671 : decode cL_law 671 = .ok (.lconst 1, 1) := by decide +kernel
theorem dL_law_672 : decode cL_law 672 = .ok (.goto 4, 3) := by decide +kernel
theorem dL_law_675 : decode cL_law 675 = .ok (.lconst 0, 1) := by decide +kernel
theorem dL_law_676 : decode cL_law 676 = .ok (.lcmp, 1) := by decide +kernel
theorem dL_law_677 : decode cL_law 677 = .ok (.ifCond .eq 5, 3) := by decide +kernel
theorem dL_law_680 : decode cL_law 680 = .ok (.iconst 0, 1) := by decide +kernel
theorem dL_law_681 : decode cL_law 681 = .ok (.ireturn, 1) := by decide +kernel
theorem dL_law_682 : decode cL_law 682 = .ok (.goto 1156, 3) := by decide +kernel
theorem dL_law_685 : decode cL_law 685 = .ok (.aload_n 1, 1) := by decide +kernel
theorem dL_law_686 : decode cL_law 686 = .ok (.aload_n 0, 1) := by decide +kernel
theorem dL_law_687 : decode cL_law 687 = .ok (.iload 4, 2) := by decide +kernel
theorem dL_law_689 : decode cL_law 689 = .ok (.iconst 1, 1) := by decide +kernel
theorem dL_law_690 : decode cL_law 690 = .ok (.iadd, 1) := by decide +kernel
theorem dL_law_691 : decode cL_law 691 = .ok (.iaload, 1) := by decide +kernel
theorem dL_law_692 : decode cL_law 692 = .ok (.aload_n 0, 1) := by decide +kernel
theorem dL_law_693 : decode cL_law 693 = .ok (.iload 4, 2) := by decide +kernel
theorem dL_law_695 : decode cL_law 695 = .ok (.iconst 2, 1) := by decide +kernel
theorem dL_law_696 : decode cL_law 696 = .ok (.iadd, 1) := by decide +kernel
theorem dL_law_697 : decode cL_law 697 = .ok (.iaload, 1) := by decide +kernel
theorem dL_law_698 : decode cL_law 698 = .ok (.aload_n 3, 1) := by decide +kernel
theorem dL_law_699 : decode cL_law 699 = .ok (.invokestatic 139, 3) := by decide +kernel
theorem dL_law_702 : decode cL_law 702 = .ok (.istore 5, 2) := by decide +kernel
theorem dL_law_704 : decode cL_law 704 = .ok (.aload_n 2, 1) := by decide +kernel
theorem dL_law_705 : decode cL_law 705 = .ok (.aload_n 0, 1) := by decide +kernel
theorem dL_law_706 : decode cL_law 706 = .ok (.iload 4, 2) := by decide +kernel
theorem dL_law_708 : decode cL_law 708 = .ok (.iconst 1, 1) := by decide +kernel
theorem dL_law_709 : decode cL_law 709 = .ok (.iadd, 1) := by decide +kernel
theorem dL_law_710 : decode cL_law 710 = .ok (.iaload, 1) := by decide +kernel
theorem dL_law_711 : decode cL_law 711 = .ok (.aload_n 0, 1) := by decide +kernel
theorem dL_law_712 : decode cL_law 712 = .ok (.iload 4, 2) := by decide +kernel
theorem dL_law_714 : decode cL_law 714 = .ok (.iconst 2, 1) := by decide +kernel
theorem dL_law_715 : decode cL_law 715 = .ok (.iadd, 1) := by decide +kernel
theorem dL_law_716 : decode cL_law 716 = .ok (.iaload, 1) := by decide +kernel
theorem dL_law_717 : decode cL_law 717 = .ok (.invokevirtual 141, 3) := by decide +kernel
theorem dL_law_720 : decode cL_law 720 = .ok (.istore 6, 2) := by decide +kernel
theorem dL_law_722 : decode cL_law 722 = .ok (.aload_n 2, 1) := by decide +kernel
theorem dL_law_723 : decode cL_law 723 = .ok (.invokevirtual 120, 3) := by decide +kernel
theorem dL_law_726 : decode cL_law 726 = .ok (.iload 5, 2) := by decide +kernel
theorem dL_law_728 : decode cL_law 728 = .ok (.if_icmp .eq 5, 3) := by decide +kernel
theorem dL_law_731 : decode cL_law 731 = .ok (.iconst 0, 1) := by decide +kernel
theorem dL_law_732 : decode cL_law 732 = .ok (.ireturn, 1) := by decide +kernel
theorem dL_law_733 : decode cL_law 733 = .ok (.iload 5, 2) := by decide +kernel
theorem dL_law_735 : decode cL_law 735 = .ok (.ifCond .ne 15, 3) := by decide +kernel
theorem dL_law_738 : decode cL_law 738 = .ok (.aload_n 3, 1) := by decide +kernel
theorem dL_law_739 : decode cL_law 739 = .ok (.iconst 0, 1) := by decide +kernel
theorem dL_law_740 : decode cL_law 740 = .ok (.laload, 1) := by decide +kernel
theorem dL_law_741 : decode cL_law 741 = .ok (.iload 6, 2) := by decide +kernel
theorem dL_law_743 : decode cL_law 743 = .ok (.i2l, 1) := by decide +kernel
theorem dL_law_744 : decode cL_law 744 = .ok (.lcmp, 1) := by decide +kernel
theorem dL_law_745 : decode cL_law 745 = .ok (.ifCond .eq 5, 3) := by decide +kernel
theorem dL_law_748 : decode cL_law 748 = .ok (.iconst 0, 1) := by decide +kernel
theorem dL_law_749 : decode cL_law 749 = .ok (.ireturn, 1) := by decide +kernel
theorem dL_law_750 : decode cL_law 750 = .ok (.goto 1088, 3) := by decide +kernel
theorem dL_law_753 : decode cL_law 753 = .ok (.aload_n 1, 1) := by decide +kernel
theorem dL_law_754 : decode cL_law 754 = .ok (.aload_n 0, 1) := by decide +kernel
theorem dL_law_755 : decode cL_law 755 = .ok (.iload 4, 2) := by decide +kernel
theorem dL_law_757 : decode cL_law 757 = .ok (.iconst 1, 1) := by decide +kernel
theorem dL_law_758 : decode cL_law 758 = .ok (.iadd, 1) := by decide +kernel
theorem dL_law_759 : decode cL_law 759 = .ok (.iaload, 1) := by decide +kernel
theorem dL_law_760 : decode cL_law 760 = .ok (.aload_n 0, 1) := by decide +kernel
theorem dL_law_761 : decode cL_law 761 = .ok (.iload 4, 2) := by decide +kernel
theorem dL_law_763 : decode cL_law 763 = .ok (.iconst 2, 1) := by decide +kernel
theorem dL_law_764 : decode cL_law 764 = .ok (.iadd, 1) := by decide +kernel
theorem dL_law_765 : decode cL_law 765 = .ok (.iaload, 1) := by decide +kernel
theorem dL_law_766 : decode cL_law 766 = .ok (.aload_n 3, 1) := by decide +kernel
theorem dL_law_767 : decode cL_law 767 = .ok (.invokestatic 142, 3) := by decide +kernel
theorem dL_law_770 : decode cL_law 770 = .ok (.istore 5, 2) := by decide +kernel
theorem dL_law_772 : decode cL_law 772 = .ok (.aload_n 2, 1) := by decide +kernel
theorem dL_law_773 : decode cL_law 773 = .ok (.aload_n 0, 1) := by decide +kernel
theorem dL_law_774 : decode cL_law 774 = .ok (.iload 4, 2) := by decide +kernel
theorem dL_law_776 : decode cL_law 776 = .ok (.iconst 1, 1) := by decide +kernel
theorem dL_law_777 : decode cL_law 777 = .ok (.iadd, 1) := by decide +kernel
theorem dL_law_778 : decode cL_law 778 = .ok (.iaload, 1) := by decide +kernel
theorem dL_law_779 : decode cL_law 779 = .ok (.aload_n 0, 1) := by decide +kernel
theorem dL_law_780 : decode cL_law 780 = .ok (.iload 4, 2) := by decide +kernel
theorem dL_law_782 : decode cL_law 782 = .ok (.iconst 2, 1) := by decide +kernel
theorem dL_law_783 : decode cL_law 783 = .ok (.iadd, 1) := by decide +kernel
theorem dL_law_784 : decode cL_law 784 = .ok (.iaload, 1) := by decide +kernel
theorem dL_law_785 : decode cL_law 785 = .ok (.invokevirtual 144, 3) := by decide +kernel
theorem dL_law_788 : decode cL_law 788 = .ok (.istore 6, 2) := by decide +kernel
theorem dL_law_790 : decode cL_law 790 = .ok (.aload_n 2, 1) := by decide +kernel
theorem dL_law_791 : decode cL_law 791 = .ok (.invokevirtual 120, 3) := by decide +kernel
theorem dL_law_794 : decode cL_law 794 = .ok (.iload 5, 2) := by decide +kernel
theorem dL_law_796 : decode cL_law 796 = .ok (.if_icmp .eq 5, 3) := by decide +kernel
theorem dL_law_799 : decode cL_law 799 = .ok (.iconst 0, 1) := by decide +kernel
theorem dL_law_800 : decode cL_law 800 = .ok (.ireturn, 1) := by decide +kernel
theorem dL_law_801 : decode cL_law 801 = .ok (.iload 5, 2) := by decide +kernel
theorem dL_law_803 : decode cL_law 803 = .ok (.ifCond .ne 15, 3) := by decide +kernel
theorem dL_law_806 : decode cL_law 806 = .ok (.aload_n 3, 1) := by decide +kernel
theorem dL_law_807 : decode cL_law 807 = .ok (.iconst 0, 1) := by decide +kernel
theorem dL_law_808 : decode cL_law 808 = .ok (.laload, 1) := by decide +kernel
theorem dL_law_809 : decode cL_law 809 = .ok (.iload 6, 2) := by decide +kernel
theorem dL_law_811 : decode cL_law 811 = .ok (.i2l, 1) := by decide +kernel
theorem dL_law_812 : decode cL_law 812 = .ok (.lcmp, 1) := by decide +kernel
theorem dL_law_813 : decode cL_law 813 = .ok (.ifCond .eq 5, 3) := by decide +kernel
theorem dL_law_816 : decode cL_law 816 = .ok (.iconst 0, 1) := by decide +kernel
theorem dL_law_817 : decode cL_law 817 = .ok (.ireturn, 1) := by decide +kernel
theorem dL_law_818 : decode cL_law 818 = .ok (.goto 1020, 3) := by decide +kernel
theorem dL_law_821 : decode cL_law 821 = .ok (.aload_n 1, 1) := by decide +kernel
theorem dL_law_822 : decode cL_law 822 = .ok (.aload_n 0, 1) := by decide +kernel
theorem dL_law_823 : decode cL_law 823 = .ok (.iload 4, 2) := by decide +kernel
theorem dL_law_825 : decode cL_law 825 = .ok (.iconst 1, 1) := by decide +kernel
theorem dL_law_826 : decode cL_law 826 = .ok (.iadd, 1) := by decide +kernel
theorem dL_law_827 : decode cL_law 827 = .ok (.iaload, 1) := by decide +kernel
theorem dL_law_828 : decode cL_law 828 = .ok (.aload_n 3, 1) := by decide +kernel
theorem dL_law_829 : decode cL_law 829 = .ok (.invokestatic 145, 3) := by decide +kernel
theorem dL_law_832 : decode cL_law 832 = .ok (.istore 5, 2) := by decide +kernel
theorem dL_law_834 : decode cL_law 834 = .ok (.aload_n 2, 1) := by decide +kernel
theorem dL_law_835 : decode cL_law 835 = .ok (.aload_n 0, 1) := by decide +kernel
theorem dL_law_836 : decode cL_law 836 = .ok (.iload 4, 2) := by decide +kernel
theorem dL_law_838 : decode cL_law 838 = .ok (.iconst 1, 1) := by decide +kernel
theorem dL_law_839 : decode cL_law 839 = .ok (.iadd, 1) := by decide +kernel
theorem dL_law_840 : decode cL_law 840 = .ok (.iaload, 1) := by decide +kernel
theorem dL_law_841 : decode cL_law 841 = .ok (.invokevirtual 147, 3) := by decide +kernel
theorem dL_law_844 : decode cL_law 844 = .ok (.lstore 6, 2) := by decide +kernel
theorem dL_law_846 : decode cL_law 846 = .ok (.aload_n 2, 1) := by decide +kernel
theorem dL_law_847 : decode cL_law 847 = .ok (.invokevirtual 120, 3) := by decide +kernel
theorem dL_law_850 : decode cL_law 850 = .ok (.iload 5, 2) := by decide +kernel
theorem dL_law_852 : decode cL_law 852 = .ok (.if_icmp .eq 5, 3) := by decide +kernel
theorem dL_law_855 : decode cL_law 855 = .ok (.iconst 0, 1) := by decide +kernel
theorem dL_law_856 : decode cL_law 856 = .ok (.ireturn, 1) := by decide +kernel
theorem dL_law_857 : decode cL_law 857 = .ok (.iload 5, 2) := by decide +kernel
theorem dL_law_859 : decode cL_law 859 = .ok (.ifCond .ne 14, 3) := by decide +kernel
theorem dL_law_862 : decode cL_law 862 = .ok (.aload_n 3, 1) := by decide +kernel
theorem dL_law_863 : decode cL_law 863 = .ok (.iconst 0, 1) := by decide +kernel
theorem dL_law_864 : decode cL_law 864 = .ok (.laload, 1) := by decide +kernel
theorem dL_law_865 : decode cL_law 865 = .ok (.lload 6, 2) := by decide +kernel
theorem dL_law_867 : decode cL_law 867 = .ok (.lcmp, 1) := by decide +kernel
theorem dL_law_868 : decode cL_law 868 = .ok (.ifCond .eq 5, 3) := by decide +kernel
theorem dL_law_871 : decode cL_law 871 = .ok (.iconst 0, 1) := by decide +kernel
theorem dL_law_872 : decode cL_law 872 = .ok (.ireturn, 1) := by decide +kernel
theorem dL_law_873 : decode cL_law 873 = .ok (.goto 965, 3) := by decide +kernel
theorem dL_law_876 : decode cL_law 876 = .ok (.aload_n 1, 1) := by decide +kernel
theorem dL_law_877 : decode cL_law 877 = .ok (.aload_n 0, 1) := by decide +kernel
theorem dL_law_878 : decode cL_law 878 = .ok (.iload 4, 2) := by decide +kernel
theorem dL_law_880 : decode cL_law 880 = .ok (.iconst 1, 1) := by decide +kernel
theorem dL_law_881 : decode cL_law 881 = .ok (.iadd, 1) := by decide +kernel
theorem dL_law_882 : decode cL_law 882 = .ok (.iaload, 1) := by decide +kernel
theorem dL_law_883 : decode cL_law 883 = .ok (.aload_n 0, 1) := by decide +kernel
theorem dL_law_884 : decode cL_law 884 = .ok (.iload 4, 2) := by decide +kernel
theorem dL_law_886 : decode cL_law 886 = .ok (.iconst 2, 1) := by decide +kernel
theorem dL_law_887 : decode cL_law 887 = .ok (.iadd, 1) := by decide +kernel
theorem dL_law_888 : decode cL_law 888 = .ok (.iaload, 1) := by decide +kernel
theorem dL_law_889 : decode cL_law 889 = .ok (.aload_n 3, 1) := by decide +kernel
theorem dL_law_890 : decode cL_law 890 = .ok (.invokestatic 148, 3) := by decide +kernel
theorem dL_law_893 : decode cL_law 893 = .ok (.istore 5, 2) := by decide +kernel
theorem dL_law_895 : decode cL_law 895 = .ok (.aload_n 2, 1) := by decide +kernel
theorem dL_law_896 : decode cL_law 896 = .ok (.aload_n 0, 1) := by decide +kernel
theorem dL_law_897 : decode cL_law 897 = .ok (.iload 4, 2) := by decide +kernel
theorem dL_law_899 : decode cL_law 899 = .ok (.iconst 1, 1) := by decide +kernel
theorem dL_law_900 : decode cL_law 900 = .ok (.iadd, 1) := by decide +kernel
theorem dL_law_901 : decode cL_law 901 = .ok (.iaload, 1) := by decide +kernel
theorem dL_law_902 : decode cL_law 902 = .ok (.aload_n 0, 1) := by decide +kernel
theorem dL_law_903 : decode cL_law 903 = .ok (.iload 4, 2) := by decide +kernel
theorem dL_law_905 : decode cL_law 905 = .ok (.iconst 2, 1) := by decide +kernel
theorem dL_law_906 : decode cL_law 906 = .ok (.iadd, 1) := by decide +kernel
theorem dL_law_907 : decode cL_law 907 = .ok (.iaload, 1) := by decide +kernel
theorem dL_law_908 : decode cL_law 908 = .ok (.invokevirtual 150, 3) := by decide +kernel
theorem dL_law_911 : decode cL_law 911 = .ok (.istore 6, 2) := by decide +kernel
theorem dL_law_913 : decode cL_law 913 = .ok (.aload_n 2, 1) := by decide +kernel
theorem dL_law_914 : decode cL_law 914 = .ok (.invokevirtual 120, 3) := by decide +kernel
theorem dL_law_917 : decode cL_law 917 = .ok (.iload 5, 2) := by decide +kernel
theorem dL_law_919 : decode cL_law 919 = .ok (.if_icmp .eq 5, 3) := by decide +kernel
theorem dL_law_922 : decode cL_law 922 = .ok (.iconst 0, 1) := by decide +kernel
theorem dL_law_923 : decode cL_law 923 = .ok (.ireturn, 1) := by decide +kernel
theorem dL_law_924 : decode cL_law 924 = .ok (.iload 5, 2) := by decide +kernel
theorem dL_law_926 : decode cL_law 926 = .ok (.ifCond .ne 15, 3) := by decide +kernel
theorem dL_law_929 : decode cL_law 929 = .ok (.aload_n 3, 1) := by decide +kernel
theorem dL_law_930 : decode cL_law 930 = .ok (.iconst 0, 1) := by decide +kernel
theorem dL_law_931 : decode cL_law 931 = .ok (.laload, 1) := by decide +kernel
theorem dL_law_932 : decode cL_law 932 = .ok (.iload 6, 2) := by decide +kernel
theorem dL_law_934 : decode cL_law 934 = .ok (.i2l, 1) := by decide +kernel
theorem dL_law_935 : decode cL_law 935 = .ok (.lcmp, 1) := by decide +kernel
theorem dL_law_936 : decode cL_law 936 = .ok (.ifCond .eq 5, 3) := by decide +kernel
theorem dL_law_939 : decode cL_law 939 = .ok (.iconst 0, 1) := by decide +kernel
theorem dL_law_940 : decode cL_law 940 = .ok (.ireturn, 1) := by decide +kernel
theorem dL_law_941 : decode cL_law 941 = .ok (.goto 897, 3) := by decide +kernel
theorem dL_law_944 : decode cL_law 944 = .ok (.aload_n 1, 1) := by decide +kernel
theorem dL_law_945 : decode cL_law 945 = .ok (.aload_n 0, 1) := by decide +kernel
theorem dL_law_946 : decode cL_law 946 = .ok (.iload 4, 2) := by decide +kernel
theorem dL_law_948 : decode cL_law 948 = .ok (.iconst 1, 1) := by decide +kernel
theorem dL_law_949 : decode cL_law 949 = .ok (.iadd, 1) := by decide +kernel
theorem dL_law_950 : decode cL_law 950 = .ok (.iaload, 1) := by decide +kernel
theorem dL_law_951 : decode cL_law 951 = .ok (.aload_n 0, 1) := by decide +kernel
theorem dL_law_952 : decode cL_law 952 = .ok (.iload 4, 2) := by decide +kernel
theorem dL_law_954 : decode cL_law 954 = .ok (.iconst 2, 1) := by decide +kernel
theorem dL_law_955 : decode cL_law 955 = .ok (.iadd, 1) := by decide +kernel
theorem dL_law_956 : decode cL_law 956 = .ok (.iaload, 1) := by decide +kernel
theorem dL_law_957 : decode cL_law 957 = .ok (.aload_n 3, 1) := by decide +kernel
theorem dL_law_958 : decode cL_law 958 = .ok (.invokestatic 151, 3) := by decide +kernel
theorem dL_law_961 : decode cL_law 961 = .ok (.istore 5, 2) := by decide +kernel
theorem dL_law_963 : decode cL_law 963 = .ok (.aload_n 2, 1) := by decide +kernel
theorem dL_law_964 : decode cL_law 964 = .ok (.aload_n 0, 1) := by decide +kernel
theorem dL_law_965 : decode cL_law 965 = .ok (.iload 4, 2) := by decide +kernel
theorem dL_law_967 : decode cL_law 967 = .ok (.iconst 1, 1) := by decide +kernel
theorem dL_law_968 : decode cL_law 968 = .ok (.iadd, 1) := by decide +kernel
theorem dL_law_969 : decode cL_law 969 = .ok (.iaload, 1) := by decide +kernel
theorem dL_law_970 : decode cL_law 970 = .ok (.aload_n 0, 1) := by decide +kernel
theorem dL_law_971 : decode cL_law 971 = .ok (.iload 4, 2) := by decide +kernel
theorem dL_law_973 : decode cL_law 973 = .ok (.iconst 2, 1) := by decide +kernel
theorem dL_law_974 : decode cL_law 974 = .ok (.iadd, 1) := by decide +kernel
theorem dL_law_975 : decode cL_law 975 = .ok (.iaload, 1) := by decide +kernel
theorem dL_law_976 : decode cL_law 976 = .ok (.invokevirtual 153, 3) := by decide +kernel
theorem dL_law_979 : decode cL_law 979 = .ok (.istore 6, 2) := by decide +kernel
theorem dL_law_981 : decode cL_law 981 = .ok (.aload_n 2, 1) := by decide +kernel
theorem dL_law_982 : decode cL_law 982 = .ok (.invokevirtual 120, 3) := by decide +kernel
theorem dL_law_985 : decode cL_law 985 = .ok (.iload 5, 2) := by decide +kernel
theorem dL_law_987 : decode cL_law 987 = .ok (.if_icmp .eq 5, 3) := by decide +kernel
theorem dL_law_990 : decode cL_law 990 = .ok (.iconst 0, 1) := by decide +kernel
theorem dL_law_991 : decode cL_law 991 = .ok (.ireturn, 1) := by decide +kernel
theorem dL_law_992 : decode cL_law 992 = .ok (.iload 5, 2) := by decide +kernel
theorem dL_law_994 : decode cL_law 994 = .ok (.ifCond .ne 15, 3) := by decide +kernel
theorem dL_law_997 : decode cL_law 997 = .ok (.aload_n 3, 1) := by decide +kernel
theorem dL_law_998 : decode cL_law 998 = .ok (.iconst 0, 1) := by decide +kernel
theorem dL_law_999 : decode cL_law 999 = .ok (.laload, 1) := by decide +kernel
theorem dL_law_1000 : decode cL_law 1000 = .ok (.iload 6, 2) := by decide +kernel
theorem dL_law_1002 : decode cL_law 1002 = .ok (.i2l, 1) := by decide +kernel
theorem dL_law_1003 : decode cL_law 1003 = .ok (.lcmp, 1) := by decide +kernel
theorem dL_law_1004 : decode cL_law 1004 = .ok (.ifCond .eq 5, 3) := by decide +kernel
theorem dL_law_1007 : decode cL_law 1007 = .ok (.iconst 0, 1) := by decide +kernel
theorem dL_law_1008 : decode cL_law 1008 = .ok (.ireturn, 1) := by decide +kernel
theorem dL_law_1009 : decode cL_law 1009 = .ok (.goto 829, 3) := by decide +kernel
theorem dL_law_1012 : decode cL_law 1012 = .ok (.aload_n 1, 1) := by decide +kernel
theorem dL_law_1013 : decode cL_law 1013 = .ok (.aload_n 0, 1) := by decide +kernel
theorem dL_law_1014 : decode cL_law 1014 = .ok (.iload 4, 2) := by decide +kernel
theorem dL_law_1016 : decode cL_law 1016 = .ok (.iconst 1, 1) := by decide +kernel
theorem dL_law_1017 : decode cL_law 1017 = .ok (.iadd, 1) := by decide +kernel
theorem dL_law_1018 : decode cL_law 1018 = .ok (.iaload, 1) := by decide +kernel
theorem dL_law_1019 : decode cL_law 1019 = .ok (.aload_n 0, 1) := by decide +kernel
theorem dL_law_1020 : decode cL_law 1020 = .ok (.iload 4, 2) := by decide +kernel
theorem dL_law_1022 : decode cL_law 1022 = .ok (.iconst 2, 1) := by decide +kernel
theorem dL_law_1023 : decode cL_law 1023 = .ok (.iadd, 1) := by decide +kernel
theorem dL_law_1024 : decode cL_law 1024 = .ok (.iaload, 1) := by decide +kernel
theorem dL_law_1025 : decode cL_law 1025 = .ok (.aload_n 3, 1) := by decide +kernel
theorem dL_law_1026 : decode cL_law 1026 = .ok (.invokestatic 154, 3) := by decide +kernel
theorem dL_law_1029 : decode cL_law 1029 = .ok (.istore 5, 2) := by decide +kernel
theorem dL_law_1031 : decode cL_law 1031 = .ok (.aload_n 2, 1) := by decide +kernel
theorem dL_law_1032 : decode cL_law 1032 = .ok (.aload_n 0, 1) := by decide +kernel
theorem dL_law_1033 : decode cL_law 1033 = .ok (.iload 4, 2) := by decide +kernel
theorem dL_law_1035 : decode cL_law 1035 = .ok (.iconst 1, 1) := by decide +kernel
theorem dL_law_1036 : decode cL_law 1036 = .ok (.iadd, 1) := by decide +kernel
theorem dL_law_1037 : decode cL_law 1037 = .ok (.iaload, 1) := by decide +kernel
theorem dL_law_1038 : decode cL_law 1038 = .ok (.aload_n 0, 1) := by decide +kernel
theorem dL_law_1039 : decode cL_law 1039 = .ok (.iload 4, 2) := by decide +kernel
theorem dL_law_1041 : decode cL_law 1041 = .ok (.iconst 2, 1) := by decide +kernel
theorem dL_law_1042 : decode cL_law 1042 = .ok (.iadd, 1) := by decide +kernel
theorem dL_law_1043 : decode cL_law 1043 = .ok (.iaload, 1) := by decide +kernel
theorem dL_law_1044 : decode cL_law 1044 = .ok (.invokevirtual 156, 3) := by decide +kernel
theorem dL_law_1047 : decode cL_law 1047 = .ok (.istore 6, 2) := by decide +kernel
theorem dL_law_1049 : decode cL_law 1049 = .ok (.aload_n 2, 1) := by decide +kernel
theorem dL_law_1050 : decode cL_law 1050 = .ok (.invokevirtual 120, 3) := by decide +kernel
theorem dL_law_1053 : decode cL_law 1053 = .ok (.iload 5, 2) := by decide +kernel
theorem dL_law_1055 : decode cL_law 1055 = .ok (.if_icmp .eq 5, 3) := by decide +kernel
theorem dL_law_1058 : decode cL_law 1058 = .ok (.iconst 0, 1) := by decide +kernel
theorem dL_law_1059 : decode cL_law 1059 = .ok (.ireturn, 1) := by decide +kernel
theorem dL_law_1060 : decode cL_law 1060 = .ok (.iload 5, 2) := by decide +kernel
theorem dL_law_1062 : decode cL_law 1062 = .ok (.ifCond .ne 15, 3) := by decide +kernel
theorem dL_law_1065 : decode cL_law 1065 = .ok (.aload_n 3, 1) := by decide +kernel
theorem dL_law_1066 : decode cL_law 1066 = .ok (.iconst 0, 1) := by decide +kernel
theorem dL_law_1067 : decode cL_law 1067 = .ok (.laload, 1) := by decide +kernel
theorem dL_law_1068 : decode cL_law 1068 = .ok (.iload 6, 2) := by decide +kernel
theorem dL_law_1070 : decode cL_law 1070 = .ok (.i2l, 1) := by decide +kernel
theorem dL_law_1071 : decode cL_law 1071 = .ok (.lcmp, 1) := by decide +kernel
theorem dL_law_1072 : decode cL_law 1072 = .ok (.ifCond .eq 5, 3) := by decide +kernel
theorem dL_law_1075 : decode cL_law 1075 = .ok (.iconst 0, 1) := by decide +kernel
theorem dL_law_1076 : decode cL_law 1076 = .ok (.ireturn, 1) := by decide +kernel
theorem dL_law_1077 : decode cL_law 1077 = .ok (.goto 761, 3) := by decide +kernel
theorem dL_law_1080 : decode cL_law 1080 = .ok (.aload_n 1, 1) := by decide +kernel
theorem dL_law_1081 : decode cL_law 1081 = .ok (.aload_n 0, 1) := by decide +kernel
theorem dL_law_1082 : decode cL_law 1082 = .ok (.iload 4, 2) := by decide +kernel
theorem dL_law_1084 : decode cL_law 1084 = .ok (.iconst 1, 1) := by decide +kernel
theorem dL_law_1085 : decode cL_law 1085 = .ok (.iadd, 1) := by decide +kernel
theorem dL_law_1086 : decode cL_law 1086 = .ok (.iaload, 1) := by decide +kernel
theorem dL_law_1087 : decode cL_law 1087 = .ok (.aload_n 0, 1) := by decide +kernel
theorem dL_law_1088 : decode cL_law 1088 = .ok (.iload 4, 2) := by decide +kernel
theorem dL_law_1090 : decode cL_law 1090 = .ok (.iconst 2, 1) := by decide +kernel
theorem dL_law_1091 : decode cL_law 1091 = .ok (.iadd, 1) := by decide +kernel
theorem dL_law_1092 : decode cL_law 1092 = .ok (.iaload, 1) := by decide +kernel
theorem dL_law_1093 : decode cL_law 1093 = .ok (.aload_n 0, 1) := by decide +kernel
theorem dL_law_1094 : decode cL_law 1094 = .ok (.iload 4, 2) := by decide +kernel
theorem dL_law_1096 : decode cL_law 1096 = .ok (.iconst 3, 1) := by decide +kernel
theorem dL_law_1097 : decode cL_law 1097 = .ok (.iadd, 1) := by decide +kernel
theorem dL_law_1098 : decode cL_law 1098 = .ok (.iaload, 1) := by decide +kernel
theorem dL_law_1099 : decode cL_law 1099 = .ok (.aload_n 3, 1) := by decide +kernel
theorem dL_law_1100 : decode cL_law 1100 = .ok (.invokestatic 157, 3) := by decide +kernel
theorem dL_law_1103 : decode cL_law 1103 = .ok (.istore 5, 2) := by decide +kernel
theorem dL_law_1105 : decode cL_law 1105 = .ok (.aload_n 2, 1) := by decide +kernel
theorem dL_law_1106 : decode cL_law 1106 = .ok (.aload_n 0, 1) := by decide +kernel
theorem dL_law_1107 : decode cL_law 1107 = .ok (.iload 4, 2) := by decide +kernel
theorem dL_law_1109 : decode cL_law 1109 = .ok (.iconst 1, 1) := by decide +kernel
theorem dL_law_1110 : decode cL_law 1110 = .ok (.iadd, 1) := by decide +kernel
theorem dL_law_1111 : decode cL_law 1111 = .ok (.iaload, 1) := by decide +kernel
theorem dL_law_1112 : decode cL_law 1112 = .ok (.aload_n 0, 1) := by decide +kernel
theorem dL_law_1113 : decode cL_law 1113 = .ok (.iload 4, 2) := by decide +kernel
theorem dL_law_1115 : decode cL_law 1115 = .ok (.iconst 2, 1) := by decide +kernel
theorem dL_law_1116 : decode cL_law 1116 = .ok (.iadd, 1) := by decide +kernel
theorem dL_law_1117 : decode cL_law 1117 = .ok (.iaload, 1) := by decide +kernel
theorem dL_law_1118 : decode cL_law 1118 = .ok (.aload_n 0, 1) := by decide +kernel
theorem dL_law_1119 : decode cL_law 1119 = .ok (.iload 4, 2) := by decide +kernel
theorem dL_law_1121 : decode cL_law 1121 = .ok (.iconst 3, 1) := by decide +kernel
theorem dL_law_1122 : decode cL_law 1122 = .ok (.iadd, 1) := by decide +kernel
theorem dL_law_1123 : decode cL_law 1123 = .ok (.iaload, 1) := by decide +kernel
theorem dL_law_1124 : decode cL_law 1124 = .ok (.invokevirtual 160, 3) := by decide +kernel
theorem dL_law_1127 : decode cL_law 1127 = .ok (.istore 6, 2) := by decide +kernel
theorem dL_law_1129 : decode cL_law 1129 = .ok (.aload_n 2, 1) := by decide +kernel
theorem dL_law_1130 : decode cL_law 1130 = .ok (.invokevirtual 120, 3) := by decide +kernel
theorem dL_law_1133 : decode cL_law 1133 = .ok (.iload 5, 2) := by decide +kernel
theorem dL_law_1135 : decode cL_law 1135 = .ok (.if_icmp .eq 5, 3) := by decide +kernel
theorem dL_law_1138 : decode cL_law 1138 = .ok (.iconst 0, 1) := by decide +kernel
theorem dL_law_1139 : decode cL_law 1139 = .ok (.ireturn, 1) := by decide +kernel
theorem dL_law_1140 : decode cL_law 1140 = .ok (.iload 5, 2) := by decide +kernel
theorem dL_law_1142 : decode cL_law 1142 = .ok (.ifCond .ne 15, 3) := by decide +kernel
theorem dL_law_1145 : decode cL_law 1145 = .ok (.aload_n 3, 1) := by decide +kernel
theorem dL_law_1146 : decode cL_law 1146 = .ok (.iconst 0, 1) := by decide +kernel
theorem dL_law_1147 : decode cL_law 1147 = .ok (.laload, 1) := by decide +kernel
theorem dL_law_1148 : decode cL_law 1148 = .ok (.iload 6, 2) := by decide +kernel
theorem dL_law_1150 : decode cL_law 1150 = .ok (.i2l, 1) := by decide +kernel
theorem dL_law_1151 : decode cL_law 1151 = .ok (.lcmp, 1) := by decide +kernel
theorem dL_law_1152 : decode cL_law 1152 = .ok (.ifCond .eq 5, 3) := by decide +kernel
theorem dL_law_1155 : decode cL_law 1155 = .ok (.iconst 0, 1) := by decide +kernel
theorem dL_law_1156 : decode cL_law 1156 = .ok (.ireturn, 1) := by decide +kernel
theorem dL_law_1157 : decode cL_law 1157 = .ok (.goto 681, 3) := by decide +kernel
theorem dL_law_1160 : decode cL_law 1160 = .ok (.aload_n 1, 1) := by decide +kernel
theorem dL_law_1161 : decode cL_law 1161 = .ok (.aload_n 0, 1) := by decide +kernel
theorem dL_law_1162 : decode cL_law 1162 = .ok (.iload 4, 2) := by decide +kernel
theorem dL_law_1164 : decode cL_law 1164 = .ok (.iconst 1, 1) := by decide +kernel
theorem dL_law_1165 : decode cL_law 1165 = .ok (.iadd, 1) := by decide +kernel
theorem dL_law_1166 : decode cL_law 1166 = .ok (.iaload, 1) := by decide +kernel
theorem dL_law_1167 : decode cL_law 1167 = .ok (.aload_n 3, 1) := by decide +kernel
theorem dL_law_1168 : decode cL_law 1168 = .ok (.invokestatic 161, 3) := by decide +kernel
theorem dL_law_1171 : decode cL_law 1171 = .ok (.istore 5, 2) := by decide +kernel
theorem dL_law_1173 : decode cL_law 1173 = .ok (.aload_n 2, 1) := by decide +kernel
theorem dL_law_1174 : decode cL_law 1174 = .ok (.aload_n 0, 1) := by decide +kernel
theorem dL_law_1175 : decode cL_law 1175 = .ok (.iload 4, 2) := by decide +kernel
theorem dL_law_1177 : decode cL_law 1177 = .ok (.iconst 1, 1) := by decide +kernel
theorem dL_law_1178 : decode cL_law 1178 = .ok (.iadd, 1) := by decide +kernel
theorem dL_law_1179 : decode cL_law 1179 = .ok (.iaload, 1) := by decide +kernel
theorem dL_law_1180 : decode cL_law 1180 = .ok (.invokevirtual 163, 3) := by decide +kernel
theorem dL_law_1183 : decode cL_law 1183 = .ok (.istore 6, 2) := by decide +kernel
theorem dL_law_1185 : decode cL_law 1185 = .ok (.aload_n 2, 1) := by decide +kernel
theorem dL_law_1186 : decode cL_law 1186 = .ok (.invokevirtual 120, 3) := by decide +kernel
theorem dL_law_1189 : decode cL_law 1189 = .ok (.iload 5, 2) := by decide +kernel
theorem dL_law_1191 : decode cL_law 1191 = .ok (.if_icmp .eq 5, 3) := by decide +kernel
theorem dL_law_1194 : decode cL_law 1194 = .ok (.iconst 0, 1) := by decide +kernel
theorem dL_law_1195 : decode cL_law 1195 = .ok (.ireturn, 1) := by decide +kernel
theorem dL_law_1196 : decode cL_law 1196 = .ok (.iload 5, 2) := by decide +kernel
theorem dL_law_1198 : decode cL_law 1198 = .ok (.ifCond .ne 15, 3) := by decide +kernel
theorem dL_law_1201 : decode cL_law 1201 = .ok (.aload_n 3, 1) := by decide +kernel
theorem dL_law_1202 : decode cL_law 1202 = .ok (.iconst 0, 1) := by decide +kernel
theorem dL_law_1203 : decode cL_law 1203 = .ok (.laload, 1) := by decide +kernel
theorem dL_law_1204 : decode cL_law 1204 = .ok (.iload 6, 2) := by decide +kernel
theorem dL_law_1206 : decode cL_law 1206 = .ok (.i2l, 1) := by decide +kernel
theorem dL_law_1207 : decode cL_law 1207 = .ok (.lcmp, 1) := by decide +kernel
theorem dL_law_1208 : decode cL_law 1208 = .ok (.ifCond .eq 5, 3) := by decide +kernel
theorem dL_law_1211 : decode cL_law 1211 = .ok (.iconst 0, 1) := by decide +kernel
theorem dL_law_1212 : decode cL_law 1212 = .ok (.ireturn, 1) := by decide +kernel
theorem dL_law_1213 : decode cL_law 1213 = .ok (.goto 625, 3) := by decide +kernel
theorem dL_law_1216 : decode cL_law 1216 = .ok (.aload_n 1, 1) := by decide +kernel
theorem dL_law_1217 : decode cL_law 1217 = .ok (.aload_n 0, 1) := by decide +kernel
theorem dL_law_1218 : decode cL_law 1218 = .ok (.iload 4, 2) := by decide +kernel
theorem dL_law_1220 : decode cL_law 1220 = .ok (.iconst 1, 1) := by decide +kernel
theorem dL_law_1221 : decode cL_law 1221 = .ok (.iadd, 1) := by decide +kernel
theorem dL_law_1222 : decode cL_law 1222 = .ok (.iaload, 1) := by decide +kernel
theorem dL_law_1223 : decode cL_law 1223 = .ok (.aload_n 3, 1) := by decide +kernel
theorem dL_law_1224 : decode cL_law 1224 = .ok (.invokestatic 164, 3) := by decide +kernel
theorem dL_law_1227 : decode cL_law 1227 = .ok (.istore 5, 2) := by decide +kernel
theorem dL_law_1229 : decode cL_law 1229 = .ok (.aload_n 2, 1) := by decide +kernel
theorem dL_law_1230 : decode cL_law 1230 = .ok (.aload_n 0, 1) := by decide +kernel
theorem dL_law_1231 : decode cL_law 1231 = .ok (.iload 4, 2) := by decide +kernel
theorem dL_law_1233 : decode cL_law 1233 = .ok (.iconst 1, 1) := by decide +kernel
theorem dL_law_1234 : decode cL_law 1234 = .ok (.iadd, 1) := by decide +kernel
theorem dL_law_1235 : decode cL_law 1235 = .ok (.iaload, 1) := by decide +kernel
theorem dL_law_1236 : decode cL_law 1236 = .ok (.invokevirtual 166, 3) := by decide +kernel
theorem dL_law_1239 : decode cL_law 1239 = .ok (.istore 6, 2) := by decide +kernel
theorem dL_law_1241 : decode cL_law 1241 = .ok (.aload_n 2, 1) := by decide +kernel
theorem dL_law_1242 : decode cL_law 1242 = .ok (.invokevirtual 120, 3) := by decide +kernel
theorem dL_law_1245 : decode cL_law 1245 = .ok (.iload 5, 2) := by decide +kernel
theorem dL_law_1247 : decode cL_law 1247 = .ok (.if_icmp .eq 5, 3) := by decide +kernel
theorem dL_law_1250 : decode cL_law 1250 = .ok (.iconst 0, 1) := by decide +kernel
theorem dL_law_1251 : decode cL_law 1251 = .ok (.ireturn, 1) := by decide +kernel
theorem dL_law_1252 : decode cL_law 1252 = .ok (.iload 5, 2) := by decide +kernel
theorem dL_law_1254 : decode cL_law 1254 = .ok (.ifCond .ne 15, 3) := by decide +kernel
theorem dL_law_1257 : decode cL_law 1257 = .ok (.aload_n 3, 1) := by decide +kernel
theorem dL_law_1258 : decode cL_law 1258 = .ok (.iconst 0, 1) := by decide +kernel
theorem dL_law_1259 : decode cL_law 1259 = .ok (.laload, 1) := by decide +kernel
theorem dL_law_1260 : decode cL_law 1260 = .ok (.iload 6, 2) := by decide +kernel
theorem dL_law_1262 : decode cL_law 1262 = .ok (.i2l, 1) := by decide +kernel
theorem dL_law_1263 : decode cL_law 1263 = .ok (.lcmp, 1) := by decide +kernel
theorem dL_law_1264 : decode cL_law 1264 = .ok (.ifCond .eq 5, 3) := by decide +kernel
theorem dL_law_1267 : decode cL_law 1267 = .ok (.iconst 0, 1) := by decide +kernel
theorem dL_law_1268 : decode cL_law 1268 = .ok (.ireturn, 1) := by decide +kernel
theorem dL_law_1269 : decode cL_law 1269 = .ok (.goto 569, 3) := by decide +kernel
theorem dL_law_1272 : decode cL_law 1272 = .ok (.aload_n 1, 1) := by decide +kernel
theorem dL_law_1273 : decode cL_law 1273 = .ok (.aload_n 0, 1) := by decide +kernel
theorem dL_law_1274 : decode cL_law 1274 = .ok (.iload 4, 2) := by decide +kernel
theorem dL_law_1276 : decode cL_law 1276 = .ok (.iconst 1, 1) := by decide +kernel
theorem dL_law_1277 : decode cL_law 1277 = .ok (.iadd, 1) := by decide +kernel
theorem dL_law_1278 : decode cL_law 1278 = .ok (.iaload, 1) := by decide +kernel
theorem dL_law_1279 : decode cL_law 1279 = .ok (.aload_n 0, 1) := by decide +kernel
theorem dL_law_1280 : decode cL_law 1280 = .ok (.iload 4, 2) := by decide +kernel
theorem dL_law_1282 : decode cL_law 1282 = .ok (.iconst 2, 1) := by decide +kernel
theorem dL_law_1283 : decode cL_law 1283 = .ok (.iadd, 1) := by decide +kernel
theorem dL_law_1284 : decode cL_law 1284 = .ok (.iaload, 1) := by decide +kernel
theorem dL_law_1285 : decode cL_law 1285 = .ok (.aload_n 3, 1) := by decide +kernel
theorem dL_law_1286 : decode cL_law 1286 = .ok (.invokestatic 167, 3) := by decide +kernel
theorem dL_law_1289 : decode cL_law 1289 = .ok (.istore 5, 2) := by decide +kernel
theorem dL_law_1291 : decode cL_law 1291 = .ok (.aload_n 2, 1) := by decide +kernel
theorem dL_law_1292 : decode cL_law 1292 = .ok (.aload_n 0, 1) := by decide +kernel
theorem dL_law_1293 : decode cL_law 1293 = .ok (.iload 4, 2) := by decide +kernel
theorem dL_law_1295 : decode cL_law 1295 = .ok (.iconst 1, 1) := by decide +kernel
theorem dL_law_1296 : decode cL_law 1296 = .ok (.iadd, 1) := by decide +kernel
theorem dL_law_1297 : decode cL_law 1297 = .ok (.iaload, 1) := by decide +kernel
theorem dL_law_1298 : decode cL_law 1298 = .ok (.aload_n 0, 1) := by decide +kernel
theorem dL_law_1299 : decode cL_law 1299 = .ok (.iload 4, 2) := by decide +kernel
theorem dL_law_1301 : decode cL_law 1301 = .ok (.iconst 2, 1) := by decide +kernel
theorem dL_law_1302 : decode cL_law 1302 = .ok (.iadd, 1) := by decide +kernel
theorem dL_law_1303 : decode cL_law 1303 = .ok (.iaload, 1) := by decide +kernel
theorem dL_law_1304 : decode cL_law 1304 = .ok (.invokevirtual 169, 3) := by decide +kernel
theorem dL_law_1307 : decode cL_law 1307 = .ok (.istore 6, 2) := by decide +kernel
theorem dL_law_1309 : decode cL_law 1309 = .ok (.aload_n 2, 1) := by decide +kernel
theorem dL_law_1310 : decode cL_law 1310 = .ok (.invokevirtual 120, 3) := by decide +kernel
theorem dL_law_1313 : decode cL_law 1313 = .ok (.iload 5, 2) := by decide +kernel
theorem dL_law_1315 : decode cL_law 1315 = .ok (.if_icmp .eq 5, 3) := by decide +kernel
theorem dL_law_1318 : decode cL_law 1318 = .ok (.iconst 0, 1) := by decide +kernel
theorem dL_law_1319 : decode cL_law 1319 = .ok (.ireturn, 1) := by decide +kernel
theorem dL_law_1320 : decode cL_law 1320 = .ok (.iload 5, 2) := by decide +kernel
theorem dL_law_1322 : decode cL_law 1322 = .ok (.ifCond .ne 22, 3) := by decide +kernel
theorem dL_law_1325 : decode cL_law 1325 = .ok (.aload_n 3, 1) := by decide +kernel
theorem dL_law_1326 : decode cL_law 1326 = .ok (.iconst 0, 1) := by decide +kernel
theorem dL_law_1327 : decode cL_law 1327 = .ok (.laload, 1) := by decide +kernel
theorem dL_law_1328 : decode cL_law 1328 = .ok (.iload 6, 2) := by decide +kernel
theorem dL_law_1330 : decode cL_law 1330 = .ok (.ifCond .eq 7, 3) := by decide +kernel
theorem dL_law_1333 : decode cL_law 1333 = .ok (.lconst 1, 1) := by decide +kernel
theorem dL_law_1334 : decode cL_law 1334 = .ok (.goto 4, 3) := by decide +kernel
theorem dL_law_1337 : decode cL_law 1337 = .ok (.lconst 0, 1) := by decide +kernel
theorem dL_law_1338 : decode cL_law 1338 = .ok (.lcmp, 1) := by decide +kernel
theorem dL_law_1339 : decode cL_law 1339 = .ok (.ifCond .eq 5, 3) := by decide +kernel
theorem dL_law_1342 : decode cL_law 1342 = .ok (.iconst 0, 1) := by decide +kernel
theorem dL_law_1343 : decode cL_law 1343 = .ok (.ireturn, 1) := by decide +kernel
theorem dL_law_1344 : decode cL_law 1344 = .ok (.goto 494, 3) := by decide +kernel
theorem dL_law_1347 : decode cL_law 1347 = .ok (.aload_n 1, 1) := by decide +kernel
theorem dL_law_1348 : decode cL_law 1348 = .ok (.aload_n 0, 1) := by decide +kernel
theorem dL_law_1349 : decode cL_law 1349 = .ok (.iload 4, 2) := by decide +kernel
theorem dL_law_1351 : decode cL_law 1351 = .ok (.iconst 1, 1) := by decide +kernel
theorem dL_law_1352 : decode cL_law 1352 = .ok (.iadd, 1) := by decide +kernel
theorem dL_law_1353 : decode cL_law 1353 = .ok (.iaload, 1) := by decide +kernel
theorem dL_law_1354 : decode cL_law 1354 = .ok (.aload_n 0, 1) := by decide +kernel
theorem dL_law_1355 : decode cL_law 1355 = .ok (.iload 4, 2) := by decide +kernel
theorem dL_law_1357 : decode cL_law 1357 = .ok (.iconst 2, 1) := by decide +kernel
theorem dL_law_1358 : decode cL_law 1358 = .ok (.iadd, 1) := by decide +kernel
theorem dL_law_1359 : decode cL_law 1359 = .ok (.iaload, 1) := by decide +kernel
theorem dL_law_1360 : decode cL_law 1360 = .ok (.aload_n 3, 1) := by decide +kernel
theorem dL_law_1361 : decode cL_law 1361 = .ok (.invokestatic 170, 3) := by decide +kernel
theorem dL_law_1364 : decode cL_law 1364 = .ok (.istore 5, 2) := by decide +kernel
theorem dL_law_1366 : decode cL_law 1366 = .ok (.aload_n 2, 1) := by decide +kernel
theorem dL_law_1367 : decode cL_law 1367 = .ok (.aload_n 0, 1) := by decide +kernel
theorem dL_law_1368 : decode cL_law 1368 = .ok (.iload 4, 2) := by decide +kernel
theorem dL_law_1370 : decode cL_law 1370 = .ok (.iconst 1, 1) := by decide +kernel
theorem dL_law_1371 : decode cL_law 1371 = .ok (.iadd, 1) := by decide +kernel
theorem dL_law_1372 : decode cL_law 1372 = .ok (.iaload, 1) := by decide +kernel
theorem dL_law_1373 : decode cL_law 1373 = .ok (.aload_n 0, 1) := by decide +kernel
theorem dL_law_1374 : decode cL_law 1374 = .ok (.iload 4, 2) := by decide +kernel
theorem dL_law_1376 : decode cL_law 1376 = .ok (.iconst 2, 1) := by decide +kernel
theorem dL_law_1377 : decode cL_law 1377 = .ok (.iadd, 1) := by decide +kernel
theorem dL_law_1378 : decode cL_law 1378 = .ok (.iaload, 1) := by decide +kernel
theorem dL_law_1379 : decode cL_law 1379 = .ok (.invokevirtual 172, 3) := by decide +kernel
theorem dL_law_1382 : decode cL_law 1382 = .ok (.istore 6, 2) := by decide +kernel
theorem dL_law_1384 : decode cL_law 1384 = .ok (.aload_n 2, 1) := by decide +kernel
theorem dL_law_1385 : decode cL_law 1385 = .ok (.invokevirtual 120, 3) := by decide +kernel
theorem dL_law_1388 : decode cL_law 1388 = .ok (.iload 5, 2) := by decide +kernel
theorem dL_law_1390 : decode cL_law 1390 = .ok (.if_icmp .eq 5, 3) := by decide +kernel
theorem dL_law_1393 : decode cL_law 1393 = .ok (.iconst 0, 1) := by decide +kernel
theorem dL_law_1394 : decode cL_law 1394 = .ok (.ireturn, 1) := by decide +kernel
theorem dL_law_1395 : decode cL_law 1395 = .ok (.iload 5, 2) := by decide +kernel
theorem dL_law_1397 : decode cL_law 1397 = .ok (.ifCond .ne 15, 3) := by decide +kernel
theorem dL_law_1400 : decode cL_law 1400 = .ok (.aload_n 3, 1) := by decide +kernel
theorem dL_law_1401 : decode cL_law 1401 = .ok (.iconst 0, 1) := by decide +kernel
theorem dL_law_1402 : decode cL_law 1402 = .ok (.laload, 1) := by decide +kernel
theorem dL_law_1403 : decode cL_law 1403 = .ok (.iload 6, 2) := by decide +kernel
theorem dL_law_1405 : decode cL_law 1405 = .ok (.i2l, 1) := by decide +kernel
theorem dL_law_1406 : decode cL_law 1406 = .ok (.lcmp, 1) := by decide +kernel
theorem dL_law_1407 : decode cL_law 1407 = .ok (.ifCond .eq 5, 3) := by decide +kernel
theorem dL_law_1410 : decode cL_law 1410 = .ok (.iconst 0, 1) := by decide +kernel
theorem dL_law_1411 : decode cL_law 1411 = .ok (.ireturn, 1) := by decide +kernel
theorem dL_law_1412 : decode cL_law 1412 = .ok (.goto 426, 3) := by decide +kernel
theorem dL_law_1415 : decode cL_law 1415 = .ok (.aload_n 1, 1) := by decide +kernel
theorem dL_law_1416 : decode cL_law 1416 = .ok (.aload_n 0, 1) := by decide +kernel
theorem dL_law_1417 : decode cL_law 1417 = .ok (.iload 4, 2) := by decide +kernel
theorem dL_law_1419 : decode cL_law 1419 = .ok (.iconst 1, 1) := by decide +kernel
theorem dL_law_1420 : decode cL_law 1420 = .ok (.iadd, 1) := by decide +kernel
theorem dL_law_1421 : decode cL_law 1421 = .ok (.iaload, 1) := by decide +kernel
theorem dL_law_1422 : decode cL_law 1422 = .ok (.aload_n 0, 1) := by decide +kernel
theorem dL_law_1423 : decode cL_law 1423 = .ok (.iload 4, 2) := by decide +kernel
theorem dL_law_1425 : decode cL_law 1425 = .ok (.iconst 2, 1) := by decide +kernel
theorem dL_law_1426 : decode cL_law 1426 = .ok (.iadd, 1) := by decide +kernel
theorem dL_law_1427 : decode cL_law 1427 = .ok (.iaload, 1) := by decide +kernel
theorem dL_law_1428 : decode cL_law 1428 = .ok (.aload_n 0, 1) := by decide +kernel
theorem dL_law_1429 : decode cL_law 1429 = .ok (.iload 4, 2) := by decide +kernel
theorem dL_law_1431 : decode cL_law 1431 = .ok (.iconst 3, 1) := by decide +kernel
theorem dL_law_1432 : decode cL_law 1432 = .ok (.iadd, 1) := by decide +kernel
theorem dL_law_1433 : decode cL_law 1433 = .ok (.iaload, 1) := by decide +kernel
theorem dL_law_1434 : decode cL_law 1434 = .ok (.i2l, 1) := by decide +kernel
theorem dL_law_1435 : decode cL_law 1435 = .ok (.bipush 32, 2) := by decide +kernel
theorem dL_law_1437 : decode cL_law 1437 = .ok (.lshl, 1) := by decide +kernel
theorem dL_law_1438 : decode cL_law 1438 = .ok (.aload_n 0, 1) := by decide +kernel
theorem dL_law_1439 : decode cL_law 1439 = .ok (.iload 4, 2) := by decide +kernel
theorem dL_law_1441 : decode cL_law 1441 = .ok (.iconst 4, 1) := by decide +kernel
theorem dL_law_1442 : decode cL_law 1442 = .ok (.iadd, 1) := by decide +kernel
theorem dL_law_1443 : decode cL_law 1443 = .ok (.iaload, 1) := by decide +kernel
theorem dL_law_1444 : decode cL_law 1444 = .ok (.i2l, 1) := by decide +kernel
theorem dL_law_1445 : decode cL_law 1445 = .ok (.ldc2_w 173, 3) := by decide +kernel
theorem dL_law_1448 : decode cL_law 1448 = .ok (.land, 1) := by decide +kernel
theorem dL_law_1449 : decode cL_law 1449 = .ok (.lor, 1) := by decide +kernel
theorem dL_law_1450 : decode cL_law 1450 = .ok (.aload_n 3, 1) := by decide +kernel
theorem dL_law_1451 : decode cL_law 1451 = .ok (.invokestatic 175, 3) := by decide +kernel
theorem dL_law_1454 : decode cL_law 1454 = .ok (.istore 5, 2) := by decide +kernel
theorem dL_law_1456 : decode cL_law 1456 = .ok (.aload_n 2, 1) := by decide +kernel
theorem dL_law_1457 : decode cL_law 1457 = .ok (.aload_n 0, 1) := by decide +kernel
theorem dL_law_1458 : decode cL_law 1458 = .ok (.iload 4, 2) := by decide +kernel
theorem dL_law_1460 : decode cL_law 1460 = .ok (.iconst 1, 1) := by decide +kernel
theorem dL_law_1461 : decode cL_law 1461 = .ok (.iadd, 1) := by decide +kernel
theorem dL_law_1462 : decode cL_law 1462 = .ok (.iaload, 1) := by decide +kernel
theorem dL_law_1463 : decode cL_law 1463 = .ok (.aload_n 0, 1) := by decide +kernel
theorem dL_law_1464 : decode cL_law 1464 = .ok (.iload 4, 2) := by decide +kernel
theorem dL_law_1466 : decode cL_law 1466 = .ok (.iconst 2, 1) := by decide +kernel
theorem dL_law_1467 : decode cL_law 1467 = .ok (.iadd, 1) := by decide +kernel
theorem dL_law_1468 : decode cL_law 1468 = .ok (.iaload, 1) := by decide +kernel
theorem dL_law_1469 : decode cL_law 1469 = .ok (.aload_n 0, 1) := by decide +kernel
theorem dL_law_1470 : decode cL_law 1470 = .ok (.iload 4, 2) := by decide +kernel
theorem dL_law_1472 : decode cL_law 1472 = .ok (.iconst 3, 1) := by decide +kernel
theorem dL_law_1473 : decode cL_law 1473 = .ok (.iadd, 1) := by decide +kernel
theorem dL_law_1474 : decode cL_law 1474 = .ok (.iaload, 1) := by decide +kernel
theorem dL_law_1475 : decode cL_law 1475 = .ok (.i2l, 1) := by decide +kernel
theorem dL_law_1476 : decode cL_law 1476 = .ok (.bipush 32, 2) := by decide +kernel
theorem dL_law_1478 : decode cL_law 1478 = .ok (.lshl, 1) := by decide +kernel
theorem dL_law_1479 : decode cL_law 1479 = .ok (.aload_n 0, 1) := by decide +kernel
theorem dL_law_1480 : decode cL_law 1480 = .ok (.iload 4, 2) := by decide +kernel
theorem dL_law_1482 : decode cL_law 1482 = .ok (.iconst 4, 1) := by decide +kernel
theorem dL_law_1483 : decode cL_law 1483 = .ok (.iadd, 1) := by decide +kernel
theorem dL_law_1484 : decode cL_law 1484 = .ok (.iaload, 1) := by decide +kernel
theorem dL_law_1485 : decode cL_law 1485 = .ok (.i2l, 1) := by decide +kernel
theorem dL_law_1486 : decode cL_law 1486 = .ok (.ldc2_w 173, 3) := by decide +kernel
theorem dL_law_1489 : decode cL_law 1489 = .ok (.land, 1) := by decide +kernel
theorem dL_law_1490 : decode cL_law 1490 = .ok (.lor, 1) := by decide +kernel
theorem dL_law_1491 : decode cL_law 1491 = .ok (.invokevirtual 178, 3) := by decide +kernel
theorem dL_law_1494 : decode cL_law 1494 = .ok (.istore 6, 2) := by decide +kernel
theorem dL_law_1496 : decode cL_law 1496 = .ok (.aload_n 2, 1) := by decide +kernel
theorem dL_law_1497 : decode cL_law 1497 = .ok (.invokevirtual 120, 3) := by decide +kernel
theorem dL_law_1500 : decode cL_law 1500 = .ok (.iload 5, 2) := by decide +kernel
theorem dL_law_1502 : decode cL_law 1502 = .ok (.if_icmp .eq 5, 3) := by decide +kernel
theorem dL_law_1505 : decode cL_law 1505 = .ok (.iconst 0, 1) := by decide +kernel
theorem dL_law_1506 : decode cL_law 1506 = .ok (.ireturn, 1) := by decide +kernel
theorem dL_law_1507 : decode cL_law 1507 = .ok (.iload 5, 2) := by decide +kernel
theorem dL_law_1509 : decode cL_law 1509 = .ok (.ifCond .ne 15, 3) := by decide +kernel
theorem dL_law_1512 : decode cL_law 1512 = .ok (.aload_n 3, 1) := by decide +kernel
theorem dL_law_1513 : decode cL_law 1513 = .ok (.iconst 0, 1) := by decide +kernel
theorem dL_law_1514 : decode cL_law 1514 = .ok (.laload, 1) := by decide +kernel
theorem dL_law_1515 : decode cL_law 1515 = .ok (.iload 6, 2) := by decide +kernel
theorem dL_law_1517 : decode cL_law 1517 = .ok (.i2l, 1) := by decide +kernel
theorem dL_law_1518 : decode cL_law 1518 = .ok (.lcmp, 1) := by decide +kernel
theorem dL_law_1519 : decode cL_law 1519 = .ok (.ifCond .eq 5, 3) := by decide +kernel
theorem dL_law_1522 : decode cL_law 1522 = .ok (.iconst 0, 1) := by decide +kernel
theorem dL_law_1523 : decode cL_law 1523 = .ok (.ireturn, 1) := by decide +kernel
theorem dL_law_1524 : decode cL_law 1524 = .ok (.goto 314, 3) := by decide +kernel
theorem dL_law_1527 : decode cL_law 1527 = .ok (.aload_n 1, 1) := by decide +kernel
theorem dL_law_1528 : decode cL_law 1528 = .ok (.aload_n 0, 1) := by decide +kernel
theorem dL_law_1529 : decode cL_law 1529 = .ok (.iload 4, 2) := by decide +kernel
theorem dL_law_1531 : decode cL_law 1531 = .ok (.iconst 1, 1) := by decide +kernel
theorem dL_law_1532 : decode cL_law 1532 = .ok (.iadd, 1) := by decide +kernel
theorem dL_law_1533 : decode cL_law 1533 = .ok (.iaload, 1) := by decide +kernel
theorem dL_law_1534 : decode cL_law 1534 = .ok (.invokevirtual 179, 3) := by decide +kernel
theorem dL_law_1537 : decode cL_law 1537 = .ok (.aload_n 2, 1) := by decide +kernel
theorem dL_law_1538 : decode cL_law 1538 = .ok (.aload_n 0, 1) := by decide +kernel
theorem dL_law_1539 : decode cL_law 1539 = .ok (.iload 4, 2) := by decide +kernel
theorem dL_law_1541 : decode cL_law 1541 = .ok (.iconst 1, 1) := by decide +kernel
theorem dL_law_1542 : decode cL_law 1542 = .ok (.iadd, 1) := by decide +kernel
theorem dL_law_1543 : decode cL_law 1543 = .ok (.iaload, 1) := by decide +kernel
theorem dL_law_1544 : decode cL_law 1544 = .ok (.invokevirtual 182, 3) := by decide +kernel
theorem dL_law_1547 : decode cL_law 1547 = .ok (.if_icmp .eq 291, 3) := by decide +kernel
theorem dL_law_1550 : decode cL_law 1550 = .ok (.iconst 0, 1) := by decide +kernel
theorem dL_law_1551 : decode cL_law 1551 = .ok (.ireturn, 1) := by decide +kernel
theorem dL_law_1552 : decode cL_law 1552 = .ok (.aload_n 1, 1) := by decide +kernel
theorem dL_law_1553 : decode cL_law 1553 = .ok (.invokevirtual 183, 3) := by decide +kernel
theorem dL_law_1556 : decode cL_law 1556 = .ok (.aload_n 2, 1) := by decide +kernel
theorem dL_law_1557 : decode cL_law 1557 = .ok (.invokevirtual 186, 3) := by decide +kernel
theorem dL_law_1560 : decode cL_law 1560 = .ok (.goto 278, 3) := by decide +kernel
theorem dL_law_1563 : decode cL_law 1563 = .ok (.aload_n 1, 1) := by decide +kernel
theorem dL_law_1564 : decode cL_law 1564 = .ok (.aload_n 0, 1) := by decide +kernel
theorem dL_law_1565 : decode cL_law 1565 = .ok (.iload 4, 2) := by decide +kernel
theorem dL_law_1567 : decode cL_law 1567 = .ok (.iconst 1, 1) := by decide +kernel
theorem dL_law_1568 : decode cL_law 1568 = .ok (.iadd, 1) := by decide +kernel
theorem dL_law_1569 : decode cL_law 1569 = .ok (.iaload, 1) := by decide +kernel
theorem dL_law_1570 : decode cL_law 1570 = .ok (.aload_n 3, 1) := by decide +kernel
theorem dL_law_1571 : decode cL_law 1571 = .ok (.invokestatic 187, 3) := by decide +kernel
theorem dL_law_1574 : decode cL_law 1574 = .ok (.istore 5, 2) := by decide +kernel
theorem dL_law_1576 : decode cL_law 1576 = .ok (.aload_n 2, 1) := by decide +kernel
theorem dL_law_1577 : decode cL_law 1577 = .ok (.aload_n 0, 1) := by decide +kernel
theorem dL_law_1578 : decode cL_law 1578 = .ok (.iload 4, 2) := by decide +kernel
theorem dL_law_1580 : decode cL_law 1580 = .ok (.iconst 1, 1) := by decide +kernel
theorem dL_law_1581 : decode cL_law 1581 = .ok (.iadd, 1) := by decide +kernel
theorem dL_law_1582 : decode cL_law 1582 = .ok (.iaload, 1) := by decide +kernel
theorem dL_law_1583 : decode cL_law 1583 = .ok (.invokevirtual 189, 3) := by decide +kernel
theorem dL_law_1586 : decode cL_law 1586 = .ok (.istore 6, 2) := by decide +kernel
theorem dL_law_1588 : decode cL_law 1588 = .ok (.aload_n 2, 1) := by decide +kernel
theorem dL_law_1589 : decode cL_law 1589 = .ok (.invokevirtual 120, 3) := by decide +kernel
theorem dL_law_1592 : decode cL_law 1592 = .ok (.iload 5, 2) := by decide +kernel
theorem dL_law_1594 : decode cL_law 1594 = .ok (.if_icmp .eq 5, 3) := by decide +kernel
theorem dL_law_1597 : decode cL_law 1597 = .ok (.iconst 0, 1) := by decide +kernel
theorem dL_law_1598 : decode cL_law 1598 = .ok (.ireturn, 1) := by decide +kernel
theorem dL_law_1599 : decode cL_law 1599 = .ok (.iload 5, 2) := by decide +kernel
theorem dL_law_1601 : decode cL_law 1601 = .ok (.ifCond .ne 15, 3) := by decide +kernel
theorem dL_law_1604 : decode cL_law 1604 = .ok (.aload_n 3, 1) := by decide +kernel
theorem dL_law_1605 : decode cL_law 1605 = .ok (.iconst 0, 1) := by decide +kernel
theorem dL_law_1606 : decode cL_law 1606 = .ok (.laload, 1) := by decide +kernel
theorem dL_law_1607 : decode cL_law 1607 = .ok (.iload 6, 2) := by decide +kernel
theorem dL_law_1609 : decode cL_law 1609 = .ok (.i2l, 1) := by decide +kernel
theorem dL_law_1610 : decode cL_law 1610 = .ok (.lcmp, 1) := by decide +kernel
theorem dL_law_1611 : decode cL_law 1611 = .ok (.ifCond .eq 5, 3) := by decide +kernel
theorem dL_law_1614 : decode cL_law 1614 = .ok (.iconst 0, 1) := by decide +kernel
theorem dL_law_1615 : decode cL_law 1615 = .ok (.ireturn, 1) := by decide +kernel
theorem dL_law_1616 : decode cL_law 1616 = .ok (.goto 222, 3) := by decide +kernel
theorem dL_law_1619 : decode cL_law 1619 = .ok (.aload_n 1, 1) := by decide +kernel
theorem dL_law_1620 : decode cL_law 1620 = .ok (.aload_n 0, 1) := by decide +kernel
theorem dL_law_1621 : decode cL_law 1621 = .ok (.iload 4, 2) := by decide +kernel
theorem dL_law_1623 : decode cL_law 1623 = .ok (.iconst 1, 1) := by decide +kernel
theorem dL_law_1624 : decode cL_law 1624 = .ok (.iadd, 1) := by decide +kernel
theorem dL_law_1625 : decode cL_law 1625 = .ok (.iaload, 1) := by decide +kernel
theorem dL_law_1626 : decode cL_law 1626 = .ok (.aload_n 3, 1) := by decide +kernel
theorem dL_law_1627 : decode cL_law 1627 = .ok (.invokestatic 190, 3) := by decide +kernel
theorem dL_law_1630 : decode cL_law 1630 = .ok (.istore 5, 2) := by decide +kernel
theorem dL_law_1632 : decode cL_law 1632 = .ok (.aload_n 2, 1) := by decide +kernel
theorem dL_law_1633 : decode cL_law 1633 = .ok (.aload_n 0, 1) := by decide +kernel
theorem dL_law_1634 : decode cL_law 1634 = .ok (.iload 4, 2) := by decide +kernel
theorem dL_law_1636 : decode cL_law 1636 = .ok (.iconst 1, 1) := by decide +kernel
theorem dL_law_1637 : decode cL_law 1637 = .ok (.iadd, 1) := by decide +kernel
theorem dL_law_1638 : decode cL_law 1638 = .ok (.iaload, 1) := by decide +kernel
theorem dL_law_1639 : decode cL_law 1639 = .ok (.invokevirtual 192, 3) := by decide +kernel
theorem dL_law_1642 : decode cL_law 1642 = .ok (.istore 6, 2) := by decide +kernel
theorem dL_law_1644 : decode cL_law 1644 = .ok (.aload_n 2, 1) := by decide +kernel
theorem dL_law_1645 : decode cL_law 1645 = .ok (.invokevirtual 120, 3) := by decide +kernel
theorem dL_law_1648 : decode cL_law 1648 = .ok (.iload 5, 2) := by decide +kernel
theorem dL_law_1650 : decode cL_law 1650 = .ok (.if_icmp .eq 5, 3) := by decide +kernel
theorem dL_law_1653 : decode cL_law 1653 = .ok (.iconst 0, 1) := by decide +kernel
theorem dL_law_1654 : decode cL_law 1654 = .ok (.ireturn, 1) := by decide +kernel
theorem dL_law_1655 : decode cL_law 1655 = .ok (.iload 5, 2) := by decide +kernel
theorem dL_law_1657 : decode cL_law 1657 = .ok (.ifCond .ne 15, 3) := by decide +kernel
theorem dL_law_1660 : decode cL_law 1660 = .ok (.aload_n 3, 1) := by decide +kernel
theorem dL_law_1661 : decode cL_law 1661 = .ok (.iconst 0, 1) := by decide +kernel
theorem dL_law_1662 : decode cL_law 1662 = .ok (.laload, 1) := by decide +kernel
theorem dL_law_1663 : decode cL_law 1663 = .ok (.iload 6, 2) := by decide +kernel
theorem dL_law_1665 : decode cL_law 1665 = .ok (.i2l, 1) := by decide +kernel
theorem dL_law_1666 : decode cL_law 1666 = .ok (.lcmp, 1) := by decide +kernel
theorem dL_law_1667 : decode cL_law 1667 = .ok (.ifCond .eq 5, 3) := by decide +kernel
theorem dL_law_1670 : decode cL_law 1670 = .ok (.iconst 0, 1) := by decide +kernel
theorem dL_law_1671 : decode cL_law 1671 = .ok (.ireturn, 1) := by decide +kernel
theorem dL_law_1672 : decode cL_law 1672 = .ok (.goto 166, 3) := by decide +kernel
theorem dL_law_1675 : decode cL_law 1675 = .ok (.aload_n 1, 1) := by decide +kernel
theorem dL_law_1676 : decode cL_law 1676 = .ok (.aload_n 3, 1) := by decide +kernel
theorem dL_law_1677 : decode cL_law 1677 = .ok (.invokestatic 193, 3) := by decide +kernel
theorem dL_law_1680 : decode cL_law 1680 = .ok (.istore 5, 2) := by decide +kernel
theorem dL_law_1682 : decode cL_law 1682 = .ok (.aload_n 2, 1) := by decide +kernel
theorem dL_law_1683 : decode cL_law 1683 = .ok (.invokevirtual 196, 3) := by decide +kernel
theorem dL_law_1686 : decode cL_law 1686 = .ok (.istore 6, 2) := by decide +kernel
theorem dL_law_1688 : decode cL_law 1688 = .ok (.aload_n 2, 1) := by decide +kernel
theorem dL_law_1689 : decode cL_law 1689 = .ok (.invokevirtual 120, 3) := by decide +kernel
theorem dL_law_1692 : decode cL_law 1692 = .ok (.iload 5, 2) := by decide +kernel
theorem dL_law_1694 : decode cL_law 1694 = .ok (.if_icmp .eq 5, 3) := by decide +kernel
theorem dL_law_1697 : decode cL_law 1697 = .ok (.iconst 0, 1) := by decide +kernel
theorem dL_law_1698 : decode cL_law 1698 = .ok (.ireturn, 1) := by decide +kernel
theorem dL_law_1699 : decode cL_law 1699 = .ok (.iload 5, 2) := by decide +kernel
theorem dL_law_1701 : decode cL_law 1701 = .ok (.ifCond .ne 15, 3) := by decide +kernel
theorem dL_law_1704 : decode cL_law 1704 = .ok (.aload_n 3, 1) := by decide +kernel
theorem dL_law_1705 : decode cL_law 1705 = .ok (.iconst 0, 1) := by decide +kernel
theorem dL_law_1706 : decode cL_law 1706 = .ok (.laload, 1) := by decide +kernel
theorem dL_law_1707 : decode cL_law 1707 = .ok (.iload 6, 2) := by decide +kernel
theorem dL_law_1709 : decode cL_law 1709 = .ok (.i2l, 1) := by decide +kernel
theorem dL_law_1710 : decode cL_law 1710 = .ok (.lcmp, 1) := by decide +kernel
theorem dL_law_1711 : decode cL_law 1711 = .ok (.ifCond .eq 5, 3) := by decide +kernel
theorem dL_law_1714 : decode cL_law 1714 = .ok (.iconst 0, 1) := by decide +kernel
theorem dL_law_1715 : decode cL_law 1715 = .ok (.ireturn, 1) := by decide +kernel
theorem dL_law_1716 : decode cL_law 1716 = .ok (.goto 122, 3) := by decide +kernel
theorem dL_law_1719 : decode cL_law 1719 = .ok (.aload_n 1, 1) := by decide +kernel
theorem dL_law_1720 : decode cL_law 1720 = .ok (.aload_n 0, 1) := by decide +kernel
theorem dL_law_1721 : decode cL_law 1721 = .ok (.iload 4, 2) := by decide +kernel
theorem dL_law_1723 : decode cL_law 1723 = .ok (.iconst 1, 1) := by decide +kernel
theorem dL_law_1724 : decode cL_law 1724 = .ok (.iadd, 1) := by decide +kernel
theorem dL_law_1725 : decode cL_law 1725 = .ok (.iaload, 1) := by decide +kernel
theorem dL_law_1726 : decode cL_law 1726 = .ok (.aload_n 3, 1) := by decide +kernel
theorem dL_law_1727 : decode cL_law 1727 = .ok (.invokestatic 197, 3) := by decide +kernel
theorem dL_law_1730 : decode cL_law 1730 = .ok (.istore 5, 2) := by decide +kernel
theorem dL_law_1732 : decode cL_law 1732 = .ok (.aload_n 2, 1) := by decide +kernel
theorem dL_law_1733 : decode cL_law 1733 = .ok (.aload_n 0, 1) := by decide +kernel
theorem dL_law_1734 : decode cL_law 1734 = .ok (.iload 4, 2) := by decide +kernel
theorem dL_law_1736 : decode cL_law 1736 = .ok (.iconst 1, 1) := by decide +kernel
theorem dL_law_1737 : decode cL_law 1737 = .ok (.iadd, 1) := by decide +kernel
theorem dL_law_1738 : decode cL_law 1738 = .ok (.iaload, 1) := by decide +kernel
theorem dL_law_1739 : decode cL_law 1739 = .ok (.invokevirtual 199, 3) := by decide +kernel
theorem dL_law_1742 : decode cL_law 1742 = .ok (.istore 6, 2) := by decide +kernel
theorem dL_law_1744 : decode cL_law 1744 = .ok (.aload_n 2, 1) := by decide +kernel
theorem dL_law_1745 : decode cL_law 1745 = .ok (.invokevirtual 120, 3) := by decide +kernel
theorem dL_law_1748 : decode cL_law 1748 = .ok (.iload 5, 2) := by decide +kernel
theorem dL_law_1750 : decode cL_law 1750 = .ok (.if_icmp .eq 5, 3) := by decide +kernel
theorem dL_law_1753 : decode cL_law 1753 = .ok (.iconst 0, 1) := by decide +kernel
theorem dL_law_1754 : decode cL_law 1754 = .ok (.ireturn, 1) := by decide +kernel
theorem dL_law_1755 : decode cL_law 1755 = .ok (.iload 5, 2) := by decide +kernel
theorem dL_law_1757 : decode cL_law 1757 = .ok (.ifCond .ne 15, 3) := by decide +kernel
theorem dL_law_1760 : decode cL_law 1760 = .ok (.aload_n 3, 1) := by decide +kernel
theorem dL_law_1761 : decode cL_law 1761 = .ok (.iconst 0, 1) := by decide +kernel
theorem dL_law_1762 : decode cL_law 1762 = .ok (.laload, 1) := by decide +kernel
theorem dL_law_1763 : decode cL_law 1763 = .ok (.iload 6, 2) := by decide +kernel
theorem dL_law_1765 : decode cL_law 1765 = .ok (.i2l, 1) := by decide +kernel
theorem dL_law_1766 : decode cL_law 1766 = .ok (.lcmp, 1) := by decide +kernel
theorem dL_law_1767 : decode cL_law 1767 = .ok (.ifCond .eq 5, 3) := by decide +kernel
theorem dL_law_1770 : decode cL_law 1770 = .ok (.iconst 0, 1) := by decide +kernel
theorem dL_law_1771 : decode cL_law 1771 = .ok (.ireturn, 1) := by decide +kernel
theorem dL_law_1772 : decode cL_law 1772 = .ok (.goto 66, 3) := by decide +kernel
theorem dL_law_1775 : decode cL_law 1775 = .ok (.aload_n 1, 1) := by decide +kernel
theorem dL_law_1776 : decode cL_law 1776 = .ok (.aload_n 0, 1) := by decide +kernel
theorem dL_law_1777 : decode cL_law 1777 = .ok (.iload 4, 2) := by decide +kernel
theorem dL_law_1779 : decode cL_law 1779 = .ok (.iconst 1, 1) := by decide +kernel
theorem dL_law_1780 : decode cL_law 1780 = .ok (.iadd, 1) := by decide +kernel
theorem dL_law_1781 : decode cL_law 1781 = .ok (.iaload, 1) := by decide +kernel
theorem dL_law_1782 : decode cL_law 1782 = .ok (.invokevirtual 200, 3) := by decide +kernel
theorem dL_law_1785 : decode cL_law 1785 = .ok (.aload_n 2, 1) := by decide +kernel
theorem dL_law_1786 : decode cL_law 1786 = .ok (.aload_n 0, 1) := by decide +kernel
theorem dL_law_1787 : decode cL_law 1787 = .ok (.iload 4, 2) := by decide +kernel
theorem dL_law_1789 : decode cL_law 1789 = .ok (.iconst 1, 1) := by decide +kernel
theorem dL_law_1790 : decode cL_law 1790 = .ok (.iadd, 1) := by decide +kernel
theorem dL_law_1791 : decode cL_law 1791 = .ok (.iaload, 1) := by decide +kernel
theorem dL_law_1792 : decode cL_law 1792 = .ok (.invokevirtual 203, 3) := by decide +kernel
theorem dL_law_1795 : decode cL_law 1795 = .ok (.if_icmp .eq 43, 3) := by decide +kernel
theorem dL_law_1798 : decode cL_law 1798 = .ok (.iconst 0, 1) := by decide +kernel
theorem dL_law_1799 : decode cL_law 1799 = .ok (.ireturn, 1) := by decide +kernel
theorem dL_law_1800 : decode cL_law 1800 = .ok (.aload_n 1, 1) := by decide +kernel
theorem dL_law_1801 : decode cL_law 1801 = .ok (.aload_n 0, 1) := by decide +kernel
theorem dL_law_1802 : decode cL_law 1802 = .ok (.iload 4, 2) := by decide +kernel
theorem dL_law_1804 : decode cL_law 1804 = .ok (.iconst 1, 1) := by decide +kernel
theorem dL_law_1805 : decode cL_law 1805 = .ok (.iadd, 1) := by decide +kernel
theorem dL_law_1806 : decode cL_law 1806 = .ok (.iaload, 1) := by decide +kernel
theorem dL_law_1807 : decode cL_law 1807 = .ok (.invokevirtual 204, 3) := by decide +kernel
theorem dL_law_1810 : decode cL_law 1810 = .ok (.aload_n 2, 1) := by decide +kernel
theorem dL_law_1811 : decode cL_law 1811 = .ok (.aload_n 0, 1) := by decide +kernel
theorem dL_law_1812 : decode cL_law 1812 = .ok (.iload 4, 2) := by decide +kernel
theorem dL_law_1814 : decode cL_law 1814 = .ok (.iconst 1, 1) := by decide +kernel
theorem dL_law_1815 : decode cL_law 1815 = .ok (.iadd, 1) := by decide +kernel
theorem dL_law_1816 : decode cL_law 1816 = .ok (.iaload, 1) := by decide +kernel
theorem dL_law_1817 : decode cL_law 1817 = .ok (.invokevirtual 207, 3) := by decide +kernel
theorem dL_law_1820 : decode cL_law 1820 = .ok (.if_icmp .eq 18, 3) := by decide +kernel
theorem dL_law_1823 : decode cL_law 1823 = .ok (.iconst 0, 1) := by decide +kernel
theorem dL_law_1824 : decode cL_law 1824 = .ok (.ireturn, 1) := by decide +kernel
theorem dL_law_1825 : decode cL_law 1825 = .ok (.aload_n 1, 1) := by decide +kernel
theorem dL_law_1826 : decode cL_law 1826 = .ok (.invokevirtual 208, 3) := by decide +kernel
theorem dL_law_1829 : decode cL_law 1829 = .ok (.aload_n 2, 1) := by decide +kernel
theorem dL_law_1830 : decode cL_law 1830 = .ok (.invokevirtual 211, 3) := by decide +kernel
theorem dL_law_1833 : decode cL_law 1833 = .ok (.if_icmp .eq 5, 3) := by decide +kernel
theorem dL_law_1836 : decode cL_law 1836 = .ok (.iconst 0, 1) := by decide +kernel
theorem dL_law_1837 : decode cL_law 1837 = .ok (.ireturn, 1) := by decide +kernel
theorem dL_law_1838 : decode cL_law 1838 = .ok (.iinc 4 6, 3) := by decide +kernel
theorem dL_law_1841 : decode cL_law 1841 = .ok (.goto (-1818), 3) := by decide +kernel
theorem dL_law_1844 : decode cL_law 1844 = .ok (.iconst 1, 1) := by decide +kernel
theorem dL_law_1845 : decode cL_law 1845 = .ok (.ireturn, 1) := by decide +kernel
theorem tw_317 : (Jvm.Cond.methodLink "SpanShelvesLaw" (97 : Nat) ({ cls := "SpanShelves", name := "feed", desc := "(IIIII)I" } : Jvm.MethodName)) ∈ tw := tw_t 317 (by decide +kernel) (by decide +kernel)
theorem tw_318 : (Jvm.Cond.instanceMethod ({ cls := "SpanShelves", name := "feed", desc := "(IIIII)I" } : Jvm.MethodName)) ∈ tw := tw_t 318 (by decide +kernel) (by decide +kernel)
theorem tw_319 : (Jvm.Cond.selects "SpanShelves" ({ cls := "SpanShelves", name := "feed", desc := "(IIIII)I" } : Jvm.MethodName) ({ cls := "SpanShelves", name := "feed", desc := "(IIIII)I" } : Jvm.MethodName)) ∈ tw := tw_t 319 (by decide +kernel) (by decide +kernel)
theorem tw_320 : (Jvm.Cond.code ({ cls := "SpanShelves", name := "feed", desc := "(IIIII)I" } : Jvm.MethodName) prog_1_method_2_code (6 : Nat) (Option.some Jvm.ClassFile.FieldType.int)) ∈ tw := tw_t 320 (by decide +kernel) (by decide +kernel)
theorem tw_325 : (Jvm.Cond.methodLink "SpanShelvesLaw" (102 : Nat) ({ cls := "SpanShelves", name := "end", desc := "(I)Z" } : Jvm.MethodName)) ∈ tw := tw_t 325 (by decide +kernel) (by decide +kernel)
theorem tw_326 : (Jvm.Cond.instanceMethod ({ cls := "SpanShelves", name := "end", desc := "(I)Z" } : Jvm.MethodName)) ∈ tw := tw_t 326 (by decide +kernel) (by decide +kernel)
theorem tw_327 : (Jvm.Cond.selects "SpanShelves" ({ cls := "SpanShelves", name := "end", desc := "(I)Z" } : Jvm.MethodName) ({ cls := "SpanShelves", name := "end", desc := "(I)Z" } : Jvm.MethodName)) ∈ tw := tw_t 327 (by decide +kernel) (by decide +kernel)
theorem tw_328 : (Jvm.Cond.code ({ cls := "SpanShelves", name := "end", desc := "(I)Z" } : Jvm.MethodName) prog_1_method_3_code (2 : Nat) (Option.some Jvm.ClassFile.FieldType.boolean)) ∈ tw := tw_t 328 (by decide +kernel) (by decide +kernel)
theorem tw_329 : (Jvm.Cond.methodLink "SpanShelvesLaw" (106 : Nat) ({ cls := "SpanShelves", name := "judge", desc := "()I" } : Jvm.MethodName)) ∈ tw := tw_t 329 (by decide +kernel) (by decide +kernel)
theorem tw_330 : (Jvm.Cond.instanceMethod ({ cls := "SpanShelves", name := "judge", desc := "()I" } : Jvm.MethodName)) ∈ tw := tw_t 330 (by decide +kernel) (by decide +kernel)
theorem tw_331 : (Jvm.Cond.selects "SpanShelves" ({ cls := "SpanShelves", name := "judge", desc := "()I" } : Jvm.MethodName) ({ cls := "SpanShelves", name := "judge", desc := "()I" } : Jvm.MethodName)) ∈ tw := tw_t 331 (by decide +kernel) (by decide +kernel)
theorem tw_332 : (Jvm.Cond.code ({ cls := "SpanShelves", name := "judge", desc := "()I" } : Jvm.MethodName) prog_1_method_4_code (1 : Nat) (Option.some Jvm.ClassFile.FieldType.int)) ∈ tw := tw_t 332 (by decide +kernel) (by decide +kernel)
theorem tw_421 : (Jvm.Cond.methodLink "SpanShelvesLaw" (110 : Nat) ({ cls := "SpanShelves", name := "fault", desc := "(I)I" } : Jvm.MethodName)) ∈ tw := tw_t 421 (by decide +kernel) (by decide +kernel)
theorem tw_422 : (Jvm.Cond.instanceMethod ({ cls := "SpanShelves", name := "fault", desc := "(I)I" } : Jvm.MethodName)) ∈ tw := tw_t 422 (by decide +kernel) (by decide +kernel)
theorem tw_423 : (Jvm.Cond.selects "SpanShelves" ({ cls := "SpanShelves", name := "fault", desc := "(I)I" } : Jvm.MethodName) ({ cls := "SpanShelves", name := "fault", desc := "(I)I" } : Jvm.MethodName)) ∈ tw := tw_t 423 (by decide +kernel) (by decide +kernel)
theorem tw_424 : (Jvm.Cond.code ({ cls := "SpanShelves", name := "fault", desc := "(I)I" } : Jvm.MethodName) prog_1_method_5_code (2 : Nat) (Option.some Jvm.ClassFile.FieldType.int)) ∈ tw := tw_t 424 (by decide +kernel) (by decide +kernel)
theorem tw_425 : (Jvm.Cond.methodLink "SpanShelvesLaw" (179 : Nat) ({ cls := "SpanShelves", name := "latest", desc := "(I)I" } : Jvm.MethodName)) ∈ tw := tw_t 425 (by decide +kernel) (by decide +kernel)
theorem tw_426 : (Jvm.Cond.instanceMethod ({ cls := "SpanShelves", name := "latest", desc := "(I)I" } : Jvm.MethodName)) ∈ tw := tw_t 426 (by decide +kernel) (by decide +kernel)
theorem tw_427 : (Jvm.Cond.selects "SpanShelves" ({ cls := "SpanShelves", name := "latest", desc := "(I)I" } : Jvm.MethodName) ({ cls := "SpanShelves", name := "latest", desc := "(I)I" } : Jvm.MethodName)) ∈ tw := tw_t 427 (by decide +kernel) (by decide +kernel)
theorem tw_428 : (Jvm.Cond.code ({ cls := "SpanShelves", name := "latest", desc := "(I)I" } : Jvm.MethodName) prog_1_method_25_code (3 : Nat) (Option.some Jvm.ClassFile.FieldType.int)) ∈ tw := tw_t 428 (by decide +kernel) (by decide +kernel)
theorem tw_503 : (Jvm.Cond.methodLink "SpanShelvesLaw" (183 : Nat) ({ cls := "SpanShelves", name := "begin", desc := "()V" } : Jvm.MethodName)) ∈ tw := tw_t 503 (by decide +kernel) (by decide +kernel)
theorem tw_504 : (Jvm.Cond.instanceMethod ({ cls := "SpanShelves", name := "begin", desc := "()V" } : Jvm.MethodName)) ∈ tw := tw_t 504 (by decide +kernel) (by decide +kernel)
theorem tw_505 : (Jvm.Cond.selects "SpanShelves" ({ cls := "SpanShelves", name := "begin", desc := "()V" } : Jvm.MethodName) ({ cls := "SpanShelves", name := "begin", desc := "()V" } : Jvm.MethodName)) ∈ tw := tw_t 505 (by decide +kernel) (by decide +kernel)
theorem tw_506 : (Jvm.Cond.code ({ cls := "SpanShelves", name := "begin", desc := "()V" } : Jvm.MethodName) prog_1_method_26_code (1 : Nat) (Option.none : Option Jvm.ClassFile.FieldType)) ∈ tw := tw_t 506 (by decide +kernel) (by decide +kernel)
theorem tw_521 : (Jvm.Cond.methodLink "SpanShelvesLaw" (200 : Nat) ({ cls := "SpanShelves", name := "sheet", desc := "(I)I" } : Jvm.MethodName)) ∈ tw := tw_t 521 (by decide +kernel) (by decide +kernel)
theorem tw_522 : (Jvm.Cond.instanceMethod ({ cls := "SpanShelves", name := "sheet", desc := "(I)I" } : Jvm.MethodName)) ∈ tw := tw_t 522 (by decide +kernel) (by decide +kernel)
theorem tw_523 : (Jvm.Cond.selects "SpanShelves" ({ cls := "SpanShelves", name := "sheet", desc := "(I)I" } : Jvm.MethodName) ({ cls := "SpanShelves", name := "sheet", desc := "(I)I" } : Jvm.MethodName)) ∈ tw := tw_t 523 (by decide +kernel) (by decide +kernel)
theorem tw_524 : (Jvm.Cond.code ({ cls := "SpanShelves", name := "sheet", desc := "(I)I" } : Jvm.MethodName) prog_1_method_31_code (2 : Nat) (Option.some Jvm.ClassFile.FieldType.int)) ∈ tw := tw_t 524 (by decide +kernel) (by decide +kernel)
theorem tw_533 : (Jvm.Cond.methodLink "SpanShelvesLaw" (204 : Nat) ({ cls := "SpanShelves", name := "sheetAt", desc := "(I)I" } : Jvm.MethodName)) ∈ tw := tw_t 533 (by decide +kernel) (by decide +kernel)
theorem tw_534 : (Jvm.Cond.instanceMethod ({ cls := "SpanShelves", name := "sheetAt", desc := "(I)I" } : Jvm.MethodName)) ∈ tw := tw_t 534 (by decide +kernel) (by decide +kernel)
theorem tw_535 : (Jvm.Cond.selects "SpanShelves" ({ cls := "SpanShelves", name := "sheetAt", desc := "(I)I" } : Jvm.MethodName) ({ cls := "SpanShelves", name := "sheetAt", desc := "(I)I" } : Jvm.MethodName)) ∈ tw := tw_t 535 (by decide +kernel) (by decide +kernel)
theorem tw_536 : (Jvm.Cond.code ({ cls := "SpanShelves", name := "sheetAt", desc := "(I)I" } : Jvm.MethodName) prog_1_method_32_code (2 : Nat) (Option.some Jvm.ClassFile.FieldType.int)) ∈ tw := tw_t 536 (by decide +kernel) (by decide +kernel)
theorem tw_538 : (Jvm.Cond.methodLink "SpanShelvesLaw" (208 : Nat) ({ cls := "SpanShelves", name := "taped", desc := "()I" } : Jvm.MethodName)) ∈ tw := tw_t 538 (by decide +kernel) (by decide +kernel)
theorem tw_539 : (Jvm.Cond.instanceMethod ({ cls := "SpanShelves", name := "taped", desc := "()I" } : Jvm.MethodName)) ∈ tw := tw_t 539 (by decide +kernel) (by decide +kernel)
theorem tw_540 : (Jvm.Cond.selects "SpanShelves" ({ cls := "SpanShelves", name := "taped", desc := "()I" } : Jvm.MethodName) ({ cls := "SpanShelves", name := "taped", desc := "()I" } : Jvm.MethodName)) ∈ tw := tw_t 540 (by decide +kernel) (by decide +kernel)
theorem tw_541 : (Jvm.Cond.code ({ cls := "SpanShelves", name := "taped", desc := "()I" } : Jvm.MethodName) prog_1_method_33_code (1 : Nat) (Option.some Jvm.ClassFile.FieldType.int)) ∈ tw := tw_t 541 (by decide +kernel) (by decide +kernel)
theorem tw_542 : (Jvm.Cond.methodLink "SpanShelvesLaw" (114 : Nat) ({ cls := "SpanShelvesLaw", name := "take", desc := "(LSpanShelves;I[J)I" } : Jvm.MethodName)) ∈ tw := tw_t 542 (by decide +kernel) (by decide +kernel)
theorem tw_577 : (Jvm.Cond.methodLink "SpanShelvesLaw" (123 : Nat) ({ cls := "SpanShelvesLaw", name := "go", desc := "(LSpanShelves;II[J)I" } : Jvm.MethodName)) ∈ tw := tw_t 577 (by decide +kernel) (by decide +kernel)
theorem tw_588 : (Jvm.Cond.methodLink "SpanShelvesLaw" (127 : Nat) ({ cls := "SpanShelvesLaw", name := "find", desc := "(LSpanShelves;I[J)I" } : Jvm.MethodName)) ∈ tw := tw_t 588 (by decide +kernel) (by decide +kernel)
theorem tw_607 : (Jvm.Cond.methodLink "SpanShelvesLaw" (130 : Nat) ({ cls := "SpanShelvesLaw", name := "path", desc := "(LSpanShelves;I[J)I" } : Jvm.MethodName)) ∈ tw := tw_t 607 (by decide +kernel) (by decide +kernel)
theorem tw_635 : (Jvm.Cond.methodLink "SpanShelvesLaw" (133 : Nat) ({ cls := "SpanShelvesLaw", name := "in", desc := "(LSpanShelves;I[J)I" } : Jvm.MethodName)) ∈ tw := tw_t 635 (by decide +kernel) (by decide +kernel)
theorem tw_642 : (Jvm.Cond.methodLink "SpanShelvesLaw" (136 : Nat) ({ cls := "SpanShelvesLaw", name := "out", desc := "(LSpanShelves;I[J)I" } : Jvm.MethodName)) ∈ tw := tw_t 642 (by decide +kernel) (by decide +kernel)
theorem tw_653 : (Jvm.Cond.methodLink "SpanShelvesLaw" (139 : Nat) ({ cls := "SpanShelvesLaw", name := "look", desc := "(LSpanShelves;II[J)I" } : Jvm.MethodName)) ∈ tw := tw_t 653 (by decide +kernel) (by decide +kernel)
theorem tw_680 : (Jvm.Cond.methodLink "SpanShelvesLaw" (142 : Nat) ({ cls := "SpanShelvesLaw", name := "byteAt", desc := "(LSpanShelves;II[J)I" } : Jvm.MethodName)) ∈ tw := tw_t 680 (by decide +kernel) (by decide +kernel)
theorem tw_687 : (Jvm.Cond.methodLink "SpanShelvesLaw" (145 : Nat) ({ cls := "SpanShelvesLaw", name := "number", desc := "(LSpanShelves;I[J)I" } : Jvm.MethodName)) ∈ tw := tw_t 687 (by decide +kernel) (by decide +kernel)
theorem tw_753 : (Jvm.Cond.methodLink "SpanShelvesLaw" (148 : Nat) ({ cls := "SpanShelvesLaw", name := "total", desc := "(LSpanShelves;II[J)I" } : Jvm.MethodName)) ∈ tw := tw_t 753 (by decide +kernel) (by decide +kernel)
theorem tw_764 : (Jvm.Cond.methodLink "SpanShelvesLaw" (151 : Nat) ({ cls := "SpanShelvesLaw", name := "kinds", desc := "(LSpanShelves;II[J)I" } : Jvm.MethodName)) ∈ tw := tw_t 764 (by decide +kernel) (by decide +kernel)
theorem tw_771 : (Jvm.Cond.methodLink "SpanShelvesLaw" (154 : Nat) ({ cls := "SpanShelvesLaw", name := "value", desc := "(LSpanShelves;II[J)I" } : Jvm.MethodName)) ∈ tw := tw_t 771 (by decide +kernel) (by decide +kernel)
theorem tw_856 : (Jvm.Cond.methodLink "SpanShelvesLaw" (157 : Nat) ({ cls := "SpanShelvesLaw", name := "put", desc := "(LSpanShelves;III[J)I" } : Jvm.MethodName)) ∈ tw := tw_t 856 (by decide +kernel) (by decide +kernel)
theorem tw_868 : (Jvm.Cond.methodLink "SpanShelvesLaw" (161 : Nat) ({ cls := "SpanShelvesLaw", name := "name", desc := "(LSpanShelves;I[J)I" } : Jvm.MethodName)) ∈ tw := tw_t 868 (by decide +kernel) (by decide +kernel)
theorem tw_884 : (Jvm.Cond.methodLink "SpanShelvesLaw" (164 : Nat) ({ cls := "SpanShelvesLaw", name := "drop", desc := "(LSpanShelves;I[J)I" } : Jvm.MethodName)) ∈ tw := tw_t 884 (by decide +kernel) (by decide +kernel)
theorem tw_891 : (Jvm.Cond.methodLink "SpanShelvesLaw" (167 : Nat) ({ cls := "SpanShelvesLaw", name := "move", desc := "(LSpanShelves;II[J)I" } : Jvm.MethodName)) ∈ tw := tw_t 891 (by decide +kernel) (by decide +kernel)
theorem tw_900 : (Jvm.Cond.methodLink "SpanShelvesLaw" (170 : Nat) ({ cls := "SpanShelvesLaw", name := "copy", desc := "(LSpanShelves;II[J)I" } : Jvm.MethodName)) ∈ tw := tw_t 900 (by decide +kernel) (by decide +kernel)
theorem tw_911 : (Jvm.Cond.methodLink "SpanShelvesLaw" (175 : Nat) ({ cls := "SpanShelvesLaw", name := "set", desc := "(LSpanShelves;IIJ[J)I" } : Jvm.MethodName)) ∈ tw := tw_t 911 (by decide +kernel) (by decide +kernel)
theorem tw_918 : (Jvm.Cond.methodLink "SpanShelvesLaw" (187 : Nat) ({ cls := "SpanShelvesLaw", name := "write", desc := "(LSpanShelves;I[J)I" } : Jvm.MethodName)) ∈ tw := tw_t 918 (by decide +kernel) (by decide +kernel)
theorem tw_957 : (Jvm.Cond.methodLink "SpanShelvesLaw" (190 : Nat) ({ cls := "SpanShelvesLaw", name := "open", desc := "(LSpanShelves;I[J)I" } : Jvm.MethodName)) ∈ tw := tw_t 957 (by decide +kernel) (by decide +kernel)
theorem tw_973 : (Jvm.Cond.methodLink "SpanShelvesLaw" (193 : Nat) ({ cls := "SpanShelvesLaw", name := "close", desc := "(LSpanShelves;[J)I" } : Jvm.MethodName)) ∈ tw := tw_t 973 (by decide +kernel) (by decide +kernel)
theorem tw_985 : (Jvm.Cond.methodLink "SpanShelvesLaw" (197 : Nat) ({ cls := "SpanShelvesLaw", name := "lay", desc := "(LSpanShelves;I[J)I" } : Jvm.MethodName)) ∈ tw := tw_t 985 (by decide +kernel) (by decide +kernel)
theorem tw_994 : (Jvm.Cond.methodLink "SpanShelvesLaw" (120 : Nat) ({ cls := "SpanShelvesModel", name := "thrown", desc := "()I" } : Jvm.MethodName)) ∈ tw := tw_t 994 (by decide +kernel) (by decide +kernel)
theorem tw_995 : (Jvm.Cond.instanceMethod ({ cls := "SpanShelvesModel", name := "thrown", desc := "()I" } : Jvm.MethodName)) ∈ tw := tw_t 995 (by decide +kernel) (by decide +kernel)
theorem tw_996 : (Jvm.Cond.selects "SpanShelvesModel" ({ cls := "SpanShelvesModel", name := "thrown", desc := "()I" } : Jvm.MethodName) ({ cls := "SpanShelvesModel", name := "thrown", desc := "()I" } : Jvm.MethodName)) ∈ tw := tw_t 996 (by decide +kernel) (by decide +kernel)
theorem tw_997 : (Jvm.Cond.code ({ cls := "SpanShelvesModel", name := "thrown", desc := "()I" } : Jvm.MethodName) prog_9_method_1_code (1 : Nat) (Option.some Jvm.ClassFile.FieldType.int)) ∈ tw := tw_t 997 (by decide +kernel) (by decide +kernel)
theorem tw_1209 : (Jvm.Cond.methodLink "SpanShelvesLaw" (101 : Nat) ({ cls := "SpanShelvesModel", name := "feed", desc := "(IIIII)I" } : Jvm.MethodName)) ∈ tw := tw_t 1209 (by decide +kernel) (by decide +kernel)
theorem tw_1210 : (Jvm.Cond.instanceMethod ({ cls := "SpanShelvesModel", name := "feed", desc := "(IIIII)I" } : Jvm.MethodName)) ∈ tw := tw_t 1210 (by decide +kernel) (by decide +kernel)
theorem tw_1211 : (Jvm.Cond.selects "SpanShelvesModel" ({ cls := "SpanShelvesModel", name := "feed", desc := "(IIIII)I" } : Jvm.MethodName) ({ cls := "SpanShelvesModel", name := "feed", desc := "(IIIII)I" } : Jvm.MethodName)) ∈ tw := tw_t 1211 (by decide +kernel) (by decide +kernel)
theorem tw_1212 : (Jvm.Cond.code ({ cls := "SpanShelvesModel", name := "feed", desc := "(IIIII)I" } : Jvm.MethodName) prog_9_method_7_code (8 : Nat) (Option.some Jvm.ClassFile.FieldType.int)) ∈ tw := tw_t 1212 (by decide +kernel) (by decide +kernel)
theorem tw_1213 : (Jvm.Cond.methodLink "SpanShelvesLaw" (105 : Nat) ({ cls := "SpanShelvesModel", name := "end", desc := "(I)Z" } : Jvm.MethodName)) ∈ tw := tw_t 1213 (by decide +kernel) (by decide +kernel)
theorem tw_1214 : (Jvm.Cond.instanceMethod ({ cls := "SpanShelvesModel", name := "end", desc := "(I)Z" } : Jvm.MethodName)) ∈ tw := tw_t 1214 (by decide +kernel) (by decide +kernel)
theorem tw_1215 : (Jvm.Cond.selects "SpanShelvesModel" ({ cls := "SpanShelvesModel", name := "end", desc := "(I)Z" } : Jvm.MethodName) ({ cls := "SpanShelvesModel", name := "end", desc := "(I)Z" } : Jvm.MethodName)) ∈ tw := tw_t 1215 (by decide +kernel) (by decide +kernel)
theorem tw_1216 : (Jvm.Cond.code ({ cls := "SpanShelvesModel", name := "end", desc := "(I)Z" } : Jvm.MethodName) prog_9_method_8_code (2 : Nat) (Option.some Jvm.ClassFile.FieldType.boolean)) ∈ tw := tw_t 1216 (by decide +kernel) (by decide +kernel)
theorem tw_1217 : (Jvm.Cond.methodLink "SpanShelvesLaw" (211 : Nat) ({ cls := "SpanShelvesModel", name := "taped", desc := "()I" } : Jvm.MethodName)) ∈ tw := tw_t 1217 (by decide +kernel) (by decide +kernel)
theorem tw_1218 : (Jvm.Cond.instanceMethod ({ cls := "SpanShelvesModel", name := "taped", desc := "()I" } : Jvm.MethodName)) ∈ tw := tw_t 1218 (by decide +kernel) (by decide +kernel)
theorem tw_1219 : (Jvm.Cond.selects "SpanShelvesModel" ({ cls := "SpanShelvesModel", name := "taped", desc := "()I" } : Jvm.MethodName) ({ cls := "SpanShelvesModel", name := "taped", desc := "()I" } : Jvm.MethodName)) ∈ tw := tw_t 1219 (by decide +kernel) (by decide +kernel)
theorem tw_1220 : (Jvm.Cond.code ({ cls := "SpanShelvesModel", name := "taped", desc := "()I" } : Jvm.MethodName) prog_9_method_9_code (1 : Nat) (Option.some Jvm.ClassFile.FieldType.int)) ∈ tw := tw_t 1220 (by decide +kernel) (by decide +kernel)
theorem tw_1221 : (Jvm.Cond.methodLink "SpanShelvesLaw" (109 : Nat) ({ cls := "SpanShelvesModel", name := "judge", desc := "()I" } : Jvm.MethodName)) ∈ tw := tw_t 1221 (by decide +kernel) (by decide +kernel)
theorem tw_1222 : (Jvm.Cond.instanceMethod ({ cls := "SpanShelvesModel", name := "judge", desc := "()I" } : Jvm.MethodName)) ∈ tw := tw_t 1222 (by decide +kernel) (by decide +kernel)
theorem tw_1223 : (Jvm.Cond.selects "SpanShelvesModel" ({ cls := "SpanShelvesModel", name := "judge", desc := "()I" } : Jvm.MethodName) ({ cls := "SpanShelvesModel", name := "judge", desc := "()I" } : Jvm.MethodName)) ∈ tw := tw_t 1223 (by decide +kernel) (by decide +kernel)
theorem tw_1224 : (Jvm.Cond.code ({ cls := "SpanShelvesModel", name := "judge", desc := "()I" } : Jvm.MethodName) prog_9_method_28_code (2 : Nat) (Option.some Jvm.ClassFile.FieldType.int)) ∈ tw := tw_t 1224 (by decide +kernel) (by decide +kernel)
theorem tw_1305 : (Jvm.Cond.methodLink "SpanShelvesLaw" (113 : Nat) ({ cls := "SpanShelvesModel", name := "fault", desc := "(I)I" } : Jvm.MethodName)) ∈ tw := tw_t 1305 (by decide +kernel) (by decide +kernel)
theorem tw_1306 : (Jvm.Cond.instanceMethod ({ cls := "SpanShelvesModel", name := "fault", desc := "(I)I" } : Jvm.MethodName)) ∈ tw := tw_t 1306 (by decide +kernel) (by decide +kernel)
theorem tw_1307 : (Jvm.Cond.selects "SpanShelvesModel" ({ cls := "SpanShelvesModel", name := "fault", desc := "(I)I" } : Jvm.MethodName) ({ cls := "SpanShelvesModel", name := "fault", desc := "(I)I" } : Jvm.MethodName)) ∈ tw := tw_t 1307 (by decide +kernel) (by decide +kernel)
theorem tw_1308 : (Jvm.Cond.code ({ cls := "SpanShelvesModel", name := "fault", desc := "(I)I" } : Jvm.MethodName) prog_9_method_29_code (2 : Nat) (Option.some Jvm.ClassFile.FieldType.int)) ∈ tw := tw_t 1308 (by decide +kernel) (by decide +kernel)
theorem tw_1309 : (Jvm.Cond.methodLink "SpanShelvesLaw" (119 : Nat) ({ cls := "SpanShelvesModel", name := "take", desc := "(I)I" } : Jvm.MethodName)) ∈ tw := tw_t 1309 (by decide +kernel) (by decide +kernel)
theorem tw_1310 : (Jvm.Cond.instanceMethod ({ cls := "SpanShelvesModel", name := "take", desc := "(I)I" } : Jvm.MethodName)) ∈ tw := tw_t 1310 (by decide +kernel) (by decide +kernel)
theorem tw_1311 : (Jvm.Cond.selects "SpanShelvesModel" ({ cls := "SpanShelvesModel", name := "take", desc := "(I)I" } : Jvm.MethodName) ({ cls := "SpanShelvesModel", name := "take", desc := "(I)I" } : Jvm.MethodName)) ∈ tw := tw_t 1311 (by decide +kernel) (by decide +kernel)
theorem tw_1312 : (Jvm.Cond.code ({ cls := "SpanShelvesModel", name := "take", desc := "(I)I" } : Jvm.MethodName) prog_9_method_33_code (5 : Nat) (Option.some Jvm.ClassFile.FieldType.int)) ∈ tw := tw_t 1312 (by decide +kernel) (by decide +kernel)
theorem tw_1321 : (Jvm.Cond.methodLink "SpanShelvesLaw" (126 : Nat) ({ cls := "SpanShelvesModel", name := "go", desc := "(II)Z" } : Jvm.MethodName)) ∈ tw := tw_t 1321 (by decide +kernel) (by decide +kernel)
theorem tw_1322 : (Jvm.Cond.instanceMethod ({ cls := "SpanShelvesModel", name := "go", desc := "(II)Z" } : Jvm.MethodName)) ∈ tw := tw_t 1322 (by decide +kernel) (by decide +kernel)
theorem tw_1323 : (Jvm.Cond.selects "SpanShelvesModel" ({ cls := "SpanShelvesModel", name := "go", desc := "(II)Z" } : Jvm.MethodName) ({ cls := "SpanShelvesModel", name := "go", desc := "(II)Z" } : Jvm.MethodName)) ∈ tw := tw_t 1323 (by decide +kernel) (by decide +kernel)
theorem tw_1324 : (Jvm.Cond.code ({ cls := "SpanShelvesModel", name := "go", desc := "(II)Z" } : Jvm.MethodName) prog_9_method_34_code (3 : Nat) (Option.some Jvm.ClassFile.FieldType.boolean)) ∈ tw := tw_t 1324 (by decide +kernel) (by decide +kernel)
theorem tw_1350 : (Jvm.Cond.methodLink "SpanShelvesLaw" (129 : Nat) ({ cls := "SpanShelvesModel", name := "find", desc := "(I)I" } : Jvm.MethodName)) ∈ tw := tw_t 1350 (by decide +kernel) (by decide +kernel)
theorem tw_1351 : (Jvm.Cond.instanceMethod ({ cls := "SpanShelvesModel", name := "find", desc := "(I)I" } : Jvm.MethodName)) ∈ tw := tw_t 1351 (by decide +kernel) (by decide +kernel)
theorem tw_1352 : (Jvm.Cond.selects "SpanShelvesModel" ({ cls := "SpanShelvesModel", name := "find", desc := "(I)I" } : Jvm.MethodName) ({ cls := "SpanShelvesModel", name := "find", desc := "(I)I" } : Jvm.MethodName)) ∈ tw := tw_t 1352 (by decide +kernel) (by decide +kernel)
theorem tw_1353 : (Jvm.Cond.code ({ cls := "SpanShelvesModel", name := "find", desc := "(I)I" } : Jvm.MethodName) prog_9_method_37_code (4 : Nat) (Option.some Jvm.ClassFile.FieldType.int)) ∈ tw := tw_t 1353 (by decide +kernel) (by decide +kernel)
theorem tw_1362 : (Jvm.Cond.methodLink "SpanShelvesLaw" (132 : Nat) ({ cls := "SpanShelvesModel", name := "path", desc := "(I)I" } : Jvm.MethodName)) ∈ tw := tw_t 1362 (by decide +kernel) (by decide +kernel)
theorem tw_1363 : (Jvm.Cond.instanceMethod ({ cls := "SpanShelvesModel", name := "path", desc := "(I)I" } : Jvm.MethodName)) ∈ tw := tw_t 1363 (by decide +kernel) (by decide +kernel)
theorem tw_1364 : (Jvm.Cond.selects "SpanShelvesModel" ({ cls := "SpanShelvesModel", name := "path", desc := "(I)I" } : Jvm.MethodName) ({ cls := "SpanShelvesModel", name := "path", desc := "(I)I" } : Jvm.MethodName)) ∈ tw := tw_t 1364 (by decide +kernel) (by decide +kernel)
theorem tw_1365 : (Jvm.Cond.code ({ cls := "SpanShelvesModel", name := "path", desc := "(I)I" } : Jvm.MethodName) prog_9_method_38_code (10 : Nat) (Option.some Jvm.ClassFile.FieldType.int)) ∈ tw := tw_t 1365 (by decide +kernel) (by decide +kernel)
theorem tw_1366 : (Jvm.Cond.methodLink "SpanShelvesLaw" (135 : Nat) ({ cls := "SpanShelvesModel", name := "in", desc := "(I)Z" } : Jvm.MethodName)) ∈ tw := tw_t 1366 (by decide +kernel) (by decide +kernel)
theorem tw_1367 : (Jvm.Cond.instanceMethod ({ cls := "SpanShelvesModel", name := "in", desc := "(I)Z" } : Jvm.MethodName)) ∈ tw := tw_t 1367 (by decide +kernel) (by decide +kernel)
theorem tw_1368 : (Jvm.Cond.selects "SpanShelvesModel" ({ cls := "SpanShelvesModel", name := "in", desc := "(I)Z" } : Jvm.MethodName) ({ cls := "SpanShelvesModel", name := "in", desc := "(I)Z" } : Jvm.MethodName)) ∈ tw := tw_t 1368 (by decide +kernel) (by decide +kernel)
theorem tw_1369 : (Jvm.Cond.code ({ cls := "SpanShelvesModel", name := "in", desc := "(I)Z" } : Jvm.MethodName) prog_9_method_39_code (3 : Nat) (Option.some Jvm.ClassFile.FieldType.boolean)) ∈ tw := tw_t 1369 (by decide +kernel) (by decide +kernel)
theorem tw_1370 : (Jvm.Cond.methodLink "SpanShelvesLaw" (138 : Nat) ({ cls := "SpanShelvesModel", name := "out", desc := "(I)Z" } : Jvm.MethodName)) ∈ tw := tw_t 1370 (by decide +kernel) (by decide +kernel)
theorem tw_1371 : (Jvm.Cond.instanceMethod ({ cls := "SpanShelvesModel", name := "out", desc := "(I)Z" } : Jvm.MethodName)) ∈ tw := tw_t 1371 (by decide +kernel) (by decide +kernel)
theorem tw_1372 : (Jvm.Cond.selects "SpanShelvesModel" ({ cls := "SpanShelvesModel", name := "out", desc := "(I)Z" } : Jvm.MethodName) ({ cls := "SpanShelvesModel", name := "out", desc := "(I)Z" } : Jvm.MethodName)) ∈ tw := tw_t 1372 (by decide +kernel) (by decide +kernel)
theorem tw_1373 : (Jvm.Cond.code ({ cls := "SpanShelvesModel", name := "out", desc := "(I)Z" } : Jvm.MethodName) prog_9_method_40_code (2 : Nat) (Option.some Jvm.ClassFile.FieldType.boolean)) ∈ tw := tw_t 1373 (by decide +kernel) (by decide +kernel)
theorem tw_1374 : (Jvm.Cond.methodLink "SpanShelvesLaw" (141 : Nat) ({ cls := "SpanShelvesModel", name := "look", desc := "(II)I" } : Jvm.MethodName)) ∈ tw := tw_t 1374 (by decide +kernel) (by decide +kernel)
theorem tw_1375 : (Jvm.Cond.instanceMethod ({ cls := "SpanShelvesModel", name := "look", desc := "(II)I" } : Jvm.MethodName)) ∈ tw := tw_t 1375 (by decide +kernel) (by decide +kernel)
theorem tw_1376 : (Jvm.Cond.selects "SpanShelvesModel" ({ cls := "SpanShelvesModel", name := "look", desc := "(II)I" } : Jvm.MethodName) ({ cls := "SpanShelvesModel", name := "look", desc := "(II)I" } : Jvm.MethodName)) ∈ tw := tw_t 1376 (by decide +kernel) (by decide +kernel)
theorem tw_1377 : (Jvm.Cond.code ({ cls := "SpanShelvesModel", name := "look", desc := "(II)I" } : Jvm.MethodName) prog_9_method_41_code (5 : Nat) (Option.some Jvm.ClassFile.FieldType.int)) ∈ tw := tw_t 1377 (by decide +kernel) (by decide +kernel)
theorem tw_1378 : (Jvm.Cond.methodLink "SpanShelvesLaw" (144 : Nat) ({ cls := "SpanShelvesModel", name := "byteAt", desc := "(II)I" } : Jvm.MethodName)) ∈ tw := tw_t 1378 (by decide +kernel) (by decide +kernel)
theorem tw_1379 : (Jvm.Cond.instanceMethod ({ cls := "SpanShelvesModel", name := "byteAt", desc := "(II)I" } : Jvm.MethodName)) ∈ tw := tw_t 1379 (by decide +kernel) (by decide +kernel)
theorem tw_1380 : (Jvm.Cond.selects "SpanShelvesModel" ({ cls := "SpanShelvesModel", name := "byteAt", desc := "(II)I" } : Jvm.MethodName) ({ cls := "SpanShelvesModel", name := "byteAt", desc := "(II)I" } : Jvm.MethodName)) ∈ tw := tw_t 1380 (by decide +kernel) (by decide +kernel)
theorem tw_1381 : (Jvm.Cond.code ({ cls := "SpanShelvesModel", name := "byteAt", desc := "(II)I" } : Jvm.MethodName) prog_9_method_42_code (3 : Nat) (Option.some Jvm.ClassFile.FieldType.int)) ∈ tw := tw_t 1381 (by decide +kernel) (by decide +kernel)
theorem tw_1382 : (Jvm.Cond.methodLink "SpanShelvesLaw" (147 : Nat) ({ cls := "SpanShelvesModel", name := "number", desc := "(I)J" } : Jvm.MethodName)) ∈ tw := tw_t 1382 (by decide +kernel) (by decide +kernel)
theorem tw_1383 : (Jvm.Cond.instanceMethod ({ cls := "SpanShelvesModel", name := "number", desc := "(I)J" } : Jvm.MethodName)) ∈ tw := tw_t 1383 (by decide +kernel) (by decide +kernel)
theorem tw_1384 : (Jvm.Cond.selects "SpanShelvesModel" ({ cls := "SpanShelvesModel", name := "number", desc := "(I)J" } : Jvm.MethodName) ({ cls := "SpanShelvesModel", name := "number", desc := "(I)J" } : Jvm.MethodName)) ∈ tw := tw_t 1384 (by decide +kernel) (by decide +kernel)
theorem tw_1385 : (Jvm.Cond.code ({ cls := "SpanShelvesModel", name := "number", desc := "(I)J" } : Jvm.MethodName) prog_9_method_43_code (4 : Nat) (Option.some Jvm.ClassFile.FieldType.long)) ∈ tw := tw_t 1385 (by decide +kernel) (by decide +kernel)
theorem tw_1390 : (Jvm.Cond.methodLink "SpanShelvesLaw" (150 : Nat) ({ cls := "SpanShelvesModel", name := "total", desc := "(II)I" } : Jvm.MethodName)) ∈ tw := tw_t 1390 (by decide +kernel) (by decide +kernel)
theorem tw_1391 : (Jvm.Cond.instanceMethod ({ cls := "SpanShelvesModel", name := "total", desc := "(II)I" } : Jvm.MethodName)) ∈ tw := tw_t 1391 (by decide +kernel) (by decide +kernel)
theorem tw_1392 : (Jvm.Cond.selects "SpanShelvesModel" ({ cls := "SpanShelvesModel", name := "total", desc := "(II)I" } : Jvm.MethodName) ({ cls := "SpanShelvesModel", name := "total", desc := "(II)I" } : Jvm.MethodName)) ∈ tw := tw_t 1392 (by decide +kernel) (by decide +kernel)
theorem tw_1393 : (Jvm.Cond.code ({ cls := "SpanShelvesModel", name := "total", desc := "(II)I" } : Jvm.MethodName) prog_9_method_46_code (7 : Nat) (Option.some Jvm.ClassFile.FieldType.int)) ∈ tw := tw_t 1393 (by decide +kernel) (by decide +kernel)
theorem tw_1402 : (Jvm.Cond.methodLink "SpanShelvesLaw" (153 : Nat) ({ cls := "SpanShelvesModel", name := "kinds", desc := "(II)I" } : Jvm.MethodName)) ∈ tw := tw_t 1402 (by decide +kernel) (by decide +kernel)
theorem tw_1403 : (Jvm.Cond.instanceMethod ({ cls := "SpanShelvesModel", name := "kinds", desc := "(II)I" } : Jvm.MethodName)) ∈ tw := tw_t 1403 (by decide +kernel) (by decide +kernel)
theorem tw_1404 : (Jvm.Cond.selects "SpanShelvesModel" ({ cls := "SpanShelvesModel", name := "kinds", desc := "(II)I" } : Jvm.MethodName) ({ cls := "SpanShelvesModel", name := "kinds", desc := "(II)I" } : Jvm.MethodName)) ∈ tw := tw_t 1404 (by decide +kernel) (by decide +kernel)
theorem tw_1405 : (Jvm.Cond.code ({ cls := "SpanShelvesModel", name := "kinds", desc := "(II)I" } : Jvm.MethodName) prog_9_method_47_code (5 : Nat) (Option.some Jvm.ClassFile.FieldType.int)) ∈ tw := tw_t 1405 (by decide +kernel) (by decide +kernel)
theorem tw_1406 : (Jvm.Cond.methodLink "SpanShelvesLaw" (182 : Nat) ({ cls := "SpanShelvesModel", name := "latest", desc := "(I)I" } : Jvm.MethodName)) ∈ tw := tw_t 1406 (by decide +kernel) (by decide +kernel)
theorem tw_1407 : (Jvm.Cond.instanceMethod ({ cls := "SpanShelvesModel", name := "latest", desc := "(I)I" } : Jvm.MethodName)) ∈ tw := tw_t 1407 (by decide +kernel) (by decide +kernel)
theorem tw_1408 : (Jvm.Cond.selects "SpanShelvesModel" ({ cls := "SpanShelvesModel", name := "latest", desc := "(I)I" } : Jvm.MethodName) ({ cls := "SpanShelvesModel", name := "latest", desc := "(I)I" } : Jvm.MethodName)) ∈ tw := tw_t 1408 (by decide +kernel) (by decide +kernel)
theorem tw_1409 : (Jvm.Cond.code ({ cls := "SpanShelvesModel", name := "latest", desc := "(I)I" } : Jvm.MethodName) prog_9_method_57_code (2 : Nat) (Option.some Jvm.ClassFile.FieldType.int)) ∈ tw := tw_t 1409 (by decide +kernel) (by decide +kernel)
theorem tw_1410 : (Jvm.Cond.methodLink "SpanShelvesLaw" (156 : Nat) ({ cls := "SpanShelvesModel", name := "value", desc := "(II)I" } : Jvm.MethodName)) ∈ tw := tw_t 1410 (by decide +kernel) (by decide +kernel)
theorem tw_1411 : (Jvm.Cond.instanceMethod ({ cls := "SpanShelvesModel", name := "value", desc := "(II)I" } : Jvm.MethodName)) ∈ tw := tw_t 1411 (by decide +kernel) (by decide +kernel)
theorem tw_1412 : (Jvm.Cond.selects "SpanShelvesModel" ({ cls := "SpanShelvesModel", name := "value", desc := "(II)I" } : Jvm.MethodName) ({ cls := "SpanShelvesModel", name := "value", desc := "(II)I" } : Jvm.MethodName)) ∈ tw := tw_t 1412 (by decide +kernel) (by decide +kernel)
theorem tw_1413 : (Jvm.Cond.code ({ cls := "SpanShelvesModel", name := "value", desc := "(II)I" } : Jvm.MethodName) prog_9_method_61_code (6 : Nat) (Option.some Jvm.ClassFile.FieldType.int)) ∈ tw := tw_t 1413 (by decide +kernel) (by decide +kernel)
theorem tw_1458 : (Jvm.Cond.methodLink "SpanShelvesLaw" (160 : Nat) ({ cls := "SpanShelvesModel", name := "put", desc := "(III)I" } : Jvm.MethodName)) ∈ tw := tw_t 1458 (by decide +kernel) (by decide +kernel)
theorem tw_1459 : (Jvm.Cond.instanceMethod ({ cls := "SpanShelvesModel", name := "put", desc := "(III)I" } : Jvm.MethodName)) ∈ tw := tw_t 1459 (by decide +kernel) (by decide +kernel)
theorem tw_1460 : (Jvm.Cond.selects "SpanShelvesModel" ({ cls := "SpanShelvesModel", name := "put", desc := "(III)I" } : Jvm.MethodName) ({ cls := "SpanShelvesModel", name := "put", desc := "(III)I" } : Jvm.MethodName)) ∈ tw := tw_t 1460 (by decide +kernel) (by decide +kernel)
theorem tw_1461 : (Jvm.Cond.code ({ cls := "SpanShelvesModel", name := "put", desc := "(III)I" } : Jvm.MethodName) prog_9_method_62_code (8 : Nat) (Option.some Jvm.ClassFile.FieldType.int)) ∈ tw := tw_t 1461 (by decide +kernel) (by decide +kernel)
theorem tw_1470 : (Jvm.Cond.methodLink "SpanShelvesLaw" (163 : Nat) ({ cls := "SpanShelvesModel", name := "name", desc := "(I)I" } : Jvm.MethodName)) ∈ tw := tw_t 1470 (by decide +kernel) (by decide +kernel)
theorem tw_1471 : (Jvm.Cond.instanceMethod ({ cls := "SpanShelvesModel", name := "name", desc := "(I)I" } : Jvm.MethodName)) ∈ tw := tw_t 1471 (by decide +kernel) (by decide +kernel)
theorem tw_1472 : (Jvm.Cond.selects "SpanShelvesModel" ({ cls := "SpanShelvesModel", name := "name", desc := "(I)I" } : Jvm.MethodName) ({ cls := "SpanShelvesModel", name := "name", desc := "(I)I" } : Jvm.MethodName)) ∈ tw := tw_t 1472 (by decide +kernel) (by decide +kernel)
theorem tw_1473 : (Jvm.Cond.code ({ cls := "SpanShelvesModel", name := "name", desc := "(I)I" } : Jvm.MethodName) prog_9_method_64_code (5 : Nat) (Option.some Jvm.ClassFile.FieldType.int)) ∈ tw := tw_t 1473 (by decide +kernel) (by decide +kernel)
theorem tw_1474 : (Jvm.Cond.methodLink "SpanShelvesLaw" (166 : Nat) ({ cls := "SpanShelvesModel", name := "drop", desc := "(I)I" } : Jvm.MethodName)) ∈ tw := tw_t 1474 (by decide +kernel) (by decide +kernel)
theorem tw_1475 : (Jvm.Cond.instanceMethod ({ cls := "SpanShelvesModel", name := "drop", desc := "(I)I" } : Jvm.MethodName)) ∈ tw := tw_t 1475 (by decide +kernel) (by decide +kernel)
theorem tw_1476 : (Jvm.Cond.selects "SpanShelvesModel" ({ cls := "SpanShelvesModel", name := "drop", desc := "(I)I" } : Jvm.MethodName) ({ cls := "SpanShelvesModel", name := "drop", desc := "(I)I" } : Jvm.MethodName)) ∈ tw := tw_t 1476 (by decide +kernel) (by decide +kernel)
theorem tw_1477 : (Jvm.Cond.code ({ cls := "SpanShelvesModel", name := "drop", desc := "(I)I" } : Jvm.MethodName) prog_9_method_65_code (4 : Nat) (Option.some Jvm.ClassFile.FieldType.int)) ∈ tw := tw_t 1477 (by decide +kernel) (by decide +kernel)
theorem tw_1478 : (Jvm.Cond.methodLink "SpanShelvesLaw" (169 : Nat) ({ cls := "SpanShelvesModel", name := "move", desc := "(II)Z" } : Jvm.MethodName)) ∈ tw := tw_t 1478 (by decide +kernel) (by decide +kernel)
theorem tw_1479 : (Jvm.Cond.instanceMethod ({ cls := "SpanShelvesModel", name := "move", desc := "(II)Z" } : Jvm.MethodName)) ∈ tw := tw_t 1479 (by decide +kernel) (by decide +kernel)
theorem tw_1480 : (Jvm.Cond.selects "SpanShelvesModel" ({ cls := "SpanShelvesModel", name := "move", desc := "(II)Z" } : Jvm.MethodName) ({ cls := "SpanShelvesModel", name := "move", desc := "(II)Z" } : Jvm.MethodName)) ∈ tw := tw_t 1480 (by decide +kernel) (by decide +kernel)
theorem tw_1481 : (Jvm.Cond.code ({ cls := "SpanShelvesModel", name := "move", desc := "(II)Z" } : Jvm.MethodName) prog_9_method_66_code (6 : Nat) (Option.some Jvm.ClassFile.FieldType.boolean)) ∈ tw := tw_t 1481 (by decide +kernel) (by decide +kernel)
theorem tw_1482 : (Jvm.Cond.methodLink "SpanShelvesLaw" (172 : Nat) ({ cls := "SpanShelvesModel", name := "copy", desc := "(II)I" } : Jvm.MethodName)) ∈ tw := tw_t 1482 (by decide +kernel) (by decide +kernel)
theorem tw_1483 : (Jvm.Cond.instanceMethod ({ cls := "SpanShelvesModel", name := "copy", desc := "(II)I" } : Jvm.MethodName)) ∈ tw := tw_t 1483 (by decide +kernel) (by decide +kernel)
theorem tw_1484 : (Jvm.Cond.selects "SpanShelvesModel" ({ cls := "SpanShelvesModel", name := "copy", desc := "(II)I" } : Jvm.MethodName) ({ cls := "SpanShelvesModel", name := "copy", desc := "(II)I" } : Jvm.MethodName)) ∈ tw := tw_t 1484 (by decide +kernel) (by decide +kernel)
theorem tw_1485 : (Jvm.Cond.code ({ cls := "SpanShelvesModel", name := "copy", desc := "(II)I" } : Jvm.MethodName) prog_9_method_67_code (6 : Nat) (Option.some Jvm.ClassFile.FieldType.int)) ∈ tw := tw_t 1485 (by decide +kernel) (by decide +kernel)
theorem tw_1491 : (Jvm.Cond.methodLink "SpanShelvesLaw" (178 : Nat) ({ cls := "SpanShelvesModel", name := "set", desc := "(IIJ)I" } : Jvm.MethodName)) ∈ tw := tw_t 1491 (by decide +kernel) (by decide +kernel)
theorem tw_1492 : (Jvm.Cond.instanceMethod ({ cls := "SpanShelvesModel", name := "set", desc := "(IIJ)I" } : Jvm.MethodName)) ∈ tw := tw_t 1492 (by decide +kernel) (by decide +kernel)
theorem tw_1493 : (Jvm.Cond.selects "SpanShelvesModel" ({ cls := "SpanShelvesModel", name := "set", desc := "(IIJ)I" } : Jvm.MethodName) ({ cls := "SpanShelvesModel", name := "set", desc := "(IIJ)I" } : Jvm.MethodName)) ∈ tw := tw_t 1493 (by decide +kernel) (by decide +kernel)
theorem tw_1494 : (Jvm.Cond.code ({ cls := "SpanShelvesModel", name := "set", desc := "(IIJ)I" } : Jvm.MethodName) prog_9_method_68_code (8 : Nat) (Option.some Jvm.ClassFile.FieldType.int)) ∈ tw := tw_t 1494 (by decide +kernel) (by decide +kernel)
theorem tw_1495 : (Jvm.Cond.methodLink "SpanShelvesLaw" (186 : Nat) ({ cls := "SpanShelvesModel", name := "begin", desc := "()V" } : Jvm.MethodName)) ∈ tw := tw_t 1495 (by decide +kernel) (by decide +kernel)
theorem tw_1496 : (Jvm.Cond.instanceMethod ({ cls := "SpanShelvesModel", name := "begin", desc := "()V" } : Jvm.MethodName)) ∈ tw := tw_t 1496 (by decide +kernel) (by decide +kernel)
theorem tw_1497 : (Jvm.Cond.selects "SpanShelvesModel" ({ cls := "SpanShelvesModel", name := "begin", desc := "()V" } : Jvm.MethodName) ({ cls := "SpanShelvesModel", name := "begin", desc := "()V" } : Jvm.MethodName)) ∈ tw := tw_t 1497 (by decide +kernel) (by decide +kernel)
theorem tw_1498 : (Jvm.Cond.code ({ cls := "SpanShelvesModel", name := "begin", desc := "()V" } : Jvm.MethodName) prog_9_method_69_code (1 : Nat) (Option.none : Option Jvm.ClassFile.FieldType)) ∈ tw := tw_t 1498 (by decide +kernel) (by decide +kernel)
theorem tw_1507 : (Jvm.Cond.methodLink "SpanShelvesLaw" (189 : Nat) ({ cls := "SpanShelvesModel", name := "write", desc := "(I)I" } : Jvm.MethodName)) ∈ tw := tw_t 1507 (by decide +kernel) (by decide +kernel)
theorem tw_1508 : (Jvm.Cond.instanceMethod ({ cls := "SpanShelvesModel", name := "write", desc := "(I)I" } : Jvm.MethodName)) ∈ tw := tw_t 1508 (by decide +kernel) (by decide +kernel)
theorem tw_1509 : (Jvm.Cond.selects "SpanShelvesModel" ({ cls := "SpanShelvesModel", name := "write", desc := "(I)I" } : Jvm.MethodName) ({ cls := "SpanShelvesModel", name := "write", desc := "(I)I" } : Jvm.MethodName)) ∈ tw := tw_t 1509 (by decide +kernel) (by decide +kernel)
theorem tw_1510 : (Jvm.Cond.code ({ cls := "SpanShelvesModel", name := "write", desc := "(I)I" } : Jvm.MethodName) prog_9_method_74_code (5 : Nat) (Option.some Jvm.ClassFile.FieldType.int)) ∈ tw := tw_t 1510 (by decide +kernel) (by decide +kernel)
theorem tw_1519 : (Jvm.Cond.methodLink "SpanShelvesLaw" (192 : Nat) ({ cls := "SpanShelvesModel", name := "open", desc := "(I)I" } : Jvm.MethodName)) ∈ tw := tw_t 1519 (by decide +kernel) (by decide +kernel)
theorem tw_1520 : (Jvm.Cond.instanceMethod ({ cls := "SpanShelvesModel", name := "open", desc := "(I)I" } : Jvm.MethodName)) ∈ tw := tw_t 1520 (by decide +kernel) (by decide +kernel)
theorem tw_1521 : (Jvm.Cond.selects "SpanShelvesModel" ({ cls := "SpanShelvesModel", name := "open", desc := "(I)I" } : Jvm.MethodName) ({ cls := "SpanShelvesModel", name := "open", desc := "(I)I" } : Jvm.MethodName)) ∈ tw := tw_t 1521 (by decide +kernel) (by decide +kernel)
theorem tw_1522 : (Jvm.Cond.code ({ cls := "SpanShelvesModel", name := "open", desc := "(I)I" } : Jvm.MethodName) prog_9_method_75_code (7 : Nat) (Option.some Jvm.ClassFile.FieldType.int)) ∈ tw := tw_t 1522 (by decide +kernel) (by decide +kernel)
theorem tw_1527 : (Jvm.Cond.methodLink "SpanShelvesLaw" (196 : Nat) ({ cls := "SpanShelvesModel", name := "close", desc := "()I" } : Jvm.MethodName)) ∈ tw := tw_t 1527 (by decide +kernel) (by decide +kernel)
theorem tw_1528 : (Jvm.Cond.instanceMethod ({ cls := "SpanShelvesModel", name := "close", desc := "()I" } : Jvm.MethodName)) ∈ tw := tw_t 1528 (by decide +kernel) (by decide +kernel)
theorem tw_1529 : (Jvm.Cond.selects "SpanShelvesModel" ({ cls := "SpanShelvesModel", name := "close", desc := "()I" } : Jvm.MethodName) ({ cls := "SpanShelvesModel", name := "close", desc := "()I" } : Jvm.MethodName)) ∈ tw := tw_t 1529 (by decide +kernel) (by decide +kernel)
theorem tw_1530 : (Jvm.Cond.code ({ cls := "SpanShelvesModel", name := "close", desc := "()I" } : Jvm.MethodName) prog_9_method_77_code (1 : Nat) (Option.some Jvm.ClassFile.FieldType.int)) ∈ tw := tw_t 1530 (by decide +kernel) (by decide +kernel)
theorem tw_1531 : (Jvm.Cond.methodLink "SpanShelvesLaw" (199 : Nat) ({ cls := "SpanShelvesModel", name := "lay", desc := "(I)I" } : Jvm.MethodName)) ∈ tw := tw_t 1531 (by decide +kernel) (by decide +kernel)
theorem tw_1532 : (Jvm.Cond.instanceMethod ({ cls := "SpanShelvesModel", name := "lay", desc := "(I)I" } : Jvm.MethodName)) ∈ tw := tw_t 1532 (by decide +kernel) (by decide +kernel)
theorem tw_1533 : (Jvm.Cond.selects "SpanShelvesModel" ({ cls := "SpanShelvesModel", name := "lay", desc := "(I)I" } : Jvm.MethodName) ({ cls := "SpanShelvesModel", name := "lay", desc := "(I)I" } : Jvm.MethodName)) ∈ tw := tw_t 1533 (by decide +kernel) (by decide +kernel)
theorem tw_1534 : (Jvm.Cond.code ({ cls := "SpanShelvesModel", name := "lay", desc := "(I)I" } : Jvm.MethodName) prog_9_method_78_code (3 : Nat) (Option.some Jvm.ClassFile.FieldType.int)) ∈ tw := tw_t 1534 (by decide +kernel) (by decide +kernel)
theorem tw_1535 : (Jvm.Cond.methodLink "SpanShelvesLaw" (203 : Nat) ({ cls := "SpanShelvesModel", name := "sheet", desc := "(I)I" } : Jvm.MethodName)) ∈ tw := tw_t 1535 (by decide +kernel) (by decide +kernel)
theorem tw_1536 : (Jvm.Cond.instanceMethod ({ cls := "SpanShelvesModel", name := "sheet", desc := "(I)I" } : Jvm.MethodName)) ∈ tw := tw_t 1536 (by decide +kernel) (by decide +kernel)
theorem tw_1537 : (Jvm.Cond.selects "SpanShelvesModel" ({ cls := "SpanShelvesModel", name := "sheet", desc := "(I)I" } : Jvm.MethodName) ({ cls := "SpanShelvesModel", name := "sheet", desc := "(I)I" } : Jvm.MethodName)) ∈ tw := tw_t 1537 (by decide +kernel) (by decide +kernel)
theorem tw_1538 : (Jvm.Cond.code ({ cls := "SpanShelvesModel", name := "sheet", desc := "(I)I" } : Jvm.MethodName) prog_9_method_79_code (2 : Nat) (Option.some Jvm.ClassFile.FieldType.int)) ∈ tw := tw_t 1538 (by decide +kernel) (by decide +kernel)
theorem tw_1539 : (Jvm.Cond.methodLink "SpanShelvesLaw" (207 : Nat) ({ cls := "SpanShelvesModel", name := "sheetAt", desc := "(I)I" } : Jvm.MethodName)) ∈ tw := tw_t 1539 (by decide +kernel) (by decide +kernel)
theorem tw_1540 : (Jvm.Cond.instanceMethod ({ cls := "SpanShelvesModel", name := "sheetAt", desc := "(I)I" } : Jvm.MethodName)) ∈ tw := tw_t 1540 (by decide +kernel) (by decide +kernel)
theorem tw_1541 : (Jvm.Cond.selects "SpanShelvesModel" ({ cls := "SpanShelvesModel", name := "sheetAt", desc := "(I)I" } : Jvm.MethodName) ({ cls := "SpanShelvesModel", name := "sheetAt", desc := "(I)I" } : Jvm.MethodName)) ∈ tw := tw_t 1541 (by decide +kernel) (by decide +kernel)
theorem tw_1542 : (Jvm.Cond.code ({ cls := "SpanShelvesModel", name := "sheetAt", desc := "(I)I" } : Jvm.MethodName) prog_9_method_80_code (2 : Nat) (Option.some Jvm.ClassFile.FieldType.int)) ∈ tw := tw_t 1542 (by decide +kernel) (by decide +kernel)
theorem tw_1543 : (Jvm.Cond.constantLong "SpanShelvesLaw" (173 : Nat) (4294967295 : Int64)) ∈ tw := tw_t 1543 (by decide +kernel) (by decide +kernel)
theorem mm_X6_begin : MM 5 yX6_begin cX6_begin 1 none 0 := ⟨by decide, RX6, TX6, 10, rfl, tw_504, tw_505, tw_506, tw_1, by decide +kernel, by decide +kernel, by decide +kernel⟩
theorem mm_X6_end : MM 5 yX6_end cX6_end 2 (some .boolean) 1 := ⟨by decide, RX6, TX6, 10, rfl, tw_326, tw_327, tw_328, tw_1, by decide +kernel, by decide +kernel, by decide +kernel⟩
theorem mm_X6_fault : MM 5 yX6_fault cX6_fault 2 (some .int) 1 := ⟨by decide, RX6, TX6, 10, rfl, tw_422, tw_423, tw_424, tw_1, by decide +kernel, by decide +kernel, by decide +kernel⟩
theorem mm_X6_feed : MM 5 yX6_feed cX6_feed 6 (some .int) 5 := ⟨by decide, RX6, TX6, 10, rfl, tw_318, tw_319, tw_320, tw_1, by decide +kernel, by decide +kernel, by decide +kernel⟩
theorem mm_X6_judge : MM 5 yX6_judge cX6_judge 1 (some .int) 0 := ⟨by decide, RX6, TX6, 10, rfl, tw_330, tw_331, tw_332, tw_1, by decide +kernel, by decide +kernel, by decide +kernel⟩
theorem mm_X6_latest : MM 5 yX6_latest cX6_latest 3 (some .int) 1 := ⟨by decide, RX6, TX6, 10, rfl, tw_426, tw_427, tw_428, tw_1, by decide +kernel, by decide +kernel, by decide +kernel⟩
theorem mm_X6_sheet : MM 5 yX6_sheet cX6_sheet 2 (some .int) 1 := ⟨by decide, RX6, TX6, 10, rfl, tw_522, tw_523, tw_524, tw_1, by decide +kernel, by decide +kernel, by decide +kernel⟩
theorem mm_X6_sheetAt : MM 5 yX6_sheetAt cX6_sheetAt 2 (some .int) 1 := ⟨by decide, RX6, TX6, 10, rfl, tw_534, tw_535, tw_536, tw_1, by decide +kernel, by decide +kernel, by decide +kernel⟩
theorem mm_X6_taped : MM 5 yX6_taped cX6_taped 1 (some .int) 0 := ⟨by decide, RX6, TX6, 10, rfl, tw_539, tw_540, tw_541, tw_1, by decide +kernel, by decide +kernel, by decide +kernel⟩
theorem mm_X8_begin : MM 7 yX8_begin cX8_begin 1 none 0 := ⟨by decide, RX8, TX8, 44, rfl, tw_1496, tw_1497, tw_1498, tw_10, by decide +kernel, by decide +kernel, by decide +kernel⟩
theorem mm_X8_byteAt : MM 7 yX8_byteAt cX8_byteAt 3 (some .int) 2 := ⟨by decide, RX8, TX8, 44, rfl, tw_1379, tw_1380, tw_1381, tw_10, by decide +kernel, by decide +kernel, by decide +kernel⟩
theorem mm_X8_close : MM 7 yX8_close cX8_close 1 (some .int) 0 := ⟨by decide, RX8, TX8, 44, rfl, tw_1528, tw_1529, tw_1530, tw_10, by decide +kernel, by decide +kernel, by decide +kernel⟩
theorem mm_X8_copy : MM 7 yX8_copy cX8_copy 6 (some .int) 2 := ⟨by decide, RX8, TX8, 44, rfl, tw_1483, tw_1484, tw_1485, tw_10, by decide +kernel, by decide +kernel, by decide +kernel⟩
theorem mm_X8_drop : MM 7 yX8_drop cX8_drop 4 (some .int) 1 := ⟨by decide, RX8, TX8, 44, rfl, tw_1475, tw_1476, tw_1477, tw_10, by decide +kernel, by decide +kernel, by decide +kernel⟩
theorem mm_X8_end : MM 7 yX8_end cX8_end 2 (some .boolean) 1 := ⟨by decide, RX8, TX8, 44, rfl, tw_1214, tw_1215, tw_1216, tw_10, by decide +kernel, by decide +kernel, by decide +kernel⟩
theorem mm_X8_fault : MM 7 yX8_fault cX8_fault 2 (some .int) 1 := ⟨by decide, RX8, TX8, 44, rfl, tw_1306, tw_1307, tw_1308, tw_10, by decide +kernel, by decide +kernel, by decide +kernel⟩
theorem mm_X8_feed : MM 7 yX8_feed cX8_feed 8 (some .int) 5 := ⟨by decide, RX8, TX8, 44, rfl, tw_1210, tw_1211, tw_1212, tw_10, by decide +kernel, by decide +kernel, by decide +kernel⟩
theorem mm_X8_find : MM 7 yX8_find cX8_find 4 (some .int) 1 := ⟨by decide, RX8, TX8, 44, rfl, tw_1351, tw_1352, tw_1353, tw_10, by decide +kernel, by decide +kernel, by decide +kernel⟩
theorem mm_X8_go : MM 7 yX8_go cX8_go 3 (some .boolean) 2 := ⟨by decide, RX8, TX8, 44, rfl, tw_1322, tw_1323, tw_1324, tw_10, by decide +kernel, by decide +kernel, by decide +kernel⟩
theorem mm_X8_in : MM 7 yX8_in cX8_in 3 (some .boolean) 1 := ⟨by decide, RX8, TX8, 44, rfl, tw_1367, tw_1368, tw_1369, tw_10, by decide +kernel, by decide +kernel, by decide +kernel⟩
theorem mm_X8_judge : MM 7 yX8_judge cX8_judge 2 (some .int) 0 := ⟨by decide, RX8, TX8, 44, rfl, tw_1222, tw_1223, tw_1224, tw_10, by decide +kernel, by decide +kernel, by decide +kernel⟩
theorem mm_X8_kinds : MM 7 yX8_kinds cX8_kinds 5 (some .int) 2 := ⟨by decide, RX8, TX8, 44, rfl, tw_1403, tw_1404, tw_1405, tw_10, by decide +kernel, by decide +kernel, by decide +kernel⟩
theorem mm_X8_latest : MM 7 yX8_latest cX8_latest 2 (some .int) 1 := ⟨by decide, RX8, TX8, 44, rfl, tw_1407, tw_1408, tw_1409, tw_10, by decide +kernel, by decide +kernel, by decide +kernel⟩
theorem mm_X8_lay : MM 7 yX8_lay cX8_lay 3 (some .int) 1 := ⟨by decide, RX8, TX8, 44, rfl, tw_1532, tw_1533, tw_1534, tw_10, by decide +kernel, by decide +kernel, by decide +kernel⟩
theorem mm_X8_look : MM 7 yX8_look cX8_look 5 (some .int) 2 := ⟨by decide, RX8, TX8, 44, rfl, tw_1375, tw_1376, tw_1377, tw_10, by decide +kernel, by decide +kernel, by decide +kernel⟩
theorem mm_X8_move : MM 7 yX8_move cX8_move 6 (some .boolean) 2 := ⟨by decide, RX8, TX8, 44, rfl, tw_1479, tw_1480, tw_1481, tw_10, by decide +kernel, by decide +kernel, by decide +kernel⟩
theorem mm_X8_name_ : MM 7 yX8_name_ cX8_name_ 5 (some .int) 1 := ⟨by decide, RX8, TX8, 44, rfl, tw_1471, tw_1472, tw_1473, tw_10, by decide +kernel, by decide +kernel, by decide +kernel⟩
theorem mm_X8_number : MM 7 yX8_number cX8_number 4 (some .long) 1 := ⟨by decide, RX8, TX8, 44, rfl, tw_1383, tw_1384, tw_1385, tw_10, by decide +kernel, by decide +kernel, by decide +kernel⟩
theorem mm_X8_open : MM 7 yX8_open cX8_open 7 (some .int) 1 := ⟨by decide, RX8, TX8, 44, rfl, tw_1520, tw_1521, tw_1522, tw_10, by decide +kernel, by decide +kernel, by decide +kernel⟩
theorem mm_X8_out : MM 7 yX8_out cX8_out 2 (some .boolean) 1 := ⟨by decide, RX8, TX8, 44, rfl, tw_1371, tw_1372, tw_1373, tw_10, by decide +kernel, by decide +kernel, by decide +kernel⟩
theorem mm_X8_path : MM 7 yX8_path cX8_path 10 (some .int) 1 := ⟨by decide, RX8, TX8, 44, rfl, tw_1363, tw_1364, tw_1365, tw_10, by decide +kernel, by decide +kernel, by decide +kernel⟩
theorem mm_X8_put : MM 7 yX8_put cX8_put 8 (some .int) 3 := ⟨by decide, RX8, TX8, 44, rfl, tw_1459, tw_1460, tw_1461, tw_10, by decide +kernel, by decide +kernel, by decide +kernel⟩
theorem mm_X8_set : MM 7 yX8_set cX8_set 8 (some .int) 3 := ⟨by decide, RX8, TX8, 44, rfl, tw_1492, tw_1493, tw_1494, tw_10, by decide +kernel, by decide +kernel, by decide +kernel⟩
theorem mm_X8_sheet : MM 7 yX8_sheet cX8_sheet 2 (some .int) 1 := ⟨by decide, RX8, TX8, 44, rfl, tw_1536, tw_1537, tw_1538, tw_10, by decide +kernel, by decide +kernel, by decide +kernel⟩
theorem mm_X8_sheetAt : MM 7 yX8_sheetAt cX8_sheetAt 2 (some .int) 1 := ⟨by decide, RX8, TX8, 44, rfl, tw_1540, tw_1541, tw_1542, tw_10, by decide +kernel, by decide +kernel, by decide +kernel⟩
theorem mm_X8_take : MM 7 yX8_take cX8_take 5 (some .int) 1 := ⟨by decide, RX8, TX8, 44, rfl, tw_1310, tw_1311, tw_1312, tw_10, by decide +kernel, by decide +kernel, by decide +kernel⟩
theorem mm_X8_taped : MM 7 yX8_taped cX8_taped 1 (some .int) 0 := ⟨by decide, RX8, TX8, 44, rfl, tw_1218, tw_1219, tw_1220, tw_10, by decide +kernel, by decide +kernel, by decide +kernel⟩
theorem mm_X8_thrown : MM 7 yX8_thrown cX8_thrown 1 (some .int) 0 := ⟨by decide, RX8, TX8, 44, rfl, tw_995, tw_996, tw_997, tw_10, by decide +kernel, by decide +kernel, by decide +kernel⟩
theorem mm_X8_total : MM 7 yX8_total cX8_total 7 (some .int) 2 := ⟨by decide, RX8, TX8, 44, rfl, tw_1391, tw_1392, tw_1393, tw_10, by decide +kernel, by decide +kernel, by decide +kernel⟩
theorem mm_X8_value_ : MM 7 yX8_value_ cX8_value_ 6 (some .int) 2 := ⟨by decide, RX8, TX8, 44, rfl, tw_1411, tw_1412, tw_1413, tw_10, by decide +kernel, by decide +kernel, by decide +kernel⟩
theorem mm_X8_write : MM 7 yX8_write cX8_write 5 (some .int) 1 := ⟨by decide, RX8, TX8, 44, rfl, tw_1508, tw_1509, tw_1510, tw_10, by decide +kernel, by decide +kernel, by decide +kernel⟩
