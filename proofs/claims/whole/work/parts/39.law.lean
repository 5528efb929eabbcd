theorem dL_law_0 : decode cL_law 0 = .ok (.new 7, 3) := by decide +kernel
theorem dL_law_3 : decode cL_law 3 = .ok (.dup, 1) := by decide +kernel
theorem dL_law_4 : decode cL_law 4 = .ok (.invokespecial 9, 3) := by decide +kernel
theorem dL_law_7 : decode cL_law 7 = .ok (.astore_n 1, 1) := by decide +kernel
theorem dL_law_8 : decode cL_law 8 = .ok (.new 10, 3) := by decide +kernel
theorem dL_law_11 : decode cL_law 11 = .ok (.dup, 1) := by decide +kernel
theorem dL_law_12 : decode cL_law 12 = .ok (.invokespecial 12, 3) := by decide +kernel
theorem dL_law_15 : decode cL_law 15 = .ok (.astore_n 2, 1) := by decide +kernel
theorem dL_law_16 : decode cL_law 16 = .ok (.iconst 0, 1) := by decide +kernel
theorem dL_law_17 : decode cL_law 17 = .ok (.istore_n 3, 1) := by decide +kernel
theorem dL_law_18 : decode cL_law 18 = .ok (.iload_n 3, 1) := by decide +kernel
theorem dL_law_19 : decode cL_law 19 = .ok (.aload_n 0, 1) := by decide +kernel
theorem dL_law_20 : decode cL_law 20 = .ok (.arraylength, 1) := by decide +kernel
theorem dL_law_21 : decode cL_law 21 = .ok (.bipush 6, 2) := by decide +kernel
theorem dL_law_23 : decode cL_law 23 = .ok (.isub, 1) := by decide +kernel
theorem dL_law_24 : decode cL_law 24 = .ok (.if_icmp .gt 1542, 3) := by decide +kernel
theorem dL_law_27 : decode cL_law 27 = .ok (.aload_n 0, 1) := by decide +kernel
theorem dL_law_28 : decode cL_law 28 = .ok (.iload_n 3, 1) := by decide +kernel
theorem dL_law_29 : decode cL_law 29 = .ok (.iaload, 1) := by decide +kernel
theorem dL_law_30 : decode cL_law 30 = .ok (.bipush 63, 2) := by decide +kernel
theorem dL_law_32 : decode cL_law 32 = .ok (.iand, 1) := by decide +kernel
theorem dL_law_33 : decode cL_law 33 = .ok (.tableswitch 1527 0 44 #[195, 238, 311, 374, 408, 431, 464, 497, 540, 563, 596, 645, 678, 711, 724, 737, 770, 793, 826, 869, 912, 955, 988, 1021, 1064, 1087, 1100, 1133, 1156, 1189, 1232, 1245, 1258, 1271, 1294, 1307, 1320, 1343, 1376, 1419, 1442, 1455, 1478, 1491, 1504], 195) := by decide +kernel
theorem dL_law_228 : decode cL_law 228 = .ok (.aload_n 1, 1) := by decide +kernel
theorem dL_law_229 : decode cL_law 229 = .ok (.aload_n 0, 1) := by decide +kernel
theorem dL_law_230 : decode cL_law 230 = .ok (.iload_n 3, 1) := by decide +kernel
theorem dL_law_231 : decode cL_law 231 = .ok (.iconst 1, 1) := by decide +kernel
theorem dL_law_232 : decode cL_law 232 = .ok (.iadd, 1) := by decide +kernel
theorem dL_law_233 : decode cL_law 233 = .ok (.iaload, 1) := by decide +kernel
theorem dL_law_234 : decode cL_law 234 = .ok (.aload_n 0, 1) := by decide +kernel
theorem dL_law_235 : decode cL_law 235 = .ok (.iload_n 3, 1) := by decide +kernel
theorem dL_law_236 : decode cL_law 236 = .ok (.iconst 2, 1) := by decide +kernel
theorem dL_law_237 : decode cL_law 237 = .ok (.iadd, 1) := by decide +kernel
theorem dL_law_238 : decode cL_law 238 = .ok (.iaload, 1) := by decide +kernel
theorem dL_law_239 : decode cL_law 239 = .ok (.aload_n 0, 1) := by decide +kernel
theorem dL_law_240 : decode cL_law 240 = .ok (.iload_n 3, 1) := by decide +kernel
theorem dL_law_241 : decode cL_law 241 = .ok (.iconst 3, 1) := by decide +kernel
theorem dL_law_242 : decode cL_law 242 = .ok (.iadd, 1) := by decide +kernel
theorem dL_law_243 : decode cL_law 243 = .ok (.iaload, 1) := by decide +kernel
theorem dL_law_244 : decode cL_law 244 = .ok (.invokevirtual 13, 3) := by decide +kernel
theorem dL_law_247 : decode cL_law 247 = .ok (.aload_n 2, 1) := by decide +kernel
theorem dL_law_248 : decode cL_law 248 = .ok (.aload_n 0, 1) := by decide +kernel
theorem dL_law_249 : decode cL_law 249 = .ok (.iload_n 3, 1) := by decide +kernel
theorem dL_law_250 : decode cL_law 250 = .ok (.iconst 1, 1) := by decide +kernel
theorem dL_law_251 : decode cL_law 251 = .ok (.iadd, 1) := by decide +kernel
theorem dL_law_252 : decode cL_law 252 = .ok (.iaload, 1) := by decide +kernel
theorem dL_law_253 : decode cL_law 253 = .ok (.aload_n 0, 1) := by decide +kernel
theorem dL_law_254 : decode cL_law 254 = .ok (.iload_n 3, 1) := by decide +kernel
theorem dL_law_255 : decode cL_law 255 = .ok (.iconst 2, 1) := by decide +kernel
theorem dL_law_256 : decode cL_law 256 = .ok (.iadd, 1) := by decide +kernel
theorem dL_law_257 : decode cL_law 257 = .ok (.iaload, 1) := by decide +kernel
theorem dL_law_258 : decode cL_law 258 = .ok (.aload_n 0, 1) := by decide +kernel
theorem dL_law_259 : decode cL_law 259 = .ok (.iload_n 3, 1) := by decide +kernel
theorem dL_law_260 : decode cL_law 260 = .ok (.iconst 3, 1) := by decide +kernel
theorem dL_law_261 : decode cL_law 261 = .ok (.iadd, 1) := by decide +kernel
theorem dL_law_262 : decode cL_law 262 = .ok (.iaload, 1) := by decide +kernel
theorem dL_law_263 : decode cL_law 263 = .ok (.invokevirtual 17, 3) := by decide +kernel
theorem dL_law_266 : decode cL_law 266 = .ok (.if_icmp .eq 1294, 3) := by decide +kernel
theorem dL_law_269 : decode cL_law 269 = .ok (.iconst 0, 1) := by decide +kernel
theorem dL_law_270 : decode cL_law 270 = .ok (.ireturn, 1) := by decide +kernel
theorem dL_law_271 : decode cL_law 271 = .ok (.aload_n 1, 1) := by decide +kernel
theorem dL_law_272 : decode cL_law 272 = .ok (.aload_n 0, 1) := by decide +kernel
theorem dL_law_273 : decode cL_law 273 = .ok (.iload_n 3, 1) := by decide +kernel
theorem dL_law_274 : decode cL_law 274 = .ok (.iconst 1, 1) := by decide +kernel
theorem dL_law_275 : decode cL_law 275 = .ok (.iadd, 1) := by decide +kernel
theorem dL_law_276 : decode cL_law 276 = .ok (.iaload, 1) := by decide +kernel
theorem dL_law_277 : decode cL_law 277 = .ok (.aload_n 0, 1) := by decide +kernel
theorem dL_law_278 : decode cL_law 278 = .ok (.iload_n 3, 1) := by decide +kernel
theorem dL_law_279 : decode cL_law 279 = .ok (.iconst 2, 1) := by decide +kernel
theorem dL_law_280 : decode cL_law 280 = .ok (.iadd, 1) := by decide +kernel
theorem dL_law_281 : decode cL_law 281 = .ok (.iaload, 1) := by decide +kernel
theorem dL_law_282 : decode cL_law 282 = .ok (.aload_n 0, 1) := by decide +kernel
theorem dL_law_283 : decode cL_law 283 = .ok (.iload_n 3, 1) := by decide +kernel
theorem dL_law_284 : decode cL_law 284 = .ok (.iconst 3, 1) := by decide +kernel
theorem dL_law_285 : decode cL_law 285 = .ok (.iadd, 1) := by decide +kernel
theorem dL_law_286 : decode cL_law 286 = .ok (.iaload, 1) := by decide +kernel
theorem dL_law_287 : decode cL_law 287 = .ok (.i2l, 1) := by decide +kernel
theorem dL_law_288 : decode cL_law 288 = .ok (.bipush 32, 2) := by decide +kernel
theorem dL_law_290 : decode cL_law 290 = .ok (.lshl, 1) := by decide +kernel
theorem dL_law_291 : decode cL_law 291 = .ok (.aload_n 0, 1) := by decide +kernel
theorem dL_law_292 : decode cL_law 292 = .ok (.iload_n 3, 1) := by decide +kernel
theorem dL_law_293 : decode cL_law 293 = .ok (.iconst 4, 1) := by decide +kernel
theorem dL_law_294 : decode cL_law 294 = .ok (.iadd, 1) := by decide +kernel
theorem dL_law_295 : decode cL_law 295 = .ok (.iaload, 1) := by decide +kernel
theorem dL_law_296 : decode cL_law 296 = .ok (.i2l, 1) := by decide +kernel
theorem dL_law_297 : decode cL_law 297 = .ok (.ldc2_w 18, 3) := by decide +kernel
theorem dL_law_300 : decode cL_law 300 = .ok (.land, 1) := by decide +kernel
theorem dL_law_301 : decode cL_law 301 = .ok (.lor, 1) := by decide +kernel
theorem dL_law_302 : decode cL_law 302 = .ok (.invokevirtual 20, 3) := by decide +kernel
theorem dL_law_305 : decode cL_law 305 = .ok (.aload_n 2, 1) := by decide +kernel
theorem dL_law_306 : decode cL_law 306 = .ok (.aload_n 0, 1) := by decide +kernel
theorem dL_law_307 : decode cL_law 307 = .ok (.iload_n 3, 1) := by decide +kernel
theorem dL_law_308 : decode cL_law 308 = .ok (.iconst 1, 1) := by decide +kernel
theorem dL_law_309 : decode cL_law 309 = .ok (.iadd, 1) := by decide +kernel
theorem dL_law_310 : decode cL_law 310 = .ok (.iaload, 1) := by decide +kernel
theorem dL_law_311 : decode cL_law 311 = .ok (.aload_n 0, 1) := by decide +kernel
theorem dL_law_312 : decode cL_law 312 = .ok (.iload_n 3, 1) := by decide +kernel
theorem dL_law_313 : decode cL_law 313 = .ok (.iconst 2, 1) := by decide +kernel
theorem dL_law_314 : decode cL_law 314 = .ok (.iadd, 1) := by decide +kernel
theorem dL_law_315 : decode cL_law 315 = .ok (.iaload, 1) := by decide +kernel
theorem dL_law_316 : decode cL_law 316 = .ok (.aload_n 0, 1) := by decide +kernel
theorem dL_law_317 : decode cL_law 317 = .ok (.iload_n 3, 1) := by decide +kernel
theorem dL_law_318 : decode cL_law 318 = .ok (.iconst 3, 1) := by decide +kernel
theorem dL_law_319 : decode cL_law 319 = .ok (.iadd, 1) := by decide +kernel
theorem dL_law_320 : decode cL_law 320 = .ok (.iaload, 1) := by decide +kernel
theorem dL_law_321 : decode cL_law 321 = .ok (.i2l, 1) := by decide +kernel
theorem dL_law_322 : decode cL_law 322 = .ok (.bipush 32, 2) := by decide +kernel
theorem dL_law_324 : decode cL_law 324 = .ok (.lshl, 1) := by decide +kernel
theorem dL_law_325 : decode cL_law 325 = .ok (.aload_n 0, 1) := by decide +kernel
theorem dL_law_326 : decode cL_law 326 = .ok (.iload_n 3, 1) := by decide +kernel
theorem dL_law_327 : decode cL_law 327 = .ok (.iconst 4, 1) := by decide +kernel
theorem dL_law_328 : decode cL_law 328 = .ok (.iadd, 1) := by decide +kernel
theorem dL_law_329 : decode cL_law 329 = .ok (.iaload, 1) := by decide +kernel
theorem dL_law_330 : decode cL_law 330 = .ok (.i2l, 1) := by decide +kernel
theorem dL_law_331 : decode cL_law 331 = .ok (.ldc2_w 18, 3) := by decide +kernel
theorem dL_law_334 : decode cL_law 334 = .ok (.land, 1) := by decide +kernel
theorem dL_law_335 : decode cL_law 335 = .ok (.lor, 1) := by decide +kernel
theorem dL_law_336 : decode cL_law 336 = .ok (.invokevirtual 24, 3) := by decide +kernel
theorem dL_law_339 : decode cL_law 339 = .ok (.if_icmp .eq 1221, 3) := by decide +kernel
theorem dL_law_342 : decode cL_law 342 = .ok (.iconst 0, 1) := by decide +kernel
theorem dL_law_343 : decode cL_law 343 = .ok (.ireturn, 1) := by decide +kernel
theorem dL_law_344 : decode cL_law 344 = .ok (.aload_n 1, 1) := by decide +kernel
theorem dL_law_345 : decode cL_law 345 = .ok (.aload_n 0, 1) := by decide +kernel
theorem dL_law_346 : decode cL_law 346 = .ok (.iload_n 3, 1) := by decide +kernel
theorem dL_law_347 : decode cL_law 347 = .ok (.iconst 1, 1) := by decide +kernel
theorem dL_law_348 : decode cL_law 348 = .ok (.iadd, 1) := by decide +kernel
theorem dL_law_349 : decode cL_law 349 = .ok (.iaload, 1) := by decide +kernel
theorem dL_law_350 : decode cL_law 350 = .ok (.aload_n 0, 1) := by decide +kernel
theorem dL_law_351 : decode cL_law 351 = .ok (.iload_n 3, 1) := by decide +kernel
theorem dL_law_352 : decode cL_law 352 = .ok (.iconst 2, 1) := by decide +kernel
theorem dL_law_353 : decode cL_law 353 = .ok (.iadd, 1) := by decide +kernel
theorem dL_law_354 : decode cL_law 354 = .ok (.iaload, 1) := by decide +kernel
theorem dL_law_355 : decode cL_law 355 = .ok (.aload_n 0, 1) := by decide +kernel
theorem dL_law_356 : decode cL_law 356 = .ok (.iload_n 3, 1) := by decide +kernel
theorem dL_law_357 : decode cL_law 357 = .ok (.iconst 3, 1) := by decide +kernel
theorem dL_law_358 : decode cL_law 358 = .ok (.iadd, 1) := by decide +kernel
theorem dL_law_359 : decode cL_law 359 = .ok (.iaload, 1) := by decide +kernel
theorem dL_law_360 : decode cL_law 360 = .ok (.aload_n 0, 1) := by decide +kernel
theorem dL_law_361 : decode cL_law 361 = .ok (.iload_n 3, 1) := by decide +kernel
theorem dL_law_362 : decode cL_law 362 = .ok (.iconst 4, 1) := by decide +kernel
theorem dL_law_363 : decode cL_law 363 = .ok (.iadd, 1) := by decide +kernel
theorem dL_law_364 : decode cL_law 364 = .ok (.iaload, 1) := by decide +kernel
theorem dL_law_365 : decode cL_law 365 = .ok (.aload_n 0, 1) := by decide +kernel
theorem dL_law_366 : decode cL_law 366 = .ok (.iload_n 3, 1) := by decide +kernel
theorem dL_law_367 : decode cL_law 367 = .ok (.iconst 5, 1) := by decide +kernel
theorem dL_law_368 : decode cL_law 368 = .ok (.iadd, 1) := by decide +kernel
theorem dL_law_369 : decode cL_law 369 = .ok (.iaload, 1) := by decide +kernel
theorem dL_law_370 : decode cL_law 370 = .ok (.invokevirtual 25, 3) := by decide +kernel
theorem dL_law_373 : decode cL_law 373 = .ok (.aload_n 2, 1) := by decide +kernel
theorem dL_law_374 : decode cL_law 374 = .ok (.aload_n 0, 1) := by decide +kernel
theorem dL_law_375 : decode cL_law 375 = .ok (.iload_n 3, 1) := by decide +kernel
theorem dL_law_376 : decode cL_law 376 = .ok (.iconst 1, 1) := by decide +kernel
theorem dL_law_377 : decode cL_law 377 = .ok (.iadd, 1) := by decide +kernel
theorem dL_law_378 : decode cL_law 378 = .ok (.iaload, 1) := by decide +kernel
theorem dL_law_379 : decode cL_law 379 = .ok (.aload_n 0, 1) := by decide +kernel
theorem dL_law_380 : decode cL_law 380 = .ok (.iload_n 3, 1) := by decide +kernel
theorem dL_law_381 : decode cL_law 381 = .ok (.iconst 2, 1) := by decide +kernel
theorem dL_law_382 : decode cL_law 382 = .ok (.iadd, 1) := by decide +kernel
theorem dL_law_383 : decode cL_law 383 = .ok (.iaload, 1) := by decide +kernel
theorem dL_law_384 : decode cL_law 384 = .ok (.aload_n 0, 1) := by decide +kernel
theorem dL_law_385 : decode cL_law 385 = .ok (.iload_n 3, 1) := by decide +kernel
theorem dL_law_386 : decode cL_law 386 = .ok (.iconst 3, 1) := by decide +kernel
theorem dL_law_387 : decode cL_law 387 = .ok (.iadd, 1) := by decide +kernel
theorem dL_law_388 : decode cL_law 388 = .ok (.iaload, 1) := by decide +kernel
theorem dL_law_389 : decode cL_law 389 = .ok (.aload_n 0, 1) := by decide +kernel
theorem dL_law_390 : decode cL_law 390 = .ok (.iload_n 3, 1) := by decide +kernel
theorem dL_law_391 : decode cL_law 391 = .ok (.iconst 4, 1) := by decide +kernel
theorem dL_law_392 : decode cL_law 392 = .ok (.iadd, 1) := by decide +kernel
theorem dL_law_393 : decode cL_law 393 = .ok (.iaload, 1) := by decide +kernel
theorem dL_law_394 : decode cL_law 394 = .ok (.aload_n 0, 1) := by decide +kernel
theorem dL_law_395 : decode cL_law 395 = .ok (.iload_n 3, 1) := by decide +kernel
theorem dL_law_396 : decode cL_law 396 = .ok (.iconst 5, 1) := by decide +kernel
theorem dL_law_397 : decode cL_law 397 = .ok (.iadd, 1) := by decide +kernel
theorem dL_law_398 : decode cL_law 398 = .ok (.iaload, 1) := by decide +kernel
theorem dL_law_399 : decode cL_law 399 = .ok (.invokevirtual 29, 3) := by decide +kernel
theorem dL_law_402 : decode cL_law 402 = .ok (.if_icmp .eq 1158, 3) := by decide +kernel
theorem dL_law_405 : decode cL_law 405 = .ok (.iconst 0, 1) := by decide +kernel
theorem dL_law_406 : decode cL_law 406 = .ok (.ireturn, 1) := by decide +kernel
theorem dL_law_407 : decode cL_law 407 = .ok (.aload_n 1, 1) := by decide +kernel
theorem dL_law_408 : decode cL_law 408 = .ok (.aload_n 0, 1) := by decide +kernel
theorem dL_law_409 : decode cL_law 409 = .ok (.iload_n 3, 1) := by decide +kernel
theorem dL_law_410 : decode cL_law 410 = .ok (.iconst 1, 1) := by decide +kernel
theorem dL_law_411 : decode cL_law 411 = .ok (.iadd, 1) := by decide +kernel
theorem dL_law_412 : decode cL_law 412 = .ok (.iaload, 1) := by decide +kernel
theorem dL_law_413 : decode cL_law 413 = .ok (.aload_n 0, 1) := by decide +kernel
theorem dL_law_414 : decode cL_law 414 = .ok (.iload_n 3, 1) := by decide +kernel
theorem dL_law_415 : decode cL_law 415 = .ok (.iconst 2, 1) := by decide +kernel
theorem dL_law_416 : decode cL_law 416 = .ok (.iadd, 1) := by decide +kernel
theorem dL_law_417 : decode cL_law 417 = .ok (.iaload, 1) := by decide +kernel
theorem dL_law_418 : decode cL_law 418 = .ok (.invokevirtual 30, 3) := by decide +kernel
theorem dL_law_421 : decode cL_law 421 = .ok (.aload_n 2, 1) := by decide +kernel
theorem dL_law_422 : decode cL_law 422 = .ok (.aload_n 0, 1) := by decide +kernel
theorem dL_law_423 : decode cL_law 423 = .ok (.iload_n 3, 1) := by decide +kernel
theorem dL_law_424 : decode cL_law 424 = .ok (.iconst 1, 1) := by decide +kernel
theorem dL_law_425 : decode cL_law 425 = .ok (.iadd, 1) := by decide +kernel
theorem dL_law_426 : decode cL_law 426 = .ok (.iaload, 1) := by decide +kernel
theorem dL_law_427 : decode cL_law 427 = .ok (.aload_n 0, 1) := by decide +kernel
theorem dL_law_428 : decode cL_law 428 = .ok (.iload_n 3, 1) := by decide +kernel
theorem dL_law_429 : decode cL_law 429 = .ok (.iconst 2, 1) := by decide +kernel
theorem dL_law_430 : decode cL_law 430 = .ok (.iadd, 1) := by decide +kernel
theorem dL_law_431 : decode cL_law 431 = .ok (.iaload, 1) := by decide +kernel
theorem dL_law_432 : decode cL_law 432 = .ok (.invokevirtual 34, 3) := by decide +kernel
theorem dL_law_435 : decode cL_law 435 = .ok (.lcmp, 1) := by decide +kernel
theorem dL_law_436 : decode cL_law 436 = .ok (.ifCond .eq 1124, 3) := by decide +kernel
theorem dL_law_439 : decode cL_law 439 = .ok (.iconst 0, 1) := by decide +kernel
theorem dL_law_440 : decode cL_law 440 = .ok (.ireturn, 1) := by decide +kernel
theorem dL_law_441 : decode cL_law 441 = .ok (.aload_n 1, 1) := by decide +kernel
theorem dL_law_442 : decode cL_law 442 = .ok (.aload_n 0, 1) := by decide +kernel
theorem dL_law_443 : decode cL_law 443 = .ok (.iload_n 3, 1) := by decide +kernel
theorem dL_law_444 : decode cL_law 444 = .ok (.iconst 1, 1) := by decide +kernel
theorem dL_law_445 : decode cL_law 445 = .ok (.iadd, 1) := by decide +kernel
theorem dL_law_446 : decode cL_law 446 = .ok (.iaload, 1) := by decide +kernel
theorem dL_law_447 : decode cL_law 447 = .ok (.invokevirtual 35, 3) := by decide +kernel
theorem dL_law_450 : decode cL_law 450 = .ok (.aload_n 2, 1) := by decide +kernel
theorem dL_law_451 : decode cL_law 451 = .ok (.aload_n 0, 1) := by decide +kernel
theorem dL_law_452 : decode cL_law 452 = .ok (.iload_n 3, 1) := by decide +kernel
theorem dL_law_453 : decode cL_law 453 = .ok (.iconst 1, 1) := by decide +kernel
theorem dL_law_454 : decode cL_law 454 = .ok (.iadd, 1) := by decide +kernel
theorem dL_law_455 : decode cL_law 455 = .ok (.iaload, 1) := by decide +kernel
theorem dL_law_456 : decode cL_law 456 = .ok (.invokevirtual 39, 3) := by decide +kernel
theorem dL_law_459 : decode cL_law 459 = .ok (.if_icmp .eq 1101, 3) := by decide +kernel
theorem dL_law_462 : decode cL_law 462 = .ok (.iconst 0, 1) := by decide +kernel
theorem dL_law_463 : decode cL_law 463 = .ok (.ireturn, 1) := by decide +kernel
theorem dL_law_464 : decode cL_law 464 = .ok (.aload_n 1, 1) := by decide +kernel
theorem dL_law_465 : decode cL_law 465 = .ok (.aload_n 0, 1) := by decide +kernel
theorem dL_law_466 : decode cL_law 466 = .ok (.iload_n 3, 1) := by decide +kernel
theorem dL_law_467 : decode cL_law 467 = .ok (.iconst 1, 1) := by decide +kernel
theorem dL_law_468 : decode cL_law 468 = .ok (.iadd, 1) := by decide +kernel
theorem dL_law_469 : decode cL_law 469 = .ok (.iaload, 1) := by decide +kernel
theorem dL_law_470 : decode cL_law 470 = .ok (.aload_n 0, 1) := by decide +kernel
theorem dL_law_471 : decode cL_law 471 = .ok (.iload_n 3, 1) := by decide +kernel
theorem dL_law_472 : decode cL_law 472 = .ok (.iconst 2, 1) := by decide +kernel
theorem dL_law_473 : decode cL_law 473 = .ok (.iadd, 1) := by decide +kernel
theorem dL_law_474 : decode cL_law 474 = .ok (.iaload, 1) := by decide +kernel
theorem dL_law_475 : decode cL_law 475 = .ok (.invokevirtual 40, 3) := by decide +kernel
theorem dL_law_478 : decode cL_law 478 = .ok (.aload_n 2, 1) := by decide +kernel
theorem dL_law_479 : decode cL_law 479 = .ok (.aload_n 0, 1) := by decide +kernel
theorem dL_law_480 : decode cL_law 480 = .ok (.iload_n 3, 1) := by decide +kernel
theorem dL_law_481 : decode cL_law 481 = .ok (.iconst 1, 1) := by decide +kernel
theorem dL_law_482 : decode cL_law 482 = .ok (.iadd, 1) := by decide +kernel
theorem dL_law_483 : decode cL_law 483 = .ok (.iaload, 1) := by decide +kernel
theorem dL_law_484 : decode cL_law 484 = .ok (.aload_n 0, 1) := by decide +kernel
theorem dL_law_485 : decode cL_law 485 = .ok (.iload_n 3, 1) := by decide +kernel
theorem dL_law_486 : decode cL_law 486 = .ok (.iconst 2, 1) := by decide +kernel
theorem dL_law_487 : decode cL_law 487 = .ok (.iadd, 1) := by decide +kernel
theorem dL_law_488 : decode cL_law 488 = .ok (.iaload, 1) := by decide +kernel
theorem dL_law_489 : decode cL_law 489 = .ok (.invokevirtual 44, 3) := by decide +kernel
theorem dL_law_492 : decode cL_law 492 = .ok (.if_icmp .eq 1068, 3) := by decide +kernel
theorem dL_law_495 : decode cL_law 495 = .ok (.iconst 0, 1) := by decide +kernel
theorem dL_law_496 : decode cL_law 496 = .ok (.ireturn, 1) := by decide +kernel
theorem dL_law_497 : decode cL_law 497 = .ok (.aload_n 1, 1) := by decide +kernel
theorem dL_law_498 : decode cL_law 498 = .ok (.aload_n 0, 1) := by decide +kernel
theorem dL_law_499 : decode cL_law 499 = .ok (.iload_n 3, 1) := by decide +kernel
theorem dL_law_500 : decode cL_law 500 = .ok (.iconst 1, 1) := by decide +kernel
theorem dL_law_501 : decode cL_law 501 = .ok (.iadd, 1) := by decide +kernel
theorem dL_law_502 : decode cL_law 502 = .ok (.iaload, 1) := by decide +kernel
theorem dL_law_503 : decode cL_law 503 = .ok (.aload_n 0, 1) := by decide +kernel
theorem dL_law_504 : decode cL_law 504 = .ok (.iload_n 3, 1) := by decide +kernel
theorem dL_law_505 : decode cL_law 505 = .ok (.iconst 2, 1) := by decide +kernel
theorem dL_law_506 : decode cL_law 506 = .ok (.iadd, 1) := by decide +kernel
theorem dL_law_507 : decode cL_law 507 = .ok (.iaload, 1) := by decide +kernel
theorem dL_law_508 : decode cL_law 508 = .ok (.invokevirtual 45, 3) := by decide +kernel
theorem dL_law_511 : decode cL_law 511 = .ok (.aload_n 2, 1) := by decide +kernel
theorem dL_law_512 : decode cL_law 512 = .ok (.aload_n 0, 1) := by decide +kernel
theorem dL_law_513 : decode cL_law 513 = .ok (.iload_n 3, 1) := by decide +kernel
theorem dL_law_514 : decode cL_law 514 = .ok (.iconst 1, 1) := by decide +kernel
theorem dL_law_515 : decode cL_law 515 = .ok (.iadd, 1) := by decide +kernel
theorem dL_law_516 : decode cL_law 516 = .ok (.iaload, 1) := by decide +kernel
theorem dL_law_517 : decode cL_law 517 = .ok (.aload_n 0, 1) := by decide +kernel
theorem dL_law_518 : decode cL_law 518 = .ok (.iload_n 3, 1) := by decide +kernel
theorem dL_law_519 : decode cL_law 519 = .ok (.iconst 2, 1) := by decide +kernel
theorem dL_law_520 : decode cL_law 520 = .ok (.iadd, 1) := by decide +kernel
theorem dL_law_521 : decode cL_law 521 = .ok (.iaload, 1) := by decide +kernel
theorem dL_law_522 : decode cL_law 522 = .ok (.invokevirtual 48, 3) := by decide +kernel
theorem dL_law_525 : decode cL_law 525 = .ok (.if_icmp .eq 1035, 3) := by decide +kernel
theorem dL_law_528 : decode cL_law 528 = .ok (.iconst 0, 1) := by decide +kernel
theorem dL_law_529 : decode cL_law 529 = .ok (.ireturn, 1) := by decide +kernel
theorem dL_law_530 : decode cL_law 530 = .ok (.aload_n 1, 1) := by decide +kernel
theorem dL_law_531 : decode cL_law 531 = .ok (.aload_n 0, 1) := by decide +kernel
theorem dL_law_532 : decode cL_law 532 = .ok (.iload_n 3, 1) := by decide +kernel
theorem dL_law_533 : decode cL_law 533 = .ok (.iconst 1, 1) := by decide +kernel
theorem dL_law_534 : decode cL_law 534 = .ok (.iadd, 1) := by decide +kernel
theorem dL_law_535 : decode cL_law 535 = .ok (.iaload, 1) := by decide +kernel
theorem dL_law_536 : decode cL_law 536 = .ok (.aload_n 0, 1) := by decide +kernel
theorem dL_law_537 : decode cL_law 537 = .ok (.iload_n 3, 1) := by decide +kernel
theorem dL_law_538 : decode cL_law 538 = .ok (.iconst 2, 1) := by decide +kernel
theorem dL_law_539 : decode cL_law 539 = .ok (.iadd, 1) := by decide +kernel
theorem dL_law_540 : decode cL_law 540 = .ok (.iaload, 1) := by decide +kernel
theorem dL_law_541 : decode cL_law 541 = .ok (.aload_n 0, 1) := by decide +kernel
theorem dL_law_542 : decode cL_law 542 = .ok (.iload_n 3, 1) := by decide +kernel
theorem dL_law_543 : decode cL_law 543 = .ok (.iconst 3, 1) := by decide +kernel
theorem dL_law_544 : decode cL_law 544 = .ok (.iadd, 1) := by decide +kernel
theorem dL_law_545 : decode cL_law 545 = .ok (.iaload, 1) := by decide +kernel
theorem dL_law_546 : decode cL_law 546 = .ok (.invokevirtual 49, 3) := by decide +kernel
theorem dL_law_549 : decode cL_law 549 = .ok (.aload_n 2, 1) := by decide +kernel
theorem dL_law_550 : decode cL_law 550 = .ok (.aload_n 0, 1) := by decide +kernel
theorem dL_law_551 : decode cL_law 551 = .ok (.iload_n 3, 1) := by decide +kernel
theorem dL_law_552 : decode cL_law 552 = .ok (.iconst 1, 1) := by decide +kernel
theorem dL_law_553 : decode cL_law 553 = .ok (.iadd, 1) := by decide +kernel
theorem dL_law_554 : decode cL_law 554 = .ok (.iaload, 1) := by decide +kernel
theorem dL_law_555 : decode cL_law 555 = .ok (.aload_n 0, 1) := by decide +kernel
theorem dL_law_556 : decode cL_law 556 = .ok (.iload_n 3, 1) := by decide +kernel
theorem dL_law_557 : decode cL_law 557 = .ok (.iconst 2, 1) := by decide +kernel
theorem dL_law_558 : decode cL_law 558 = .ok (.iadd, 1) := by decide +kernel
theorem dL_law_559 : decode cL_law 559 = .ok (.iaload, 1) := by decide +kernel
theorem dL_law_560 : decode cL_law 560 = .ok (.aload_n 0, 1) := by decide +kernel
theorem dL_law_561 : decode cL_law 561 = .ok (.iload_n 3, 1) := by decide +kernel
theorem dL_law_562 : decode cL_law 562 = .ok (.iconst 3, 1) := by decide +kernel
theorem dL_law_563 : decode cL_law 563 = .ok (.iadd, 1) := by decide +kernel
theorem dL_law_564 : decode cL_law 564 = .ok (.iaload, 1) := by decide +kernel
theorem dL_law_565 : decode cL_law 565 = .ok (.invokevirtual 52, 3) := by decide +kernel
theorem dL_law_568 : decode cL_law 568 = .ok (.if_icmp .eq 992, 3) := by decide +kernel
theorem dL_law_571 : decode cL_law 571 = .ok (.iconst 0, 1) := by decide +kernel
theorem dL_law_572 : decode cL_law 572 = .ok (.ireturn, 1) := by decide +kernel
theorem dL_law_573 : decode cL_law 573 = .ok (.aload_n 1, 1) := by decide +kernel
theorem dL_law_574 : decode cL_law 574 = .ok (.aload_n 0, 1) := by decide +kernel
theorem dL_law_575 : decode cL_law 575 = .ok (.iload_n 3, 1) := by decide +kernel
theorem dL_law_576 : decode cL_law 576 = .ok (.iconst 1, 1) := by decide +kernel
theorem dL_law_577 : decode cL_law 577 = .ok (.iadd, 1) := by decide +kernel
theorem dL_law_578 : decode cL_law 578 = .ok (.iaload, 1) := by decide +kernel
theorem dL_law_579 : decode cL_law 579 = .ok (.invokevirtual 53, 3) := by decide +kernel
theorem dL_law_582 : decode cL_law 582 = .ok (.aload_n 2, 1) := by decide +kernel
theorem dL_law_583 : decode cL_law 583 = .ok (.aload_n 0, 1) := by decide +kernel
theorem dL_law_584 : decode cL_law 584 = .ok (.iload_n 3, 1) := by decide +kernel
theorem dL_law_585 : decode cL_law 585 = .ok (.iconst 1, 1) := by decide +kernel
theorem dL_law_586 : decode cL_law 586 = .ok (.iadd, 1) := by decide +kernel
theorem dL_law_587 : decode cL_law 587 = .ok (.iaload, 1) := by decide +kernel
theorem dL_law_588 : decode cL_law 588 = .ok (.invokevirtual 56, 3) := by decide +kernel
theorem dL_law_591 : decode cL_law 591 = .ok (.if_icmp .eq 969, 3) := by decide +kernel
theorem dL_law_594 : decode cL_law 594 = .ok (.iconst 0, 1) := by decide +kernel
theorem dL_law_595 : decode cL_law 595 = .ok (.ireturn, 1) := by decide +kernel
theorem dL_law_596 : decode cL_law 596 = .ok (.aload_n 1, 1) := by decide +kernel
theorem dL_law_597 : decode cL_law 597 = .ok (.aload_n 0, 1) := by decide +kernel
theorem dL_law_598 : decode cL_law 598 = .ok (.iload_n 3, 1) := by decide +kernel
theorem dL_law_599 : decode cL_law 599 = .ok (.iconst 1, 1) := by decide +kernel
theorem dL_law_600 : decode cL_law 600 = .ok (.iadd, 1) := by decide +kernel
theorem dL_law_601 : decode cL_law 601 = .ok (.iaload, 1) := by decide +kernel
theorem dL_law_602 : decode cL_law 602 = .ok (.aload_n 0, 1) := by decide +kernel
theorem dL_law_603 : decode cL_law 603 = .ok (.iload_n 3, 1) := by decide +kernel
theorem dL_law_604 : decode cL_law 604 = .ok (.iconst 2, 1) := by decide +kernel
theorem dL_law_605 : decode cL_law 605 = .ok (.iadd, 1) := by decide +kernel
theorem dL_law_606 : decode cL_law 606 = .ok (.iaload, 1) := by decide +kernel
theorem dL_law_607 : decode cL_law 607 = .ok (.invokevirtual 57, 3) := by decide +kernel
theorem dL_law_610 : decode cL_law 610 = .ok (.aload_n 2, 1) := by decide +kernel
theorem dL_law_611 : decode cL_law 611 = .ok (.aload_n 0, 1) := by decide +kernel
theorem dL_law_612 : decode cL_law 612 = .ok (.iload_n 3, 1) := by decide +kernel
theorem dL_law_613 : decode cL_law 613 = .ok (.iconst 1, 1) := by decide +kernel
theorem dL_law_614 : decode cL_law 614 = .ok (.iadd, 1) := by decide +kernel
theorem dL_law_615 : decode cL_law 615 = .ok (.iaload, 1) := by decide +kernel
theorem dL_law_616 : decode cL_law 616 = .ok (.aload_n 0, 1) := by decide +kernel
theorem dL_law_617 : decode cL_law 617 = .ok (.iload_n 3, 1) := by decide +kernel
theorem dL_law_618 : decode cL_law 618 = .ok (.iconst 2, 1) := by decide +kernel
theorem dL_law_619 : decode cL_law 619 = .ok (.iadd, 1) := by decide +kernel
theorem dL_law_620 : decode cL_law 620 = .ok (.iaload, 1) := by decide +kernel
theorem dL_law_621 : decode cL_law 621 = .ok (.invokevirtual 60, 3) := by decide +kernel
theorem dL_law_624 : decode cL_law 624 = .ok (.if_icmp .eq 936, 3) := by decide +kernel
theorem dL_law_627 : decode cL_law 627 = .ok (.iconst 0, 1) := by decide +kernel
theorem dL_law_628 : decode cL_law 628 = .ok (.ireturn, 1) := by decide +kernel
theorem dL_law_629 : decode cL_law 629 = .ok (.aload_n 1, 1) := by decide +kernel
theorem dL_law_630 : decode cL_law 630 = .ok (.aload_n 0, 1) := by decide +kernel
theorem dL_law_631 : decode cL_law 631 = .ok (.iload_n 3, 1) := by decide +kernel
theorem dL_law_632 : decode cL_law 632 = .ok (.iconst 1, 1) := by decide +kernel
theorem dL_law_633 : decode cL_law 633 = .ok (.iadd, 1) := by decide +kernel
theorem dL_law_634 : decode cL_law 634 = .ok (.iaload, 1) := by decide +kernel
theorem dL_law_635 : decode cL_law 635 = .ok (.aload_n 0, 1) := by decide +kernel
theorem dL_law_636 : decode cL_law 636 = .ok (.iload_n 3, 1) := by decide +kernel
theorem dL_law_637 : decode cL_law 637 = .ok (.iconst 2, 1) := by decide +kernel
theorem dL_law_638 : decode cL_law 638 = .ok (.iadd, 1) := by decide +kernel
theorem dL_law_639 : decode cL_law 639 = .ok (.iaload, 1) := by decide +kernel
theorem dL_law_640 : decode cL_law 640 = .ok (.ifCond .eq 7, 3) := by decide +kernel
theorem dL_law_643 : decode cL_law 643 = .ok (.iconst 1, 1) := by decide +kernel
theorem dL_law_644 : decode cL_law 644 = .ok (.goto 4, 3) := by decide +kernel
theorem dL_law_647 : decode cL_law 647 = .ok (.iconst 0, 1) := by decide +kernel
theorem dL_law_648 : decode cL_law 648 = .ok (.invokevirtual 61, 3) := by decide +kernel
theorem dL_law_651 : decode cL_law 651 = .ok (.aload_n 2, 1) := by decide +kernel
theorem dL_law_652 : decode cL_law 652 = .ok (.aload_n 0, 1) := by decide +kernel
theorem dL_law_653 : decode cL_law 653 = .ok (.iload_n 3, 1) := by decide +kernel
theorem dL_law_654 : decode cL_law 654 = .ok (.iconst 1, 1) := by decide +kernel
theorem dL_law_655 : decode cL_law 655 = .ok (.iadd, 1) := by decide +kernel
theorem dL_law_656 : decode cL_law 656 = .ok (.iaload, 1) := by decide +kernel
theorem dL_law_657 : decode cL_law 657 = .ok (.aload_n 0, 1) := by decide +kernel
theorem dL_law_658 : decode cL_law 658 = .ok (.iload_n 3, 1) := by decide +kernel
theorem dL_law_659 : decode cL_law 659 = .ok (.iconst 2, 1) := by decide +kernel
theorem dL_law_660 : decode cL_law 660 = .ok (.iadd, 1) := by decide +kernel
theorem dL_law_661 : decode cL_law 661 = .ok (.iaload, 1) := by decide +kernel
theorem dL_law_662 : decode cL_law 662 = .ok (.ifCond .eq 7, 3) := by decide +kernel
theorem dL_law_665 : decode cL_law 665 = .ok (.iconst 1, 1) := by decide +kernel
theorem dL_law_666 : decode cL_law 666 = .ok (.goto 4, 3) := by decide +kernel
theorem dL_law_669 : decode cL_law 669 = .ok (.iconst 0, 1) := by decide +kernel
theorem dL_law_670 : decode cL_law 670 = .ok (.invokevirtual 65, 3) := by decide +kernel
theorem dL_law_673 : decode cL_law 673 = .ok (.if_icmp .eq 887, 3) := by decide +kernel
theorem dL_law_676 : decode cL_law 676 = .ok (.iconst 0, 1) := by decide +kernel
theorem dL_law_677 : decode cL_law 677 = .ok (.ireturn, 1) := by decide +kernel
theorem dL_law_678 : decode cL_law 678 = .ok (.aload_n 1, 1) := by decide +kernel
theorem dL_law_679 : decode cL_law 679 = .ok (.aload_n 0, 1) := by decide +kernel
theorem dL_law_680 : decode cL_law 680 = .ok (.iload_n 3, 1) := by decide +kernel
theorem dL_law_681 : decode cL_law 681 = .ok (.iconst 1, 1) := by decide +kernel
theorem dL_law_682 : decode cL_law 682 = .ok (.iadd, 1) := by decide +kernel
theorem dL_law_683 : decode cL_law 683 = .ok (.iaload, 1) := by decide +kernel
theorem dL_law_684 : decode cL_law 684 = .ok (.aload_n 0, 1) := by decide +kernel
theorem dL_law_685 : decode cL_law 685 = .ok (.iload_n 3, 1) := by decide +kernel
theorem dL_law_686 : decode cL_law 686 = .ok (.iconst 2, 1) := by decide +kernel
theorem dL_law_687 : decode cL_law 687 = .ok (.iadd, 1) := by decide +kernel
theorem dL_law_688 : decode cL_law 688 = .ok (.iaload, 1) := by decide +kernel
theorem dL_law_689 : decode cL_law 689 = .ok (.invokevirtual 66, 3) := by decide +kernel
theorem dL_law_692 : decode cL_law 692 = .ok (.aload_n 2, 1) := by decide +kernel
theorem dL_law_693 : decode cL_law 693 = .ok (.aload_n 0, 1) := by decide +kernel
theorem dL_law_694 : decode cL_law 694 = .ok (.iload_n 3, 1) := by decide +kernel
theorem dL_law_695 : decode cL_law 695 = .ok (.iconst 1, 1) := by decide +kernel
theorem dL_law_696 : decode cL_law 696 = .ok (.iadd, 1) := by decide +kernel
theorem dL_law_697 : decode cL_law 697 = .ok (.iaload, 1) := by decide +kernel
theorem dL_law_698 : decode cL_law 698 = .ok (.aload_n 0, 1) := by decide +kernel
theorem dL_law_699 : decode cL_law 699 = .ok (.iload_n 3, 1) := by decide +kernel
theorem dL_law_700 : decode cL_law 700 = .ok (.iconst 2, 1) := by decide +kernel
theorem dL_law_701 : decode cL_law 701 = .ok (.iadd, 1) := by decide +kernel
theorem dL_law_702 : decode cL_law 702 = .ok (.iaload, 1) := by decide +kernel
theorem dL_law_703 : decode cL_law 703 = .ok (.invokevirtual 69, 3) := by decide +kernel
theorem dL_law_706 : decode cL_law 706 = .ok (.if_icmp .eq 854, 3) := by decide +kernel
theorem dL_law_709 : decode cL_law 709 = .ok (.iconst 0, 1) := by decide +kernel
theorem dL_law_710 : decode cL_law 710 = .ok (.ireturn, 1) := by decide +kernel
theorem dL_law_711 : decode cL_law 711 = .ok (.aload_n 1, 1) := by decide +kernel
theorem dL_law_712 : decode cL_law 712 = .ok (.aload_n 0, 1) := by decide +kernel
theorem dL_law_713 : decode cL_law 713 = .ok (.iload_n 3, 1) := by decide +kernel
theorem dL_law_714 : decode cL_law 714 = .ok (.iconst 1, 1) := by decide +kernel
theorem dL_law_715 : decode cL_law 715 = .ok (.iadd, 1) := by decide +kernel
theorem dL_law_716 : decode cL_law 716 = .ok (.iaload, 1) := by decide +kernel
theorem dL_law_717 : decode cL_law 717 = .ok (.aload_n 0, 1) := by decide +kernel
theorem dL_law_718 : decode cL_law 718 = .ok (.iload_n 3, 1) := by decide +kernel
theorem dL_law_719 : decode cL_law 719 = .ok (.iconst 2, 1) := by decide +kernel
theorem dL_law_720 : decode cL_law 720 = .ok (.iadd, 1) := by decide +kernel
theorem dL_law_721 : decode cL_law 721 = .ok (.iaload, 1) := by decide +kernel
theorem dL_law_722 : decode cL_law 722 = .ok (.invokevirtual 70, 3) := by decide +kernel
theorem dL_law_725 : decode cL_law 725 = .ok (.aload_n 2, 1) := by decide +kernel
theorem dL_law_726 : decode cL_law 726 = .ok (.aload_n 0, 1) := by decide +kernel
theorem dL_law_727 : decode cL_law 727 = .ok (.iload_n 3, 1) := by decide +kernel
theorem dL_law_728 : decode cL_law 728 = .ok (.iconst 1, 1) := by decide +kernel
theorem dL_law_729 : decode cL_law 729 = .ok (.iadd, 1) := by decide +kernel
theorem dL_law_730 : decode cL_law 730 = .ok (.iaload, 1) := by decide +kernel
theorem dL_law_731 : decode cL_law 731 = .ok (.aload_n 0, 1) := by decide +kernel
theorem dL_law_732 : decode cL_law 732 = .ok (.iload_n 3, 1) := by decide +kernel
theorem dL_law_733 : decode cL_law 733 = .ok (.iconst 2, 1) := by decide +kernel
theorem dL_law_734 : decode cL_law 734 = .ok (.iadd, 1) := by decide +kernel
theorem dL_law_735 : decode cL_law 735 = .ok (.iaload, 1) := by decide +kernel
theorem dL_law_736 : decode cL_law 736 = .ok (.invokevirtual 73, 3) := by decide +kernel
theorem dL_law_739 : decode cL_law 739 = .ok (.if_icmp .eq 821, 3) := by decide +kernel
theorem dL_law_742 : decode cL_law 742 = .ok (.iconst 0, 1) := by decide +kernel
theorem dL_law_743 : decode cL_law 743 = .ok (.ireturn, 1) := by decide +kernel
theorem dL_law_744 : decode cL_law 744 = .ok (.aload_n 1, 1) := by decide +kernel
theorem dL_law_745 : decode cL_law 745 = .ok (.invokevirtual 74, 3) := by decide +kernel
theorem dL_law_748 : decode cL_law 748 = .ok (.aload_n 2, 1) := by decide +kernel
theorem dL_law_749 : decode cL_law 749 = .ok (.invokevirtual 78, 3) := by decide +kernel
theorem dL_law_752 : decode cL_law 752 = .ok (.if_icmp .eq 808, 3) := by decide +kernel
theorem dL_law_755 : decode cL_law 755 = .ok (.iconst 0, 1) := by decide +kernel
theorem dL_law_756 : decode cL_law 756 = .ok (.ireturn, 1) := by decide +kernel
theorem dL_law_757 : decode cL_law 757 = .ok (.aload_n 1, 1) := by decide +kernel
theorem dL_law_758 : decode cL_law 758 = .ok (.invokevirtual 79, 3) := by decide +kernel
theorem dL_law_761 : decode cL_law 761 = .ok (.aload_n 2, 1) := by decide +kernel
theorem dL_law_762 : decode cL_law 762 = .ok (.invokevirtual 82, 3) := by decide +kernel
theorem dL_law_765 : decode cL_law 765 = .ok (.if_icmp .eq 795, 3) := by decide +kernel
theorem dL_law_768 : decode cL_law 768 = .ok (.iconst 0, 1) := by decide +kernel
theorem dL_law_769 : decode cL_law 769 = .ok (.ireturn, 1) := by decide +kernel
theorem dL_law_770 : decode cL_law 770 = .ok (.aload_n 1, 1) := by decide +kernel
theorem dL_law_771 : decode cL_law 771 = .ok (.aload_n 0, 1) := by decide +kernel
theorem dL_law_772 : decode cL_law 772 = .ok (.iload_n 3, 1) := by decide +kernel
theorem dL_law_773 : decode cL_law 773 = .ok (.iconst 1, 1) := by decide +kernel
theorem dL_law_774 : decode cL_law 774 = .ok (.iadd, 1) := by decide +kernel
theorem dL_law_775 : decode cL_law 775 = .ok (.iaload, 1) := by decide +kernel
theorem dL_law_776 : decode cL_law 776 = .ok (.aload_n 0, 1) := by decide +kernel
theorem dL_law_777 : decode cL_law 777 = .ok (.iload_n 3, 1) := by decide +kernel
theorem dL_law_778 : decode cL_law 778 = .ok (.iconst 2, 1) := by decide +kernel
theorem dL_law_779 : decode cL_law 779 = .ok (.iadd, 1) := by decide +kernel
theorem dL_law_780 : decode cL_law 780 = .ok (.iaload, 1) := by decide +kernel
theorem dL_law_781 : decode cL_law 781 = .ok (.invokevirtual 83, 3) := by decide +kernel
theorem dL_law_784 : decode cL_law 784 = .ok (.aload_n 2, 1) := by decide +kernel
theorem dL_law_785 : decode cL_law 785 = .ok (.aload_n 0, 1) := by decide +kernel
theorem dL_law_786 : decode cL_law 786 = .ok (.iload_n 3, 1) := by decide +kernel
theorem dL_law_787 : decode cL_law 787 = .ok (.iconst 1, 1) := by decide +kernel
theorem dL_law_788 : decode cL_law 788 = .ok (.iadd, 1) := by decide +kernel
theorem dL_law_789 : decode cL_law 789 = .ok (.iaload, 1) := by decide +kernel
theorem dL_law_790 : decode cL_law 790 = .ok (.aload_n 0, 1) := by decide +kernel
theorem dL_law_791 : decode cL_law 791 = .ok (.iload_n 3, 1) := by decide +kernel
theorem dL_law_792 : decode cL_law 792 = .ok (.iconst 2, 1) := by decide +kernel
theorem dL_law_793 : decode cL_law 793 = .ok (.iadd, 1) := by decide +kernel
theorem dL_law_794 : decode cL_law 794 = .ok (.iaload, 1) := by decide +kernel
theorem dL_law_795 : decode cL_law 795 = .ok (.invokevirtual 86, 3) := by decide +kernel
theorem dL_law_798 : decode cL_law 798 = .ok (.if_icmp .eq 762, 3) := by decide +kernel
theorem dL_law_801 : decode cL_law 801 = .ok (.iconst 0, 1) := by decide +kernel
theorem dL_law_802 : decode cL_law 802 = .ok (.ireturn, 1) := by decide +kernel
theorem dL_law_803 : decode cL_law 803 = .ok (.aload_n 1, 1) := by decide +kernel
theorem dL_law_804 : decode cL_law 804 = .ok (.aload_n 0, 1) := by decide +kernel
theorem dL_law_805 : decode cL_law 805 = .ok (.iload_n 3, 1) := by decide +kernel
theorem dL_law_806 : decode cL_law 806 = .ok (.iconst 1, 1) := by decide +kernel
theorem dL_law_807 : decode cL_law 807 = .ok (.iadd, 1) := by decide +kernel
theorem dL_law_808 : decode cL_law 808 = .ok (.iaload, 1) := by decide +kernel
theorem dL_law_809 : decode cL_law 809 = .ok (.invokevirtual 87, 3) := by decide +kernel
theorem dL_law_812 : decode cL_law 812 = .ok (.aload_n 2, 1) := by decide +kernel
theorem dL_law_813 : decode cL_law 813 = .ok (.aload_n 0, 1) := by decide +kernel
theorem dL_law_814 : decode cL_law 814 = .ok (.iload_n 3, 1) := by decide +kernel
theorem dL_law_815 : decode cL_law 815 = .ok (.iconst 1, 1) := by decide +kernel
theorem dL_law_816 : decode cL_law 816 = .ok (.iadd, 1) := by decide +kernel
theorem dL_law_817 : decode cL_law 817 = .ok (.iaload, 1) := by decide +kernel
theorem dL_law_818 : decode cL_law 818 = .ok (.invokevirtual 90, 3) := by decide +kernel
theorem dL_law_821 : decode cL_law 821 = .ok (.if_icmp .eq 739, 3) := by decide +kernel
theorem dL_law_824 : decode cL_law 824 = .ok (.iconst 0, 1) := by decide +kernel
theorem dL_law_825 : decode cL_law 825 = .ok (.ireturn, 1) := by decide +kernel
theorem dL_law_826 : decode cL_law 826 = .ok (.aload_n 1, 1) := by decide +kernel
theorem dL_law_827 : decode cL_law 827 = .ok (.aload_n 0, 1) := by decide +kernel
theorem dL_law_828 : decode cL_law 828 = .ok (.iload_n 3, 1) := by decide +kernel
theorem dL_law_829 : decode cL_law 829 = .ok (.iconst 1, 1) := by decide +kernel
theorem dL_law_830 : decode cL_law 830 = .ok (.iadd, 1) := by decide +kernel
theorem dL_law_831 : decode cL_law 831 = .ok (.iaload, 1) := by decide +kernel
theorem dL_law_832 : decode cL_law 832 = .ok (.aload_n 0, 1) := by decide +kernel
theorem dL_law_833 : decode cL_law 833 = .ok (.iload_n 3, 1) := by decide +kernel
theorem dL_law_834 : decode cL_law 834 = .ok (.iconst 2, 1) := by decide +kernel
theorem dL_law_835 : decode cL_law 835 = .ok (.iadd, 1) := by decide +kernel
theorem dL_law_836 : decode cL_law 836 = .ok (.iaload, 1) := by decide +kernel
theorem dL_law_837 : decode cL_law 837 = .ok (.invokevirtual 91, 3) := by decide +kernel
theorem dL_law_840 : decode cL_law 840 = .ok (.aload_n 2, 1) := by decide +kernel
theorem dL_law_841 : decode cL_law 841 = .ok (.aload_n 0, 1) := by decide +kernel
theorem dL_law_842 : decode cL_law 842 = .ok (.iload_n 3, 1) := by decide +kernel
theorem dL_law_843 : decode cL_law 843 = .ok (.iconst 1, 1) := by decide +kernel
theorem dL_law_844 : decode cL_law 844 = .ok (.iadd, 1) := by decide +kernel
theorem dL_law_845 : decode cL_law 845 = .ok (.iaload, 1) := by decide +kernel
theorem dL_law_846 : decode cL_law 846 = .ok (.aload_n 0, 1) := by decide +kernel
theorem dL_law_847 : decode cL_law 847 = .ok (.iload_n 3, 1) := by decide +kernel
theorem dL_law_848 : decode cL_law 848 = .ok (.iconst 2, 1) := by decide +kernel
theorem dL_law_849 : decode cL_law 849 = .ok (.iadd, 1) := by decide +kernel
theorem dL_law_850 : decode cL_law 850 = .ok (.iaload, 1) := by decide +kernel
theorem dL_law_851 : decode cL_law 851 = .ok (.invokevirtual 94, 3) := by decide +kernel
theorem dL_law_854 : decode cL_law 854 = .ok (.if_icmp .eq 706, 3) := by decide +kernel
theorem dL_law_857 : decode cL_law 857 = .ok (.iconst 0, 1) := by decide +kernel
theorem dL_law_858 : decode cL_law 858 = .ok (.ireturn, 1) := by decide +kernel
theorem dL_law_859 : decode cL_law 859 = .ok (.aload_n 1, 1) := by decide +kernel
theorem dL_law_860 : decode cL_law 860 = .ok (.aload_n 0, 1) := by decide +kernel
theorem dL_law_861 : decode cL_law 861 = .ok (.iload_n 3, 1) := by decide +kernel
theorem dL_law_862 : decode cL_law 862 = .ok (.iconst 1, 1) := by decide +kernel
theorem dL_law_863 : decode cL_law 863 = .ok (.iadd, 1) := by decide +kernel
theorem dL_law_864 : decode cL_law 864 = .ok (.iaload, 1) := by decide +kernel
theorem dL_law_865 : decode cL_law 865 = .ok (.aload_n 0, 1) := by decide +kernel
theorem dL_law_866 : decode cL_law 866 = .ok (.iload_n 3, 1) := by decide +kernel
theorem dL_law_867 : decode cL_law 867 = .ok (.iconst 2, 1) := by decide +kernel
theorem dL_law_868 : decode cL_law 868 = .ok (.iadd, 1) := by decide +kernel
theorem dL_law_869 : decode cL_law 869 = .ok (.iaload, 1) := by decide +kernel
theorem dL_law_870 : decode cL_law 870 = .ok (.aload_n 0, 1) := by decide +kernel
theorem dL_law_871 : decode cL_law 871 = .ok (.iload_n 3, 1) := by decide +kernel
theorem dL_law_872 : decode cL_law 872 = .ok (.iconst 3, 1) := by decide +kernel
theorem dL_law_873 : decode cL_law 873 = .ok (.iadd, 1) := by decide +kernel
theorem dL_law_874 : decode cL_law 874 = .ok (.iaload, 1) := by decide +kernel
theorem dL_law_875 : decode cL_law 875 = .ok (.invokevirtual 95, 3) := by decide +kernel
theorem dL_law_878 : decode cL_law 878 = .ok (.aload_n 2, 1) := by decide +kernel
theorem dL_law_879 : decode cL_law 879 = .ok (.aload_n 0, 1) := by decide +kernel
theorem dL_law_880 : decode cL_law 880 = .ok (.iload_n 3, 1) := by decide +kernel
theorem dL_law_881 : decode cL_law 881 = .ok (.iconst 1, 1) := by decide +kernel
theorem dL_law_882 : decode cL_law 882 = .ok (.iadd, 1) := by decide +kernel
theorem dL_law_883 : decode cL_law 883 = .ok (.iaload, 1) := by decide +kernel
theorem dL_law_884 : decode cL_law 884 = .ok (.aload_n 0, 1) := by decide +kernel
theorem dL_law_885 : decode cL_law 885 = .ok (.iload_n 3, 1) := by decide +kernel
theorem dL_law_886 : decode cL_law 886 = .ok (.iconst 2, 1) := by decide +kernel
theorem dL_law_887 : decode cL_law 887 = .ok (.iadd, 1) := by decide +kernel
theorem dL_law_888 : decode cL_law 888 = .ok (.iaload, 1) := by decide +kernel
theorem dL_law_889 : decode cL_law 889 = .ok (.aload_n 0, 1) := by decide +kernel
theorem dL_law_890 : decode cL_law 890 = .ok (.iload_n 3, 1) := by decide +kernel
theorem dL_law_891 : decode cL_law 891 = .ok (.iconst 3, 1) := by decide +kernel
theorem dL_law_892 : decode cL_law 892 = .ok (.iadd, 1) := by decide +kernel
theorem dL_law_893 : decode cL_law 893 = .ok (.iaload, 1) := by decide +kernel
theorem dL_law_894 : decode cL_law 894 = .ok (.invokevirtual 98, 3) := by decide +kernel
theorem dL_law_897 : decode cL_law 897 = .ok (.if_icmp .eq 663, 3) := by decide +kernel
theorem dL_law_900 : decode cL_law 900 = .ok (.iconst 0, 1) := by decide +kernel
theorem dL_law_901 : decode cL_law 901 = .ok (.ireturn, 1) := by decide +kernel
theorem dL_law_902 : decode cL_law 902 = .ok (.aload_n 1, 1) := by decide +kernel
theorem dL_law_903 : decode cL_law 903 = .ok (.aload_n 0, 1) := by decide +kernel
theorem dL_law_904 : decode cL_law 904 = .ok (.iload_n 3, 1) := by decide +kernel
theorem dL_law_905 : decode cL_law 905 = .ok (.iconst 1, 1) := by decide +kernel
theorem dL_law_906 : decode cL_law 906 = .ok (.iadd, 1) := by decide +kernel
theorem dL_law_907 : decode cL_law 907 = .ok (.iaload, 1) := by decide +kernel
theorem dL_law_908 : decode cL_law 908 = .ok (.aload_n 0, 1) := by decide +kernel
theorem dL_law_909 : decode cL_law 909 = .ok (.iload_n 3, 1) := by decide +kernel
theorem dL_law_910 : decode cL_law 910 = .ok (.iconst 2, 1) := by decide +kernel
theorem dL_law_911 : decode cL_law 911 = .ok (.iadd, 1) := by decide +kernel
theorem dL_law_912 : decode cL_law 912 = .ok (.iaload, 1) := by decide +kernel
theorem dL_law_913 : decode cL_law 913 = .ok (.aload_n 0, 1) := by decide +kernel
theorem dL_law_914 : decode cL_law 914 = .ok (.iload_n 3, 1) := by decide +kernel
theorem dL_law_915 : decode cL_law 915 = .ok (.iconst 3, 1) := by decide +kernel
theorem dL_law_916 : decode cL_law 916 = .ok (.iadd, 1) := by decide +kernel
theorem dL_law_917 : decode cL_law 917 = .ok (.iaload, 1) := by decide +kernel
theorem dL_law_918 : decode cL_law 918 = .ok (.invokevirtual 99, 3) := by decide +kernel
theorem dL_law_921 : decode cL_law 921 = .ok (.aload_n 2, 1) := by decide +kernel
theorem dL_law_922 : decode cL_law 922 = .ok (.aload_n 0, 1) := by decide +kernel
theorem dL_law_923 : decode cL_law 923 = .ok (.iload_n 3, 1) := by decide +kernel
theorem dL_law_924 : decode cL_law 924 = .ok (.iconst 1, 1) := by decide +kernel
theorem dL_law_925 : decode cL_law 925 = .ok (.iadd, 1) := by decide +kernel
theorem dL_law_926 : decode cL_law 926 = .ok (.iaload, 1) := by decide +kernel
theorem dL_law_927 : decode cL_law 927 = .ok (.aload_n 0, 1) := by decide +kernel
theorem dL_law_928 : decode cL_law 928 = .ok (.iload_n 3, 1) := by decide +kernel
theorem dL_law_929 : decode cL_law 929 = .ok (.iconst 2, 1) := by decide +kernel
theorem dL_law_930 : decode cL_law 930 = .ok (.iadd, 1) := by decide +kernel
theorem dL_law_931 : decode cL_law 931 = .ok (.iaload, 1) := by decide +kernel
theorem dL_law_932 : decode cL_law 932 = .ok (.aload_n 0, 1) := by decide +kernel
theorem dL_law_933 : decode cL_law 933 = .ok (.iload_n 3, 1) := by decide +kernel
theorem dL_law_934 : decode cL_law 934 = .ok (.iconst 3, 1) := by decide +kernel
theorem dL_law_935 : decode cL_law 935 = .ok (.iadd, 1) := by decide +kernel
theorem dL_law_936 : decode cL_law 936 = .ok (.iaload, 1) := by decide +kernel
theorem dL_law_937 : decode cL_law 937 = .ok (.invokevirtual 102, 3) := by decide +kernel
theorem dL_law_940 : decode cL_law 940 = .ok (.if_icmp .eq 620, 3) := by decide +kernel
theorem dL_law_943 : decode cL_law 943 = .ok (.iconst 0, 1) := by decide +kernel
theorem dL_law_944 : decode cL_law 944 = .ok (.ireturn, 1) := by decide +kernel
theorem dL_law_945 : decode cL_law 945 = .ok (.aload_n 1, 1) := by decide +kernel
theorem dL_law_946 : decode cL_law 946 = .ok (.aload_n 0, 1) := by decide +kernel
theorem dL_law_947 : decode cL_law 947 = .ok (.iload_n 3, 1) := by decide +kernel
theorem dL_law_948 : decode cL_law 948 = .ok (.iconst 1, 1) := by decide +kernel
theorem dL_law_949 : decode cL_law 949 = .ok (.iadd, 1) := by decide +kernel
theorem dL_law_950 : decode cL_law 950 = .ok (.iaload, 1) := by decide +kernel
theorem dL_law_951 : decode cL_law 951 = .ok (.aload_n 0, 1) := by decide +kernel
theorem dL_law_952 : decode cL_law 952 = .ok (.iload_n 3, 1) := by decide +kernel
theorem dL_law_953 : decode cL_law 953 = .ok (.iconst 2, 1) := by decide +kernel
theorem dL_law_954 : decode cL_law 954 = .ok (.iadd, 1) := by decide +kernel
theorem dL_law_955 : decode cL_law 955 = .ok (.iaload, 1) := by decide +kernel
theorem dL_law_956 : decode cL_law 956 = .ok (.aload_n 0, 1) := by decide +kernel
theorem dL_law_957 : decode cL_law 957 = .ok (.iload_n 3, 1) := by decide +kernel
theorem dL_law_958 : decode cL_law 958 = .ok (.iconst 3, 1) := by decide +kernel
theorem dL_law_959 : decode cL_law 959 = .ok (.iadd, 1) := by decide +kernel
theorem dL_law_960 : decode cL_law 960 = .ok (.iaload, 1) := by decide +kernel
theorem dL_law_961 : decode cL_law 961 = .ok (.invokevirtual 103, 3) := by decide +kernel
theorem dL_law_964 : decode cL_law 964 = .ok (.aload_n 2, 1) := by decide +kernel
theorem dL_law_965 : decode cL_law 965 = .ok (.aload_n 0, 1) := by decide +kernel
theorem dL_law_966 : decode cL_law 966 = .ok (.iload_n 3, 1) := by decide +kernel
theorem dL_law_967 : decode cL_law 967 = .ok (.iconst 1, 1) := by decide +kernel
theorem dL_law_968 : decode cL_law 968 = .ok (.iadd, 1) := by decide +kernel
theorem dL_law_969 : decode cL_law 969 = .ok (.iaload, 1) := by decide +kernel
theorem dL_law_970 : decode cL_law 970 = .ok (.aload_n 0, 1) := by decide +kernel
theorem dL_law_971 : decode cL_law 971 = .ok (.iload_n 3, 1) := by decide +kernel
theorem dL_law_972 : decode cL_law 972 = .ok (.iconst 2, 1) := by decide +kernel
theorem dL_law_973 : decode cL_law 973 = .ok (.iadd, 1) := by decide +kernel
theorem dL_law_974 : decode cL_law 974 = .ok (.iaload, 1) := by decide +kernel
theorem dL_law_975 : decode cL_law 975 = .ok (.aload_n 0, 1) := by decide +kernel
theorem dL_law_976 : decode cL_law 976 = .ok (.iload_n 3, 1) := by decide +kernel
theorem dL_law_977 : decode cL_law 977 = .ok (.iconst 3, 1) := by decide +kernel
theorem dL_law_978 : decode cL_law 978 = .ok (.iadd, 1) := by decide +kernel
theorem dL_law_979 : decode cL_law 979 = .ok (.iaload, 1) := by decide +kernel
theorem dL_law_980 : decode cL_law 980 = .ok (.invokevirtual 106, 3) := by decide +kernel
theorem dL_law_983 : decode cL_law 983 = .ok (.if_icmp .eq 577, 3) := by decide +kernel
theorem dL_law_986 : decode cL_law 986 = .ok (.iconst 0, 1) := by decide +kernel
theorem dL_law_987 : decode cL_law 987 = .ok (.ireturn, 1) := by decide +kernel
theorem dL_law_988 : decode cL_law 988 = .ok (.aload_n 1, 1) := by decide +kernel
theorem dL_law_989 : decode cL_law 989 = .ok (.aload_n 0, 1) := by decide +kernel
theorem dL_law_990 : decode cL_law 990 = .ok (.iload_n 3, 1) := by decide +kernel
theorem dL_law_991 : decode cL_law 991 = .ok (.iconst 1, 1) := by decide +kernel
theorem dL_law_992 : decode cL_law 992 = .ok (.iadd, 1) := by decide +kernel
theorem dL_law_993 : decode cL_law 993 = .ok (.iaload, 1) := by decide +kernel
theorem dL_law_994 : decode cL_law 994 = .ok (.aload_n 0, 1) := by decide +kernel
theorem dL_law_995 : decode cL_law 995 = .ok (.iload_n 3, 1) := by decide +kernel
theorem dL_law_996 : decode cL_law 996 = .ok (.iconst 2, 1) := by decide +kernel
theorem dL_law_997 : decode cL_law 997 = .ok (.iadd, 1) := by decide +kernel
theorem dL_law_998 : decode cL_law 998 = .ok (.iaload, 1) := by decide +kernel
theorem dL_law_999 : decode cL_law 999 = .ok (.invokevirtual 107, 3) := by decide +kernel
theorem dL_law_1002 : decode cL_law 1002 = .ok (.aload_n 2, 1) := by decide +kernel
theorem dL_law_1003 : decode cL_law 1003 = .ok (.aload_n 0, 1) := by decide +kernel
theorem dL_law_1004 : decode cL_law 1004 = .ok (.iload_n 3, 1) := by decide +kernel
theorem dL_law_1005 : decode cL_law 1005 = .ok (.iconst 1, 1) := by decide +kernel
theorem dL_law_1006 : decode cL_law 1006 = .ok (.iadd, 1) := by decide +kernel
theorem dL_law_1007 : decode cL_law 1007 = .ok (.iaload, 1) := by decide +kernel
theorem dL_law_1008 : decode cL_law 1008 = .ok (.aload_n 0, 1) := by decide +kernel
theorem dL_law_1009 : decode cL_law 1009 = .ok (.iload_n 3, 1) := by decide +kernel
theorem dL_law_1010 : decode cL_law 1010 = .ok (.iconst 2, 1) := by decide +kernel
theorem dL_law_1011 : decode cL_law 1011 = .ok (.iadd, 1) := by decide +kernel
theorem dL_law_1012 : decode cL_law 1012 = .ok (.iaload, 1) := by decide +kernel
theorem dL_law_1013 : decode cL_law 1013 = .ok (.invokevirtual 110, 3) := by decide +kernel
theorem dL_law_1016 : decode cL_law 1016 = .ok (.if_icmp .eq 544, 3) := by decide +kernel
theorem dL_law_1019 : decode cL_law 1019 = .ok (.iconst 0, 1) := by decide +kernel
theorem dL_law_1020 : decode cL_law 1020 = .ok (.ireturn, 1) := by decide +kernel
theorem dL_law_1021 : decode cL_law 1021 = .ok (.aload_n 1, 1) := by decide +kernel
theorem dL_law_1022 : decode cL_law 1022 = .ok (.aload_n 0, 1) := by decide +kernel
theorem dL_law_1023 : decode cL_law 1023 = .ok (.iload_n 3, 1) := by decide +kernel
theorem dL_law_1024 : decode cL_law 1024 = .ok (.iconst 1, 1) := by decide +kernel
theorem dL_law_1025 : decode cL_law 1025 = .ok (.iadd, 1) := by decide +kernel
theorem dL_law_1026 : decode cL_law 1026 = .ok (.iaload, 1) := by decide +kernel
theorem dL_law_1027 : decode cL_law 1027 = .ok (.aload_n 0, 1) := by decide +kernel
theorem dL_law_1028 : decode cL_law 1028 = .ok (.iload_n 3, 1) := by decide +kernel
theorem dL_law_1029 : decode cL_law 1029 = .ok (.iconst 2, 1) := by decide +kernel
theorem dL_law_1030 : decode cL_law 1030 = .ok (.iadd, 1) := by decide +kernel
theorem dL_law_1031 : decode cL_law 1031 = .ok (.iaload, 1) := by decide +kernel
theorem dL_law_1032 : decode cL_law 1032 = .ok (.invokevirtual 111, 3) := by decide +kernel
theorem dL_law_1035 : decode cL_law 1035 = .ok (.aload_n 2, 1) := by decide +kernel
theorem dL_law_1036 : decode cL_law 1036 = .ok (.aload_n 0, 1) := by decide +kernel
theorem dL_law_1037 : decode cL_law 1037 = .ok (.iload_n 3, 1) := by decide +kernel
theorem dL_law_1038 : decode cL_law 1038 = .ok (.iconst 1, 1) := by decide +kernel
theorem dL_law_1039 : decode cL_law 1039 = .ok (.iadd, 1) := by decide +kernel
theorem dL_law_1040 : decode cL_law 1040 = .ok (.iaload, 1) := by decide +kernel
theorem dL_law_1041 : decode cL_law 1041 = .ok (.aload_n 0, 1) := by decide +kernel
theorem dL_law_1042 : decode cL_law 1042 = .ok (.iload_n 3, 1) := by decide +kernel
theorem dL_law_1043 : decode cL_law 1043 = .ok (.iconst 2, 1) := by decide +kernel
theorem dL_law_1044 : decode cL_law 1044 = .ok (.iadd, 1) := by decide +kernel
theorem dL_law_1045 : decode cL_law 1045 = .ok (.iaload, 1) := by decide +kernel
theorem dL_law_1046 : decode cL_law 1046 = .ok (.invokevirtual 114, 3) := by decide +kernel
theorem dL_law_1049 : decode cL_law 1049 = .ok (.if_icmp .eq 511, 3) := by decide +kernel
theorem dL_law_1052 : decode cL_law 1052 = .ok (.iconst 0, 1) := by decide +kernel
theorem dL_law_1053 : decode cL_law 1053 = .ok (.ireturn, 1) := by decide +kernel
theorem dL_law_1054 : decode cL_law 1054 = .ok (.aload_n 1, 1) := by decide +kernel
theorem dL_law_1055 : decode cL_law 1055 = .ok (.aload_n 0, 1) := by decide +kernel
theorem dL_law_1056 : decode cL_law 1056 = .ok (.iload_n 3, 1) := by decide +kernel
theorem dL_law_1057 : decode cL_law 1057 = .ok (.iconst 1, 1) := by decide +kernel
theorem dL_law_1058 : decode cL_law 1058 = .ok (.iadd, 1) := by decide +kernel
theorem dL_law_1059 : decode cL_law 1059 = .ok (.iaload, 1) := by decide +kernel
theorem dL_law_1060 : decode cL_law 1060 = .ok (.aload_n 0, 1) := by decide +kernel
theorem dL_law_1061 : decode cL_law 1061 = .ok (.iload_n 3, 1) := by decide +kernel
theorem dL_law_1062 : decode cL_law 1062 = .ok (.iconst 2, 1) := by decide +kernel
theorem dL_law_1063 : decode cL_law 1063 = .ok (.iadd, 1) := by decide +kernel
theorem dL_law_1064 : decode cL_law 1064 = .ok (.iaload, 1) := by decide +kernel
theorem dL_law_1065 : decode cL_law 1065 = .ok (.aload_n 0, 1) := by decide +kernel
theorem dL_law_1066 : decode cL_law 1066 = .ok (.iload_n 3, 1) := by decide +kernel
theorem dL_law_1067 : decode cL_law 1067 = .ok (.iconst 3, 1) := by decide +kernel
theorem dL_law_1068 : decode cL_law 1068 = .ok (.iadd, 1) := by decide +kernel
theorem dL_law_1069 : decode cL_law 1069 = .ok (.iaload, 1) := by decide +kernel
theorem dL_law_1070 : decode cL_law 1070 = .ok (.invokevirtual 115, 3) := by decide +kernel
theorem dL_law_1073 : decode cL_law 1073 = .ok (.aload_n 2, 1) := by decide +kernel
theorem dL_law_1074 : decode cL_law 1074 = .ok (.aload_n 0, 1) := by decide +kernel
theorem dL_law_1075 : decode cL_law 1075 = .ok (.iload_n 3, 1) := by decide +kernel
theorem dL_law_1076 : decode cL_law 1076 = .ok (.iconst 1, 1) := by decide +kernel
theorem dL_law_1077 : decode cL_law 1077 = .ok (.iadd, 1) := by decide +kernel
theorem dL_law_1078 : decode cL_law 1078 = .ok (.iaload, 1) := by decide +kernel
theorem dL_law_1079 : decode cL_law 1079 = .ok (.aload_n 0, 1) := by decide +kernel
theorem dL_law_1080 : decode cL_law 1080 = .ok (.iload_n 3, 1) := by decide +kernel
theorem dL_law_1081 : decode cL_law 1081 = .ok (.iconst 2, 1) := by decide +kernel
theorem dL_law_1082 : decode cL_law 1082 = .ok (.iadd, 1) := by decide +kernel
theorem dL_law_1083 : decode cL_law 1083 = .ok (.iaload, 1) := by decide +kernel
theorem dL_law_1084 : decode cL_law 1084 = .ok (.aload_n 0, 1) := by decide +kernel
theorem dL_law_1085 : decode cL_law 1085 = .ok (.iload_n 3, 1) := by decide +kernel
theorem dL_law_1086 : decode cL_law 1086 = .ok (.iconst 3, 1) := by decide +kernel
theorem dL_law_1087 : decode cL_law 1087 = .ok (.iadd, 1) := by decide +kernel
theorem dL_law_1088 : decode cL_law 1088 = .ok (.iaload, 1) := by decide +kernel
theorem dL_law_1089 : decode cL_law 1089 = .ok (.invokevirtual 118, 3) := by decide +kernel
theorem dL_law_1092 : decode cL_law 1092 = .ok (.if_icmp .eq 468, 3) := by decide +kernel
theorem dL_law_1095 : decode cL_law 1095 = .ok (.iconst 0, 1) := by decide +kernel
theorem dL_law_1096 : decode cL_law 1096 = .ok (.ireturn, 1) := by decide +kernel
theorem dL_law_1097 : decode cL_law 1097 = .ok (.aload_n 1, 1) := by decide +kernel
theorem dL_law_1098 : decode cL_law 1098 = .ok (.aload_n 0, 1) := by decide +kernel
theorem dL_law_1099 : decode cL_law 1099 = .ok (.iload_n 3, 1) := by decide +kernel
theorem dL_law_1100 : decode cL_law 1100 = .ok (.iconst 1, 1) := by decide +kernel
theorem dL_law_1101 : decode cL_law 1101 = .ok (.iadd, 1) := by decide +kernel
theorem dL_law_1102 : decode cL_law 1102 = .ok (.iaload, 1) := by decide +kernel
theorem dL_law_1103 : decode cL_law 1103 = .ok (.invokevirtual 119, 3) := by decide +kernel
theorem dL_law_1106 : decode cL_law 1106 = .ok (.aload_n 2, 1) := by decide +kernel
theorem dL_law_1107 : decode cL_law 1107 = .ok (.aload_n 0, 1) := by decide +kernel
theorem dL_law_1108 : decode cL_law 1108 = .ok (.iload_n 3, 1) := by decide +kernel
theorem dL_law_1109 : decode cL_law 1109 = .ok (.iconst 1, 1) := by decide +kernel
theorem dL_law_1110 : decode cL_law 1110 = .ok (.iadd, 1) := by decide +kernel
theorem dL_law_1111 : decode cL_law 1111 = .ok (.iaload, 1) := by decide +kernel
theorem dL_law_1112 : decode cL_law 1112 = .ok (.invokevirtual 122, 3) := by decide +kernel
theorem dL_law_1115 : decode cL_law 1115 = .ok (.if_icmp .eq 445, 3) := by decide +kernel
theorem dL_law_1118 : decode cL_law 1118 = .ok (.iconst 0, 1) := by decide +kernel
theorem dL_law_1119 : decode cL_law 1119 = .ok (.ireturn, 1) := by decide +kernel
theorem dL_law_1120 : decode cL_law 1120 = .ok (.aload_n 1, 1) := by decide +kernel
theorem dL_law_1121 : decode cL_law 1121 = .ok (.invokevirtual 123, 3) := by decide +kernel
theorem dL_law_1124 : decode cL_law 1124 = .ok (.aload_n 2, 1) := by decide +kernel
theorem dL_law_1125 : decode cL_law 1125 = .ok (.invokevirtual 126, 3) := by decide +kernel
theorem dL_law_1128 : decode cL_law 1128 = .ok (.if_icmp .eq 432, 3) := by decide +kernel
theorem dL_law_1131 : decode cL_law 1131 = .ok (.iconst 0, 1) := by decide +kernel
theorem dL_law_1132 : decode cL_law 1132 = .ok (.ireturn, 1) := by decide +kernel
theorem dL_law_1133 : decode cL_law 1133 = .ok (.aload_n 1, 1) := by decide +kernel
theorem dL_law_1134 : decode cL_law 1134 = .ok (.aload_n 0, 1) := by decide +kernel
theorem dL_law_1135 : decode cL_law 1135 = .ok (.iload_n 3, 1) := by decide +kernel
theorem dL_law_1136 : decode cL_law 1136 = .ok (.iconst 1, 1) := by decide +kernel
theorem dL_law_1137 : decode cL_law 1137 = .ok (.iadd, 1) := by decide +kernel
theorem dL_law_1138 : decode cL_law 1138 = .ok (.iaload, 1) := by decide +kernel
theorem dL_law_1139 : decode cL_law 1139 = .ok (.aload_n 0, 1) := by decide +kernel
theorem dL_law_1140 : decode cL_law 1140 = .ok (.iload_n 3, 1) := by decide +kernel
theorem dL_law_1141 : decode cL_law 1141 = .ok (.iconst 2, 1) := by decide +kernel
theorem dL_law_1142 : decode cL_law 1142 = .ok (.iadd, 1) := by decide +kernel
theorem dL_law_1143 : decode cL_law 1143 = .ok (.iaload, 1) := by decide +kernel
theorem dL_law_1144 : decode cL_law 1144 = .ok (.invokevirtual 127, 3) := by decide +kernel
theorem dL_law_1147 : decode cL_law 1147 = .ok (.aload_n 2, 1) := by decide +kernel
theorem dL_law_1148 : decode cL_law 1148 = .ok (.aload_n 0, 1) := by decide +kernel
theorem dL_law_1149 : decode cL_law 1149 = .ok (.iload_n 3, 1) := by decide +kernel
theorem dL_law_1150 : decode cL_law 1150 = .ok (.iconst 1, 1) := by decide +kernel
theorem dL_law_1151 : decode cL_law 1151 = .ok (.iadd, 1) := by decide +kernel
theorem dL_law_1152 : decode cL_law 1152 = .ok (.iaload, 1) := by decide +kernel
theorem dL_law_1153 : decode cL_law 1153 = .ok (.aload_n 0, 1) := by decide +kernel
theorem dL_law_1154 : decode cL_law 1154 = .ok (.iload_n 3, 1) := by decide +kernel
theorem dL_law_1155 : decode cL_law 1155 = .ok (.iconst 2, 1) := by decide +kernel
theorem dL_law_1156 : decode cL_law 1156 = .ok (.iadd, 1) := by decide +kernel
theorem dL_law_1157 : decode cL_law 1157 = .ok (.iaload, 1) := by decide +kernel
theorem dL_law_1158 : decode cL_law 1158 = .ok (.invokevirtual 130, 3) := by decide +kernel
theorem dL_law_1161 : decode cL_law 1161 = .ok (.if_icmp .eq 399, 3) := by decide +kernel
theorem dL_law_1164 : decode cL_law 1164 = .ok (.iconst 0, 1) := by decide +kernel
theorem dL_law_1165 : decode cL_law 1165 = .ok (.ireturn, 1) := by decide +kernel
theorem dL_law_1166 : decode cL_law 1166 = .ok (.aload_n 1, 1) := by decide +kernel
theorem dL_law_1167 : decode cL_law 1167 = .ok (.aload_n 0, 1) := by decide +kernel
theorem dL_law_1168 : decode cL_law 1168 = .ok (.iload_n 3, 1) := by decide +kernel
theorem dL_law_1169 : decode cL_law 1169 = .ok (.iconst 1, 1) := by decide +kernel
theorem dL_law_1170 : decode cL_law 1170 = .ok (.iadd, 1) := by decide +kernel
theorem dL_law_1171 : decode cL_law 1171 = .ok (.iaload, 1) := by decide +kernel
theorem dL_law_1172 : decode cL_law 1172 = .ok (.invokevirtual 131, 3) := by decide +kernel
theorem dL_law_1175 : decode cL_law 1175 = .ok (.aload_n 2, 1) := by decide +kernel
theorem dL_law_1176 : decode cL_law 1176 = .ok (.aload_n 0, 1) := by decide +kernel
theorem dL_law_1177 : decode cL_law 1177 = .ok (.iload_n 3, 1) := by decide +kernel
theorem dL_law_1178 : decode cL_law 1178 = .ok (.iconst 1, 1) := by decide +kernel
theorem dL_law_1179 : decode cL_law 1179 = .ok (.iadd, 1) := by decide +kernel
theorem dL_law_1180 : decode cL_law 1180 = .ok (.iaload, 1) := by decide +kernel
theorem dL_law_1181 : decode cL_law 1181 = .ok (.invokevirtual 134, 3) := by decide +kernel
theorem dL_law_1184 : decode cL_law 1184 = .ok (.if_icmp .eq 376, 3) := by decide +kernel
theorem dL_law_1187 : decode cL_law 1187 = .ok (.iconst 0, 1) := by decide +kernel
theorem dL_law_1188 : decode cL_law 1188 = .ok (.ireturn, 1) := by decide +kernel
theorem dL_law_1189 : decode cL_law 1189 = .ok (.aload_n 1, 1) := by decide +kernel
theorem dL_law_1190 : decode cL_law 1190 = .ok (.aload_n 0, 1) := by decide +kernel
theorem dL_law_1191 : decode cL_law 1191 = .ok (.iload_n 3, 1) := by decide +kernel
theorem dL_law_1192 : decode cL_law 1192 = .ok (.iconst 1, 1) := by decide +kernel
theorem dL_law_1193 : decode cL_law 1193 = .ok (.iadd, 1) := by decide +kernel
theorem dL_law_1194 : decode cL_law 1194 = .ok (.iaload, 1) := by decide +kernel
theorem dL_law_1195 : decode cL_law 1195 = .ok (.aload_n 0, 1) := by decide +kernel
theorem dL_law_1196 : decode cL_law 1196 = .ok (.iload_n 3, 1) := by decide +kernel
theorem dL_law_1197 : decode cL_law 1197 = .ok (.iconst 2, 1) := by decide +kernel
theorem dL_law_1198 : decode cL_law 1198 = .ok (.iadd, 1) := by decide +kernel
theorem dL_law_1199 : decode cL_law 1199 = .ok (.iaload, 1) := by decide +kernel
theorem dL_law_1200 : decode cL_law 1200 = .ok (.invokevirtual 135, 3) := by decide +kernel
theorem dL_law_1203 : decode cL_law 1203 = .ok (.aload_n 2, 1) := by decide +kernel
theorem dL_law_1204 : decode cL_law 1204 = .ok (.aload_n 0, 1) := by decide +kernel
theorem dL_law_1205 : decode cL_law 1205 = .ok (.iload_n 3, 1) := by decide +kernel
theorem dL_law_1206 : decode cL_law 1206 = .ok (.iconst 1, 1) := by decide +kernel
theorem dL_law_1207 : decode cL_law 1207 = .ok (.iadd, 1) := by decide +kernel
theorem dL_law_1208 : decode cL_law 1208 = .ok (.iaload, 1) := by decide +kernel
theorem dL_law_1209 : decode cL_law 1209 = .ok (.aload_n 0, 1) := by decide +kernel
theorem dL_law_1210 : decode cL_law 1210 = .ok (.iload_n 3, 1) := by decide +kernel
theorem dL_law_1211 : decode cL_law 1211 = .ok (.iconst 2, 1) := by decide +kernel
theorem dL_law_1212 : decode cL_law 1212 = .ok (.iadd, 1) := by decide +kernel
theorem dL_law_1213 : decode cL_law 1213 = .ok (.iaload, 1) := by decide +kernel
theorem dL_law_1214 : decode cL_law 1214 = .ok (.invokevirtual 138, 3) := by decide +kernel
theorem dL_law_1217 : decode cL_law 1217 = .ok (.if_icmp .eq 343, 3) := by decide +kernel
theorem dL_law_1220 : decode cL_law 1220 = .ok (.iconst 0, 1) := by decide +kernel
theorem dL_law_1221 : decode cL_law 1221 = .ok (.ireturn, 1) := by decide +kernel
theorem dL_law_1222 : decode cL_law 1222 = .ok (.aload_n 1, 1) := by decide +kernel
theorem dL_law_1223 : decode cL_law 1223 = .ok (.aload_n 0, 1) := by decide +kernel
theorem dL_law_1224 : decode cL_law 1224 = .ok (.iload_n 3, 1) := by decide +kernel
theorem dL_law_1225 : decode cL_law 1225 = .ok (.iconst 1, 1) := by decide +kernel
theorem dL_law_1226 : decode cL_law 1226 = .ok (.iadd, 1) := by decide +kernel
theorem dL_law_1227 : decode cL_law 1227 = .ok (.iaload, 1) := by decide +kernel
theorem dL_law_1228 : decode cL_law 1228 = .ok (.aload_n 0, 1) := by decide +kernel
theorem dL_law_1229 : decode cL_law 1229 = .ok (.iload_n 3, 1) := by decide +kernel
theorem dL_law_1230 : decode cL_law 1230 = .ok (.iconst 2, 1) := by decide +kernel
theorem dL_law_1231 : decode cL_law 1231 = .ok (.iadd, 1) := by decide +kernel
theorem dL_law_1232 : decode cL_law 1232 = .ok (.iaload, 1) := by decide +kernel
theorem dL_law_1233 : decode cL_law 1233 = .ok (.aload_n 0, 1) := by decide +kernel
theorem dL_law_1234 : decode cL_law 1234 = .ok (.iload_n 3, 1) := by decide +kernel
theorem dL_law_1235 : decode cL_law 1235 = .ok (.iconst 3, 1) := by decide +kernel
theorem dL_law_1236 : decode cL_law 1236 = .ok (.iadd, 1) := by decide +kernel
theorem dL_law_1237 : decode cL_law 1237 = .ok (.iaload, 1) := by decide +kernel
theorem dL_law_1238 : decode cL_law 1238 = .ok (.invokevirtual 139, 3) := by decide +kernel
theorem dL_law_1241 : decode cL_law 1241 = .ok (.aload_n 2, 1) := by decide +kernel
theorem dL_law_1242 : decode cL_law 1242 = .ok (.aload_n 0, 1) := by decide +kernel
theorem dL_law_1243 : decode cL_law 1243 = .ok (.iload_n 3, 1) := by decide +kernel
theorem dL_law_1244 : decode cL_law 1244 = .ok (.iconst 1, 1) := by decide +kernel
theorem dL_law_1245 : decode cL_law 1245 = .ok (.iadd, 1) := by decide +kernel
theorem dL_law_1246 : decode cL_law 1246 = .ok (.iaload, 1) := by decide +kernel
theorem dL_law_1247 : decode cL_law 1247 = .ok (.aload_n 0, 1) := by decide +kernel
theorem dL_law_1248 : decode cL_law 1248 = .ok (.iload_n 3, 1) := by decide +kernel
theorem dL_law_1249 : decode cL_law 1249 = .ok (.iconst 2, 1) := by decide +kernel
theorem dL_law_1250 : decode cL_law 1250 = .ok (.iadd, 1) := by decide +kernel
theorem dL_law_1251 : decode cL_law 1251 = .ok (.iaload, 1) := by decide +kernel
theorem dL_law_1252 : decode cL_law 1252 = .ok (.aload_n 0, 1) := by decide +kernel
theorem dL_law_1253 : decode cL_law 1253 = .ok (.iload_n 3, 1) := by decide +kernel
theorem dL_law_1254 : decode cL_law 1254 = .ok (.iconst 3, 1) := by decide +kernel
theorem dL_law_1255 : decode cL_law 1255 = .ok (.iadd, 1) := by decide +kernel
theorem dL_law_1256 : decode cL_law 1256 = .ok (.iaload, 1) := by decide +kernel
theorem dL_law_1257 : decode cL_law 1257 = .ok (.invokevirtual 142, 3) := by decide +kernel
theorem dL_law_1260 : decode cL_law 1260 = .ok (.if_icmp .eq 300, 3) := by decide +kernel
theorem dL_law_1263 : decode cL_law 1263 = .ok (.iconst 0, 1) := by decide +kernel
theorem dL_law_1264 : decode cL_law 1264 = .ok (.ireturn, 1) := by decide +kernel
theorem dL_law_1265 : decode cL_law 1265 = .ok (.aload_n 1, 1) := by decide +kernel
theorem dL_law_1266 : decode cL_law 1266 = .ok (.invokevirtual 143, 3) := by decide +kernel
theorem dL_law_1269 : decode cL_law 1269 = .ok (.aload_n 2, 1) := by decide +kernel
theorem dL_law_1270 : decode cL_law 1270 = .ok (.invokevirtual 146, 3) := by decide +kernel
theorem dL_law_1273 : decode cL_law 1273 = .ok (.if_icmp .eq 287, 3) := by decide +kernel
theorem dL_law_1276 : decode cL_law 1276 = .ok (.iconst 0, 1) := by decide +kernel
theorem dL_law_1277 : decode cL_law 1277 = .ok (.ireturn, 1) := by decide +kernel
theorem dL_law_1278 : decode cL_law 1278 = .ok (.aload_n 1, 1) := by decide +kernel
theorem dL_law_1279 : decode cL_law 1279 = .ok (.invokevirtual 147, 3) := by decide +kernel
theorem dL_law_1282 : decode cL_law 1282 = .ok (.aload_n 2, 1) := by decide +kernel
theorem dL_law_1283 : decode cL_law 1283 = .ok (.invokevirtual 150, 3) := by decide +kernel
theorem dL_law_1286 : decode cL_law 1286 = .ok (.if_icmp .eq 274, 3) := by decide +kernel
theorem dL_law_1289 : decode cL_law 1289 = .ok (.iconst 0, 1) := by decide +kernel
theorem dL_law_1290 : decode cL_law 1290 = .ok (.ireturn, 1) := by decide +kernel
theorem dL_law_1291 : decode cL_law 1291 = .ok (.aload_n 1, 1) := by decide +kernel
theorem dL_law_1292 : decode cL_law 1292 = .ok (.invokevirtual 151, 3) := by decide +kernel
theorem dL_law_1295 : decode cL_law 1295 = .ok (.aload_n 2, 1) := by decide +kernel
theorem dL_law_1296 : decode cL_law 1296 = .ok (.invokevirtual 154, 3) := by decide +kernel
theorem dL_law_1299 : decode cL_law 1299 = .ok (.if_icmp .eq 261, 3) := by decide +kernel
theorem dL_law_1302 : decode cL_law 1302 = .ok (.iconst 0, 1) := by decide +kernel
theorem dL_law_1303 : decode cL_law 1303 = .ok (.ireturn, 1) := by decide +kernel
theorem dL_law_1304 : decode cL_law 1304 = .ok (.aload_n 1, 1) := by decide +kernel
theorem dL_law_1305 : decode cL_law 1305 = .ok (.aload_n 0, 1) := by decide +kernel
theorem dL_law_1306 : decode cL_law 1306 = .ok (.iload_n 3, 1) := by decide +kernel
theorem dL_law_1307 : decode cL_law 1307 = .ok (.iconst 1, 1) := by decide +kernel
theorem dL_law_1308 : decode cL_law 1308 = .ok (.iadd, 1) := by decide +kernel
theorem dL_law_1309 : decode cL_law 1309 = .ok (.iaload, 1) := by decide +kernel
theorem dL_law_1310 : decode cL_law 1310 = .ok (.invokevirtual 155, 3) := by decide +kernel
theorem dL_law_1313 : decode cL_law 1313 = .ok (.aload_n 2, 1) := by decide +kernel
theorem dL_law_1314 : decode cL_law 1314 = .ok (.aload_n 0, 1) := by decide +kernel
theorem dL_law_1315 : decode cL_law 1315 = .ok (.iload_n 3, 1) := by decide +kernel
theorem dL_law_1316 : decode cL_law 1316 = .ok (.iconst 1, 1) := by decide +kernel
theorem dL_law_1317 : decode cL_law 1317 = .ok (.iadd, 1) := by decide +kernel
theorem dL_law_1318 : decode cL_law 1318 = .ok (.iaload, 1) := by decide +kernel
theorem dL_law_1319 : decode cL_law 1319 = .ok (.invokevirtual 158, 3) := by decide +kernel
theorem dL_law_1322 : decode cL_law 1322 = .ok (.if_icmp .eq 238, 3) := by decide +kernel
theorem dL_law_1325 : decode cL_law 1325 = .ok (.iconst 0, 1) := by decide +kernel
theorem dL_law_1326 : decode cL_law 1326 = .ok (.ireturn, 1) := by decide +kernel
theorem dL_law_1327 : decode cL_law 1327 = .ok (.aload_n 1, 1) := by decide +kernel
theorem dL_law_1328 : decode cL_law 1328 = .ok (.invokevirtual 159, 3) := by decide +kernel
theorem dL_law_1331 : decode cL_law 1331 = .ok (.aload_n 2, 1) := by decide +kernel
theorem dL_law_1332 : decode cL_law 1332 = .ok (.invokevirtual 162, 3) := by decide +kernel
theorem dL_law_1335 : decode cL_law 1335 = .ok (.if_icmp .eq 225, 3) := by decide +kernel
theorem dL_law_1338 : decode cL_law 1338 = .ok (.iconst 0, 1) := by decide +kernel
theorem dL_law_1339 : decode cL_law 1339 = .ok (.ireturn, 1) := by decide +kernel
theorem dL_law_1340 : decode cL_law 1340 = .ok (.aload_n 1, 1) := by decide +kernel
theorem dL_law_1341 : decode cL_law 1341 = .ok (.invokevirtual 163, 3) := by decide +kernel
theorem dL_law_1344 : decode cL_law 1344 = .ok (.aload_n 2, 1) := by decide +kernel
theorem dL_law_1345 : decode cL_law 1345 = .ok (.invokevirtual 166, 3) := by decide +kernel
theorem dL_law_1348 : decode cL_law 1348 = .ok (.if_icmp .eq 212, 3) := by decide +kernel
theorem dL_law_1351 : decode cL_law 1351 = .ok (.iconst 0, 1) := by decide +kernel
theorem dL_law_1352 : decode cL_law 1352 = .ok (.ireturn, 1) := by decide +kernel
theorem dL_law_1353 : decode cL_law 1353 = .ok (.aload_n 1, 1) := by decide +kernel
theorem dL_law_1354 : decode cL_law 1354 = .ok (.aload_n 0, 1) := by decide +kernel
theorem dL_law_1355 : decode cL_law 1355 = .ok (.iload_n 3, 1) := by decide +kernel
theorem dL_law_1356 : decode cL_law 1356 = .ok (.iconst 1, 1) := by decide +kernel
theorem dL_law_1357 : decode cL_law 1357 = .ok (.iadd, 1) := by decide +kernel
theorem dL_law_1358 : decode cL_law 1358 = .ok (.iaload, 1) := by decide +kernel
theorem dL_law_1359 : decode cL_law 1359 = .ok (.invokevirtual 167, 3) := by decide +kernel
theorem dL_law_1362 : decode cL_law 1362 = .ok (.aload_n 2, 1) := by decide +kernel
theorem dL_law_1363 : decode cL_law 1363 = .ok (.aload_n 0, 1) := by decide +kernel
theorem dL_law_1364 : decode cL_law 1364 = .ok (.iload_n 3, 1) := by decide +kernel
theorem dL_law_1365 : decode cL_law 1365 = .ok (.iconst 1, 1) := by decide +kernel
theorem dL_law_1366 : decode cL_law 1366 = .ok (.iadd, 1) := by decide +kernel
theorem dL_law_1367 : decode cL_law 1367 = .ok (.iaload, 1) := by decide +kernel
theorem dL_law_1368 : decode cL_law 1368 = .ok (.invokevirtual 170, 3) := by decide +kernel
theorem dL_law_1371 : decode cL_law 1371 = .ok (.if_icmp .eq 189, 3) := by decide +kernel
theorem dL_law_1374 : decode cL_law 1374 = .ok (.iconst 0, 1) := by decide +kernel
theorem dL_law_1375 : decode cL_law 1375 = .ok (.ireturn, 1) := by decide +kernel
theorem dL_law_1376 : decode cL_law 1376 = .ok (.aload_n 1, 1) := by decide +kernel
theorem dL_law_1377 : decode cL_law 1377 = .ok (.aload_n 0, 1) := by decide +kernel
theorem dL_law_1378 : decode cL_law 1378 = .ok (.iload_n 3, 1) := by decide +kernel
theorem dL_law_1379 : decode cL_law 1379 = .ok (.iconst 1, 1) := by decide +kernel
theorem dL_law_1380 : decode cL_law 1380 = .ok (.iadd, 1) := by decide +kernel
theorem dL_law_1381 : decode cL_law 1381 = .ok (.iaload, 1) := by decide +kernel
theorem dL_law_1382 : decode cL_law 1382 = .ok (.aload_n 0, 1) := by decide +kernel
theorem dL_law_1383 : decode cL_law 1383 = .ok (.iload_n 3, 1) := by decide +kernel
theorem dL_law_1384 : decode cL_law 1384 = .ok (.iconst 2, 1) := by decide +kernel
theorem dL_law_1385 : decode cL_law 1385 = .ok (.iadd, 1) := by decide +kernel
theorem dL_law_1386 : decode cL_law 1386 = .ok (.iaload, 1) := by decide +kernel
theorem dL_law_1387 : decode cL_law 1387 = .ok (.invokevirtual 171, 3) := by decide +kernel
theorem dL_law_1390 : decode cL_law 1390 = .ok (.aload_n 2, 1) := by decide +kernel
theorem dL_law_1391 : decode cL_law 1391 = .ok (.aload_n 0, 1) := by decide +kernel
theorem dL_law_1392 : decode cL_law 1392 = .ok (.iload_n 3, 1) := by decide +kernel
theorem dL_law_1393 : decode cL_law 1393 = .ok (.iconst 1, 1) := by decide +kernel
theorem dL_law_1394 : decode cL_law 1394 = .ok (.iadd, 1) := by decide +kernel
theorem dL_law_1395 : decode cL_law 1395 = .ok (.iaload, 1) := by decide +kernel
theorem dL_law_1396 : decode cL_law 1396 = .ok (.aload_n 0, 1) := by decide +kernel
theorem dL_law_1397 : decode cL_law 1397 = .ok (.iload_n 3, 1) := by decide +kernel
theorem dL_law_1398 : decode cL_law 1398 = .ok (.iconst 2, 1) := by decide +kernel
theorem dL_law_1399 : decode cL_law 1399 = .ok (.iadd, 1) := by decide +kernel
theorem dL_law_1400 : decode cL_law 1400 = .ok (.iaload, 1) := by decide +kernel
theorem dL_law_1401 : decode cL_law 1401 = .ok (.invokevirtual 174, 3) := by decide +kernel
theorem dL_law_1404 : decode cL_law 1404 = .ok (.if_icmp .eq 156, 3) := by decide +kernel
theorem dL_law_1407 : decode cL_law 1407 = .ok (.iconst 0, 1) := by decide +kernel
theorem dL_law_1408 : decode cL_law 1408 = .ok (.ireturn, 1) := by decide +kernel
theorem dL_law_1409 : decode cL_law 1409 = .ok (.aload_n 1, 1) := by decide +kernel
theorem dL_law_1410 : decode cL_law 1410 = .ok (.aload_n 0, 1) := by decide +kernel
theorem dL_law_1411 : decode cL_law 1411 = .ok (.iload_n 3, 1) := by decide +kernel
theorem dL_law_1412 : decode cL_law 1412 = .ok (.iconst 1, 1) := by decide +kernel
theorem dL_law_1413 : decode cL_law 1413 = .ok (.iadd, 1) := by decide +kernel
theorem dL_law_1414 : decode cL_law 1414 = .ok (.iaload, 1) := by decide +kernel
theorem dL_law_1415 : decode cL_law 1415 = .ok (.aload_n 0, 1) := by decide +kernel
theorem dL_law_1416 : decode cL_law 1416 = .ok (.iload_n 3, 1) := by decide +kernel
theorem dL_law_1417 : decode cL_law 1417 = .ok (.iconst 2, 1) := by decide +kernel
theorem dL_law_1418 : decode cL_law 1418 = .ok (.iadd, 1) := by decide +kernel
theorem dL_law_1419 : decode cL_law 1419 = .ok (.iaload, 1) := by decide +kernel
theorem dL_law_1420 : decode cL_law 1420 = .ok (.aload_n 0, 1) := by decide +kernel
theorem dL_law_1421 : decode cL_law 1421 = .ok (.iload_n 3, 1) := by decide +kernel
theorem dL_law_1422 : decode cL_law 1422 = .ok (.iconst 3, 1) := by decide +kernel
theorem dL_law_1423 : decode cL_law 1423 = .ok (.iadd, 1) := by decide +kernel
theorem dL_law_1424 : decode cL_law 1424 = .ok (.iaload, 1) := by decide +kernel
theorem dL_law_1425 : decode cL_law 1425 = .ok (.invokevirtual 175, 3) := by decide +kernel
theorem dL_law_1428 : decode cL_law 1428 = .ok (.aload_n 2, 1) := by decide +kernel
theorem dL_law_1429 : decode cL_law 1429 = .ok (.aload_n 0, 1) := by decide +kernel
theorem dL_law_1430 : decode cL_law 1430 = .ok (.iload_n 3, 1) := by decide +kernel
theorem dL_law_1431 : decode cL_law 1431 = .ok (.iconst 1, 1) := by decide +kernel
theorem dL_law_1432 : decode cL_law 1432 = .ok (.iadd, 1) := by decide +kernel
theorem dL_law_1433 : decode cL_law 1433 = .ok (.iaload, 1) := by decide +kernel
theorem dL_law_1434 : decode cL_law 1434 = .ok (.aload_n 0, 1) := by decide +kernel
theorem dL_law_1435 : decode cL_law 1435 = .ok (.iload_n 3, 1) := by decide +kernel
theorem dL_law_1436 : decode cL_law 1436 = .ok (.iconst 2, 1) := by decide +kernel
theorem dL_law_1437 : decode cL_law 1437 = .ok (.iadd, 1) := by decide +kernel
theorem dL_law_1438 : decode cL_law 1438 = .ok (.iaload, 1) := by decide +kernel
theorem dL_law_1439 : decode cL_law 1439 = .ok (.aload_n 0, 1) := by decide +kernel
theorem dL_law_1440 : decode cL_law 1440 = .ok (.iload_n 3, 1) := by decide +kernel
theorem dL_law_1441 : decode cL_law 1441 = .ok (.iconst 3, 1) := by decide +kernel
theorem dL_law_1442 : decode cL_law 1442 = .ok (.iadd, 1) := by decide +kernel
theorem dL_law_1443 : decode cL_law 1443 = .ok (.iaload, 1) := by decide +kernel
theorem dL_law_1444 : decode cL_law 1444 = .ok (.invokevirtual 178, 3) := by decide +kernel
theorem dL_law_1447 : decode cL_law 1447 = .ok (.if_icmp .eq 113, 3) := by decide +kernel
theorem dL_law_1450 : decode cL_law 1450 = .ok (.iconst 0, 1) := by decide +kernel
theorem dL_law_1451 : decode cL_law 1451 = .ok (.ireturn, 1) := by decide +kernel
theorem dL_law_1452 : decode cL_law 1452 = .ok (.aload_n 1, 1) := by decide +kernel
theorem dL_law_1453 : decode cL_law 1453 = .ok (.aload_n 0, 1) := by decide +kernel
theorem dL_law_1454 : decode cL_law 1454 = .ok (.iload_n 3, 1) := by decide +kernel
theorem dL_law_1455 : decode cL_law 1455 = .ok (.iconst 1, 1) := by decide +kernel
theorem dL_law_1456 : decode cL_law 1456 = .ok (.iadd, 1) := by decide +kernel
theorem dL_law_1457 : decode cL_law 1457 = .ok (.iaload, 1) := by decide +kernel
theorem dL_law_1458 : decode cL_law 1458 = .ok (.invokevirtual 179, 3) := by decide +kernel
theorem dL_law_1461 : decode cL_law 1461 = .ok (.aload_n 2, 1) := by decide +kernel
theorem dL_law_1462 : decode cL_law 1462 = .ok (.aload_n 0, 1) := by decide +kernel
theorem dL_law_1463 : decode cL_law 1463 = .ok (.iload_n 3, 1) := by decide +kernel
theorem dL_law_1464 : decode cL_law 1464 = .ok (.iconst 1, 1) := by decide +kernel
theorem dL_law_1465 : decode cL_law 1465 = .ok (.iadd, 1) := by decide +kernel
theorem dL_law_1466 : decode cL_law 1466 = .ok (.iaload, 1) := by decide +kernel
theorem dL_law_1467 : decode cL_law 1467 = .ok (.invokevirtual 182, 3) := by decide +kernel
theorem dL_law_1470 : decode cL_law 1470 = .ok (.if_icmp .eq 90, 3) := by decide +kernel
theorem dL_law_1473 : decode cL_law 1473 = .ok (.iconst 0, 1) := by decide +kernel
theorem dL_law_1474 : decode cL_law 1474 = .ok (.ireturn, 1) := by decide +kernel
theorem dL_law_1475 : decode cL_law 1475 = .ok (.aload_n 1, 1) := by decide +kernel
theorem dL_law_1476 : decode cL_law 1476 = .ok (.invokevirtual 183, 3) := by decide +kernel
theorem dL_law_1479 : decode cL_law 1479 = .ok (.aload_n 2, 1) := by decide +kernel
theorem dL_law_1480 : decode cL_law 1480 = .ok (.invokevirtual 186, 3) := by decide +kernel
theorem dL_law_1483 : decode cL_law 1483 = .ok (.if_icmp .eq 77, 3) := by decide +kernel
theorem dL_law_1486 : decode cL_law 1486 = .ok (.iconst 0, 1) := by decide +kernel
theorem dL_law_1487 : decode cL_law 1487 = .ok (.ireturn, 1) := by decide +kernel
theorem dL_law_1488 : decode cL_law 1488 = .ok (.aload_n 1, 1) := by decide +kernel
theorem dL_law_1489 : decode cL_law 1489 = .ok (.aload_n 0, 1) := by decide +kernel
theorem dL_law_1490 : decode cL_law 1490 = .ok (.iload_n 3, 1) := by decide +kernel
theorem dL_law_1491 : decode cL_law 1491 = .ok (.iconst 1, 1) := by decide +kernel
theorem dL_law_1492 : decode cL_law 1492 = .ok (.iadd, 1) := by decide +kernel
theorem dL_law_1493 : decode cL_law 1493 = .ok (.iaload, 1) := by decide +kernel
theorem dL_law_1494 : decode cL_law 1494 = .ok (.invokevirtual 187, 3) := by decide +kernel
theorem dL_law_1497 : decode cL_law 1497 = .ok (.aload_n 2, 1) := by decide +kernel
theorem dL_law_1498 : decode cL_law 1498 = .ok (.aload_n 0, 1) := by decide +kernel
theorem dL_law_1499 : decode cL_law 1499 = .ok (.iload_n 3, 1) := by decide +kernel
theorem dL_law_1500 : decode cL_law 1500 = .ok (.iconst 1, 1) := by decide +kernel
theorem dL_law_1501 : decode cL_law 1501 = .ok (.iadd, 1) := by decide +kernel
theorem dL_law_1502 : decode cL_law 1502 = .ok (.iaload, 1) := by decide +kernel
theorem dL_law_1503 : decode cL_law 1503 = .ok (.invokevirtual 190, 3) := by decide +kernel
theorem dL_law_1506 : decode cL_law 1506 = .ok (.if_icmp .eq 54, 3) := by decide +kernel
theorem dL_law_1509 : decode cL_law 1509 = .ok (.iconst 0, 1) := by decide +kernel
theorem dL_law_1510 : decode cL_law 1510 = .ok (.ireturn, 1) := by decide +kernel
theorem dL_law_1511 : decode cL_law 1511 = .ok (.aload_n 1, 1) := by decide +kernel
theorem dL_law_1512 : decode cL_law 1512 = .ok (.invokevirtual 191, 3) := by decide +kernel
theorem dL_law_1515 : decode cL_law 1515 = .ok (.aload_n 2, 1) := by decide +kernel
theorem dL_law_1516 : decode cL_law 1516 = .ok (.invokevirtual 194, 3) := by decide +kernel
theorem dL_law_1519 : decode cL_law 1519 = .ok (.if_icmp .eq 41, 3) := by decide +kernel
theorem dL_law_1522 : decode cL_law 1522 = .ok (.iconst 0, 1) := by decide +kernel
theorem dL_law_1523 : decode cL_law 1523 = .ok (.ireturn, 1) := by decide +kernel
theorem dL_law_1524 : decode cL_law 1524 = .ok (.aload_n 1, 1) := by decide +kernel
theorem dL_law_1525 : decode cL_law 1525 = .ok (.invokevirtual 195, 3) := by decide +kernel
theorem dL_law_1528 : decode cL_law 1528 = .ok (.aload_n 2, 1) := by decide +kernel
theorem dL_law_1529 : decode cL_law 1529 = .ok (.invokevirtual 198, 3) := by decide +kernel
theorem dL_law_1532 : decode cL_law 1532 = .ok (.if_icmp .eq 28, 3) := by decide +kernel
theorem dL_law_1535 : decode cL_law 1535 = .ok (.iconst 0, 1) := by decide +kernel
theorem dL_law_1536 : decode cL_law 1536 = .ok (.ireturn, 1) := by decide +kernel
theorem dL_law_1537 : decode cL_law 1537 = .ok (.aload_n 1, 1) := by decide +kernel
theorem dL_law_1538 : decode cL_law 1538 = .ok (.aload_n 0, 1) := by decide +kernel
theorem dL_law_1539 : decode cL_law 1539 = .ok (.iload_n 3, 1) := by decide +kernel
theorem dL_law_1540 : decode cL_law 1540 = .ok (.iconst 1, 1) := by decide +kernel
theorem dL_law_1541 : decode cL_law 1541 = .ok (.iadd, 1) := by decide +kernel
theorem dL_law_1542 : decode cL_law 1542 = .ok (.iaload, 1) := by decide +kernel
theorem dL_law_1543 : decode cL_law 1543 = .ok (.invokevirtual 199, 3) := by decide +kernel
theorem dL_law_1546 : decode cL_law 1546 = .ok (.aload_n 2, 1) := by decide +kernel
theorem dL_law_1547 : decode cL_law 1547 = .ok (.aload_n 0, 1) := by decide +kernel
theorem dL_law_1548 : decode cL_law 1548 = .ok (.iload_n 3, 1) := by decide +kernel
theorem dL_law_1549 : decode cL_law 1549 = .ok (.iconst 1, 1) := by decide +kernel
theorem dL_law_1550 : decode cL_law 1550 = .ok (.iadd, 1) := by decide +kernel
theorem dL_law_1551 : decode cL_law 1551 = .ok (.iaload, 1) := by decide +kernel
theorem dL_law_1552 : decode cL_law 1552 = .ok (.invokevirtual 202, 3) := by decide +kernel
theorem dL_law_1555 : decode cL_law 1555 = .ok (.if_icmp .eq 5, 3) := by decide +kernel
theorem dL_law_1558 : decode cL_law 1558 = .ok (.iconst 0, 1) := by decide +kernel
theorem dL_law_1559 : decode cL_law 1559 = .ok (.ireturn, 1) := by decide +kernel
theorem dL_law_1560 : decode cL_law 1560 = .ok (.iinc 3 6, 3) := by decide +kernel
theorem dL_law_1563 : decode cL_law 1563 = .ok (.goto (-1545), 3) := by decide +kernel
theorem dL_law_1566 : decode cL_law 1566 = .ok (.iconst 1, 1) := by decide +kernel
theorem dL_law_1567 : decode cL_law 1567 = .ok (.ireturn, 1) := by decide +kernel
def f_L_law_L18 (S : Nat × (Nat → Int32)) (n : Nat) (v1 : Nat) (v2 : Nat) : Nat → Int32 → xH → Option ((Sum (Int32 × xH) (xH)) × Nat × Nat)
  | 0, _, _ => none
  | k + 1, v3, h =>
    if ((Int32.ofNat S.1) - (6 : Int32)) < v3 then
      some ((.inr h), 0, 0)
    else
      (x_scr S v3).bind fun x13 =>
      if (x13 &&& (63 : Int32)) = (0 : Int32) then
        (x_scr S (v3 + (1 : Int32))).bind fun x14 =>
        (x_scr S (v3 + (2 : Int32))).bind fun x15 =>
        (x_scr S (v3 + (3 : Int32))).bind fun x16 =>
        (x_ob h v1 6).bind fun u17 =>
        (f_X6_row n h v1 x14 x15 x16).bind fun q18 =>
        (x_scr S (v3 + (1 : Int32))).bind fun x19 =>
        (x_scr S (v3 + (2 : Int32))).bind fun x20 =>
        (x_scr S (v3 + (3 : Int32))).bind fun x21 =>
        (x_ob q18.2 v2 7).bind fun u22 =>
        (f_X7_row n q18.2 v2 x19 x20 x21).bind fun q23 =>
        if q18.1 = q23.1 then
          (some (v3 + (6 : Int32))).bind fun x24 =>
          f_L_law_L18 S n v1 v2 k x24 q23.2
        else
          some ((.inl ((0 : Int32), q23.2)), 0, 0)
      else
      if (x13 &&& (63 : Int32)) = (1 : Int32) then
        (x_scr S (v3 + (1 : Int32))).bind fun x27 =>
        (x_scr S (v3 + (2 : Int32))).bind fun x28 =>
        (x_scr S (v3 + (3 : Int32))).bind fun x29 =>
        (x_scr S (v3 + (4 : Int32))).bind fun x30 =>
        (x_ob h v1 6).bind fun u31 =>
        (f_X6_set h v1 x27 x28 ((l_shl x29.toInt64 (32 : Int32)) ||| (x30.toInt64 &&& (4294967295 : Int64)))).bind fun q32 =>
        (x_scr S (v3 + (1 : Int32))).bind fun x33 =>
        (x_scr S (v3 + (2 : Int32))).bind fun x34 =>
        (x_scr S (v3 + (3 : Int32))).bind fun x35 =>
        (x_scr S (v3 + (4 : Int32))).bind fun x36 =>
        (x_ob q32.2 v2 7).bind fun u37 =>
        (f_X7_set q32.2 v2 x33 x34 ((l_shl x35.toInt64 (32 : Int32)) ||| (x36.toInt64 &&& (4294967295 : Int64)))).bind fun q38 =>
        if q32.1 = q38.1 then
          (some (v3 + (6 : Int32))).bind fun x39 =>
          f_L_law_L18 S n v1 v2 k x39 q38.2
        else
          some ((.inl ((0 : Int32), q38.2)), 0, 0)
      else
      if (x13 &&& (63 : Int32)) = (2 : Int32) then
        (x_scr S (v3 + (1 : Int32))).bind fun x42 =>
        (x_scr S (v3 + (2 : Int32))).bind fun x43 =>
        (x_scr S (v3 + (3 : Int32))).bind fun x44 =>
        (x_scr S (v3 + (4 : Int32))).bind fun x45 =>
        (x_scr S (v3 + (5 : Int32))).bind fun x46 =>
        (x_ob h v1 6).bind fun u47 =>
        (f_X6_copy h v1 x42 x43 x44 x45 x46).bind fun q48 =>
        (x_scr S (v3 + (1 : Int32))).bind fun x49 =>
        (x_scr S (v3 + (2 : Int32))).bind fun x50 =>
        (x_scr S (v3 + (3 : Int32))).bind fun x51 =>
        (x_scr S (v3 + (4 : Int32))).bind fun x52 =>
        (x_scr S (v3 + (5 : Int32))).bind fun x53 =>
        (x_ob q48.2 v2 7).bind fun u54 =>
        (f_X7_copy n q48.2 v2 x49 x50 x51 x52 x53).bind fun q55 =>
        if q48.1 = q55.1 then
          (some (v3 + (6 : Int32))).bind fun x56 =>
          f_L_law_L18 S n v1 v2 k x56 q55.2
        else
          some ((.inl ((0 : Int32), q55.2)), 0, 0)
      else
      if (x13 &&& (63 : Int32)) = (3 : Int32) then
        (x_scr S (v3 + (1 : Int32))).bind fun x59 =>
        (x_scr S (v3 + (2 : Int32))).bind fun x60 =>
        (x_ob h v1 6).bind fun u61 =>
        (f_X6_element h v1 x59 x60).bind fun q62 =>
        (x_scr S (v3 + (1 : Int32))).bind fun x63 =>
        (x_scr S (v3 + (2 : Int32))).bind fun x64 =>
        (x_ob h v2 7).bind fun u65 =>
        (f_X7_element h v2 x63 x64).bind fun q66 =>
        if (lg_cmp q62 q66) = 0 then
          (some (v3 + (6 : Int32))).bind fun x67 =>
          f_L_law_L18 S n v1 v2 k x67 h
        else
          some ((.inl ((0 : Int32), h)), 0, 0)
      else
      if (x13 &&& (63 : Int32)) = (4 : Int32) then
        (x_scr S (v3 + (1 : Int32))).bind fun x70 =>
        (x_ob h v1 6).bind fun u71 =>
        (f_X6_holds h v1 x70).bind fun q72 =>
        (x_scr S (v3 + (1 : Int32))).bind fun x73 =>
        (x_ob h v2 7).bind fun u74 =>
        (f_X7_holds h v2 x73).bind fun q75 =>
        if q72 = q75 then
          (some (v3 + (6 : Int32))).bind fun x76 =>
          f_L_law_L18 S n v1 v2 k x76 h
        else
          some ((.inl ((0 : Int32), h)), 0, 0)
      else
      if (x13 &&& (63 : Int32)) = (5 : Int32) then
        (x_scr S (v3 + (1 : Int32))).bind fun x79 =>
        (x_scr S (v3 + (2 : Int32))).bind fun x80 =>
        (x_ob h v1 6).bind fun u81 =>
        (f_X6_show h v1 x79 x80).bind fun q82 =>
        (x_scr S (v3 + (1 : Int32))).bind fun x83 =>
        (x_scr S (v3 + (2 : Int32))).bind fun x84 =>
        (x_ob q82.2 v2 7).bind fun u85 =>
        (f_X7_show q82.2 v2 x83 x84).bind fun q86 =>
        if q82.1 = q86.1 then
          (some (v3 + (6 : Int32))).bind fun x87 =>
          f_L_law_L18 S n v1 v2 k x87 q86.2
        else
          some ((.inl ((0 : Int32), q86.2)), 0, 0)
      else
      if (x13 &&& (63 : Int32)) = (6 : Int32) then
        (x_scr S (v3 + (1 : Int32))).bind fun x90 =>
        (x_scr S (v3 + (2 : Int32))).bind fun x91 =>
        (x_ob h v1 6).bind fun u92 =>
        (f_X6_says n h v1 x90 x91).bind fun q93 =>
        (x_scr S (v3 + (1 : Int32))).bind fun x94 =>
        (x_scr S (v3 + (2 : Int32))).bind fun x95 =>
        (x_ob q93.2 v2 7).bind fun u96 =>
        (f_X7_says n q93.2 v2 x94 x95).bind fun q97 =>
        if q93.1 = q97.1 then
          (some (v3 + (6 : Int32))).bind fun x98 =>
          f_L_law_L18 S n v1 v2 k x98 q97.2
        else
          some ((.inl ((0 : Int32), q97.2)), 0, 0)
      else
      if (x13 &&& (63 : Int32)) = (7 : Int32) then
        (x_scr S (v3 + (1 : Int32))).bind fun x101 =>
        (x_scr S (v3 + (2 : Int32))).bind fun x102 =>
        (x_scr S (v3 + (3 : Int32))).bind fun x103 =>
        (x_ob h v1 6).bind fun u104 =>
        (f_X6_door h v1 x101 x102 x103).bind fun q105 =>
        (x_scr S (v3 + (1 : Int32))).bind fun x106 =>
        (x_scr S (v3 + (2 : Int32))).bind fun x107 =>
        (x_scr S (v3 + (3 : Int32))).bind fun x108 =>
        (x_ob q105.2 v2 7).bind fun u109 =>
        (f_X7_door q105.2 v2 x106 x107 x108).bind fun q110 =>
        if q105.1 = q110.1 then
          (some (v3 + (6 : Int32))).bind fun x111 =>
          f_L_law_L18 S n v1 v2 k x111 q110.2
        else
          some ((.inl ((0 : Int32), q110.2)), 0, 0)
      else
      if (x13 &&& (63 : Int32)) = (8 : Int32) then
        (x_scr S (v3 + (1 : Int32))).bind fun x114 =>
        (x_ob h v1 6).bind fun u115 =>
        (f_X6_one h v1 x114).bind fun q116 =>
        (x_scr S (v3 + (1 : Int32))).bind fun x117 =>
        (x_ob q116.2 v2 7).bind fun u118 =>
        (f_X7_one q116.2 v2 x117).bind fun q119 =>
        if q116.1 = q119.1 then
          (some (v3 + (6 : Int32))).bind fun x120 =>
          f_L_law_L18 S n v1 v2 k x120 q119.2
        else
          some ((.inl ((0 : Int32), q119.2)), 0, 0)
      else
      if (x13 &&& (63 : Int32)) = (9 : Int32) then
        (x_scr S (v3 + (1 : Int32))).bind fun x123 =>
        (x_scr S (v3 + (2 : Int32))).bind fun x124 =>
        (x_ob h v1 6).bind fun u125 =>
        (f_X6_ask h v1 x123 x124).bind fun q126 =>
        (x_scr S (v3 + (1 : Int32))).bind fun x127 =>
        (x_scr S (v3 + (2 : Int32))).bind fun x128 =>
        (x_ob q126.2 v2 7).bind fun u129 =>
        (f_X7_ask q126.2 v2 x127 x128).bind fun q130 =>
        if q126.1 = q130.1 then
          (some (v3 + (6 : Int32))).bind fun x131 =>
          f_L_law_L18 S n v1 v2 k x131 q130.2
        else
          some ((.inl ((0 : Int32), q130.2)), 0, 0)
      else
      if (x13 &&& (63 : Int32)) = (10 : Int32) then
        (x_scr S (v3 + (1 : Int32))).bind fun x134 =>
        (x_scr S (v3 + (2 : Int32))).bind fun x135 =>
        (
          if x135 = 0 then
            some (0 : Int32)
          else
            some (1 : Int32)
        ).bind fun q136 =>
        (x_ob h v1 6).bind fun u138 =>
        (f_X6_stand h v1 x134 q136).bind fun q139 =>
        (x_scr S (v3 + (1 : Int32))).bind fun x140 =>
        (x_scr S (v3 + (2 : Int32))).bind fun x141 =>
        (
          if x141 = 0 then
            some (0 : Int32)
          else
            some (1 : Int32)
        ).bind fun q142 =>
        (x_ob q139.2 v2 7).bind fun u144 =>
        (f_X7_stand q139.2 v2 x140 q142).bind fun q145 =>
        if q139.1 = q145.1 then
          (some (v3 + (6 : Int32))).bind fun x146 =>
          f_L_law_L18 S n v1 v2 k x146 q145.2
        else
          some ((.inl ((0 : Int32), q145.2)), 0, 0)
      else
      if (x13 &&& (63 : Int32)) = (11 : Int32) then
        (x_scr S (v3 + (1 : Int32))).bind fun x149 =>
        (x_scr S (v3 + (2 : Int32))).bind fun x150 =>
        (x_ob h v1 6).bind fun u151 =>
        (f_X6_move h v1 x149 x150).bind fun q152 =>
        (x_scr S (v3 + (1 : Int32))).bind fun x153 =>
        (x_scr S (v3 + (2 : Int32))).bind fun x154 =>
        (x_ob q152.2 v2 7).bind fun u155 =>
        (f_X7_move q152.2 v2 x153 x154).bind fun q156 =>
        if q152.1 = q156.1 then
          (some (v3 + (6 : Int32))).bind fun x157 =>
          f_L_law_L18 S n v1 v2 k x157 q156.2
        else
          some ((.inl ((0 : Int32), q156.2)), 0, 0)
      else
      if (x13 &&& (63 : Int32)) = (12 : Int32) then
        (x_scr S (v3 + (1 : Int32))).bind fun x160 =>
        (x_scr S (v3 + (2 : Int32))).bind fun x161 =>
        (x_ob h v1 6).bind fun u162 =>
        (f_X6_feed n h v1 x160 x161).bind fun q163 =>
        (x_scr S (v3 + (1 : Int32))).bind fun x164 =>
        (x_scr S (v3 + (2 : Int32))).bind fun x165 =>
        (x_ob q163.2 v2 7).bind fun u166 =>
        (f_X7_feed n q163.2 v2 x164 x165).bind fun q167 =>
        if q163.1 = q167.1 then
          (some (v3 + (6 : Int32))).bind fun x168 =>
          f_L_law_L18 S n v1 v2 k x168 q167.2
        else
          some ((.inl ((0 : Int32), q167.2)), 0, 0)
      else
      if (x13 &&& (63 : Int32)) = (13 : Int32) then
        (x_ob h v1 6).bind fun u171 =>
        (f_X6_wipe h v1).bind fun q172 =>
        (x_ob q172.2 v2 7).bind fun u173 =>
        (f_X7_wipe q172.2 v2).bind fun q174 =>
        if q172.1 = q174.1 then
          (some (v3 + (6 : Int32))).bind fun x175 =>
          f_L_law_L18 S n v1 v2 k x175 q174.2
        else
          some ((.inl ((0 : Int32), q174.2)), 0, 0)
      else
      if (x13 &&& (63 : Int32)) = (14 : Int32) then
        (x_ob h v1 6).bind fun u178 =>
        (f_X6_house n h v1).bind fun q179 =>
        (x_ob q179.2 v2 7).bind fun u180 =>
        (f_X7_house n q179.2 v2).bind fun q181 =>
        x_add q181.2.1 q181.2.2 <|
        if q179.1 = q181.1.1 then
          (some (v3 + (6 : Int32))).bind fun x184 =>
          f_L_law_L18 S n v1 v2 k x184 q181.1.2
        else
          some ((.inl ((0 : Int32), q181.1.2)), 0, 0)
      else
      if (x13 &&& (63 : Int32)) = (15 : Int32) then
        (x_scr S (v3 + (1 : Int32))).bind fun x187 =>
        (x_scr S (v3 + (2 : Int32))).bind fun x188 =>
        (x_ob h v1 6).bind fun u189 =>
        (f_X6_doorOf h v1 x187 x188).bind fun q190 =>
        (x_scr S (v3 + (1 : Int32))).bind fun x191 =>
        (x_scr S (v3 + (2 : Int32))).bind fun x192 =>
        (x_ob q190.2 v2 7).bind fun u193 =>
        (f_X7_doorOf q190.2 v2 x191 x192).bind fun q194 =>
        if q190.1 = q194.1 then
          (some (v3 + (6 : Int32))).bind fun x195 =>
          f_L_law_L18 S n v1 v2 k x195 q194.2
        else
          some ((.inl ((0 : Int32), q194.2)), 0, 0)
      else
      if (x13 &&& (63 : Int32)) = (16 : Int32) then
        (x_scr S (v3 + (1 : Int32))).bind fun x198 =>
        (x_ob h v1 6).bind fun u199 =>
        (f_X6_where h v1 x198).bind fun q200 =>
        (x_scr S (v3 + (1 : Int32))).bind fun x201 =>
        (x_ob q200.2 v2 7).bind fun u202 =>
        (f_X7_where q200.2 v2 x201).bind fun q203 =>
        if q200.1 = q203.1 then
          (some (v3 + (6 : Int32))).bind fun x204 =>
          f_L_law_L18 S n v1 v2 k x204 q203.2
        else
          some ((.inl ((0 : Int32), q203.2)), 0, 0)
      else
      if (x13 &&& (63 : Int32)) = (17 : Int32) then
        (x_scr S (v3 + (1 : Int32))).bind fun x207 =>
        (x_scr S (v3 + (2 : Int32))).bind fun x208 =>
        (x_ob h v1 6).bind fun u209 =>
        (f_X6_doors n h v1 x207 x208).bind fun q210 =>
        (x_scr S (v3 + (1 : Int32))).bind fun x211 =>
        (x_scr S (v3 + (2 : Int32))).bind fun x212 =>
        (x_ob q210.2 v2 7).bind fun u213 =>
        (f_X7_doors n q210.2 v2 x211 x212).bind fun q214 =>
        if q210.1 = q214.1 then
          (some (v3 + (6 : Int32))).bind fun x215 =>
          f_L_law_L18 S n v1 v2 k x215 q214.2
        else
          some ((.inl ((0 : Int32), q214.2)), 0, 0)
      else
      if (x13 &&& (63 : Int32)) = (18 : Int32) then
        (x_scr S (v3 + (1 : Int32))).bind fun x218 =>
        (x_scr S (v3 + (2 : Int32))).bind fun x219 =>
        (x_scr S (v3 + (3 : Int32))).bind fun x220 =>
        (x_ob h v1 6).bind fun u221 =>
        (f_X6_may n h v1 x218 x219 x220).bind fun q222 =>
        (x_scr S (v3 + (1 : Int32))).bind fun x223 =>
        (x_scr S (v3 + (2 : Int32))).bind fun x224 =>
        (x_scr S (v3 + (3 : Int32))).bind fun x225 =>
        (x_ob q222.2 v2 7).bind fun u226 =>
        (f_X7_may n q222.2 v2 x223 x224 x225).bind fun q227 =>
        if q222.1 = q227.1 then
          (some (v3 + (6 : Int32))).bind fun x228 =>
          f_L_law_L18 S n v1 v2 k x228 q227.2
        else
          some ((.inl ((0 : Int32), q227.2)), 0, 0)
      else
      if (x13 &&& (63 : Int32)) = (19 : Int32) then
        (x_scr S (v3 + (1 : Int32))).bind fun x231 =>
        (x_scr S (v3 + (2 : Int32))).bind fun x232 =>
        (x_scr S (v3 + (3 : Int32))).bind fun x233 =>
        (x_ob h v1 6).bind fun u234 =>
        (f_X6_by n h v1 x231 x232 x233).bind fun q235 =>
        (x_scr S (v3 + (1 : Int32))).bind fun x236 =>
        (x_scr S (v3 + (2 : Int32))).bind fun x237 =>
        (x_scr S (v3 + (3 : Int32))).bind fun x238 =>
        (x_ob q235.2 v2 7).bind fun u239 =>
        (f_X7_by n q235.2 v2 x236 x237 x238).bind fun q240 =>
        if q235.1 = q240.1 then
          (some (v3 + (6 : Int32))).bind fun x241 =>
          f_L_law_L18 S n v1 v2 k x241 q240.2
        else
          some ((.inl ((0 : Int32), q240.2)), 0, 0)
      else
      if (x13 &&& (63 : Int32)) = (20 : Int32) then
        (x_scr S (v3 + (1 : Int32))).bind fun x244 =>
        (x_scr S (v3 + (2 : Int32))).bind fun x245 =>
        (x_scr S (v3 + (3 : Int32))).bind fun x246 =>
        (x_ob h v1 6).bind fun u247 =>
        (f_X6_ways n h v1 x244 x245 x246).bind fun q248 =>
        (x_scr S (v3 + (1 : Int32))).bind fun x249 =>
        (x_scr S (v3 + (2 : Int32))).bind fun x250 =>
        (x_scr S (v3 + (3 : Int32))).bind fun x251 =>
        (x_ob q248.2 v2 7).bind fun u252 =>
        (f_X7_ways n q248.2 v2 x249 x250 x251).bind fun q253 =>
        if q248.1 = q253.1 then
          (some (v3 + (6 : Int32))).bind fun x254 =>
          f_L_law_L18 S n v1 v2 k x254 q253.2
        else
          some ((.inl ((0 : Int32), q253.2)), 0, 0)
      else
      if (x13 &&& (63 : Int32)) = (21 : Int32) then
        (x_scr S (v3 + (1 : Int32))).bind fun x257 =>
        (x_scr S (v3 + (2 : Int32))).bind fun x258 =>
        (x_ob h v1 6).bind fun u259 =>
        (f_X6_walk h v1 x257 x258).bind fun q260 =>
        (x_scr S (v3 + (1 : Int32))).bind fun x261 =>
        (x_scr S (v3 + (2 : Int32))).bind fun x262 =>
        (x_ob q260.2 v2 7).bind fun u263 =>
        (f_X7_walk q260.2 v2 x261 x262).bind fun q264 =>
        if q260.1 = q264.1 then
          (some (v3 + (6 : Int32))).bind fun x265 =>
          f_L_law_L18 S n v1 v2 k x265 q264.2
        else
          some ((.inl ((0 : Int32), q264.2)), 0, 0)
      else
      if (x13 &&& (63 : Int32)) = (22 : Int32) then
        (x_scr S (v3 + (1 : Int32))).bind fun x268 =>
        (x_scr S (v3 + (2 : Int32))).bind fun x269 =>
        (x_ob h v1 6).bind fun u270 =>
        (f_X6_shut n h v1 x268 x269).bind fun q271 =>
        (x_scr S (v3 + (1 : Int32))).bind fun x272 =>
        (x_scr S (v3 + (2 : Int32))).bind fun x273 =>
        (x_ob q271.2 v2 7).bind fun u274 =>
        (f_X7_shut n q271.2 v2 x272 x273).bind fun q275 =>
        if q271.1 = q275.1 then
          (some (v3 + (6 : Int32))).bind fun x276 =>
          f_L_law_L18 S n v1 v2 k x276 q275.2
        else
          some ((.inl ((0 : Int32), q275.2)), 0, 0)
      else
      if (x13 &&& (63 : Int32)) = (23 : Int32) then
        (x_scr S (v3 + (1 : Int32))).bind fun x279 =>
        (x_scr S (v3 + (2 : Int32))).bind fun x280 =>
        (x_scr S (v3 + (3 : Int32))).bind fun x281 =>
        (x_ob h v1 6).bind fun u282 =>
        (f_X6_open n h v1 x279 x280 x281).bind fun q283 =>
        (x_scr S (v3 + (1 : Int32))).bind fun x284 =>
        (x_scr S (v3 + (2 : Int32))).bind fun x285 =>
        (x_scr S (v3 + (3 : Int32))).bind fun x286 =>
        (x_ob q283.2 v2 7).bind fun u287 =>
        (f_X7_open n q283.2 v2 x284 x285 x286).bind fun q288 =>
        if q283.1 = q288.1 then
          (some (v3 + (6 : Int32))).bind fun x289 =>
          f_L_law_L18 S n v1 v2 k x289 q288.2
        else
          some ((.inl ((0 : Int32), q288.2)), 0, 0)
      else
      if (x13 &&& (63 : Int32)) = (24 : Int32) then
        (x_scr S (v3 + (1 : Int32))).bind fun x292 =>
        (x_ob h v1 6).bind fun u293 =>
        (f_X6_reach n h v1 x292).bind fun q294 =>
        (x_scr S (v3 + (1 : Int32))).bind fun x295 =>
        (x_ob q294.2 v2 7).bind fun u296 =>
        (f_X7_reach n q294.2 v2 x295).bind fun q297 =>
        if q294.1 = q297.1 then
          (some (v3 + (6 : Int32))).bind fun x298 =>
          f_L_law_L18 S n v1 v2 k x298 q297.2
        else
          some ((.inl ((0 : Int32), q297.2)), 0, 0)
      else
      if (x13 &&& (63 : Int32)) = (25 : Int32) then
        (x_ob h v1 6).bind fun u301 =>
        (f_X6_shutIn n h v1).bind fun q302 =>
        (x_ob h v2 7).bind fun u303 =>
        (f_X7_shutIn n h v2).bind fun q304 =>
        if q302 = q304 then
          (some (v3 + (6 : Int32))).bind fun x305 =>
          f_L_law_L18 S n v1 v2 k x305 h
        else
          some ((.inl ((0 : Int32), h)), 0, 0)
      else
      if (x13 &&& (63 : Int32)) = (26 : Int32) then
        (x_scr S (v3 + (1 : Int32))).bind fun x308 =>
        (x_scr S (v3 + (2 : Int32))).bind fun x309 =>
        (x_ob h v1 6).bind fun u310 =>
        (f_X6_coming n h v1 x308 x309).bind fun q311 =>
        x_add q311.2.1 q311.2.2 <|
        (x_scr S (v3 + (1 : Int32))).bind fun x314 =>
        (x_scr S (v3 + (2 : Int32))).bind fun x315 =>
        (x_ob q311.1.2 v2 7).bind fun u316 =>
        (f_X7_coming n q311.1.2 v2 x314 x315).bind fun q317 =>
        x_add q317.2.1 q317.2.2 <|
        if q311.1.1 = q317.1.1 then
          (some (v3 + (6 : Int32))).bind fun x320 =>
          f_L_law_L18 S n v1 v2 k x320 q317.1.2
        else
          some ((.inl ((0 : Int32), q317.1.2)), 0, 0)
      else
      if (x13 &&& (63 : Int32)) = (27 : Int32) then
        (x_scr S (v3 + (1 : Int32))).bind fun x323 =>
        (x_ob h v1 6).bind fun u324 =>
        (f_X6_all n h v1 x323).bind fun q325 =>
        x_add q325.2.1 q325.2.2 <|
        (x_scr S (v3 + (1 : Int32))).bind fun x328 =>
        (x_ob q325.1.2 v2 7).bind fun u329 =>
        (f_X7_all n q325.1.2 v2 x328).bind fun q330 =>
        x_add q330.2.1 q330.2.2 <|
        if q325.1.1 = q330.1.1 then
          (some (v3 + (6 : Int32))).bind fun x333 =>
          f_L_law_L18 S n v1 v2 k x333 q330.1.2
        else
          some ((.inl ((0 : Int32), q330.1.2)), 0, 0)
      else
      if (x13 &&& (63 : Int32)) = (28 : Int32) then
        (x_scr S (v3 + (1 : Int32))).bind fun x336 =>
        (x_scr S (v3 + (2 : Int32))).bind fun x337 =>
        (x_ob h v1 6).bind fun u338 =>
        (f_X6_first n h v1 x336 x337).bind fun q339 =>
        x_add q339.2.1 q339.2.2 <|
        (x_scr S (v3 + (1 : Int32))).bind fun x342 =>
        (x_scr S (v3 + (2 : Int32))).bind fun x343 =>
        (x_ob q339.1.2 v2 7).bind fun u344 =>
        (f_X7_first n q339.1.2 v2 x342 x343).bind fun q345 =>
        x_add q345.2.1 q345.2.2 <|
        if q339.1.1 = q345.1.1 then
          (some (v3 + (6 : Int32))).bind fun x348 =>
          f_L_law_L18 S n v1 v2 k x348 q345.1.2
        else
          some ((.inl ((0 : Int32), q345.1.2)), 0, 0)
      else
      if (x13 &&& (63 : Int32)) = (29 : Int32) then
        (x_scr S (v3 + (1 : Int32))).bind fun x351 =>
        (x_scr S (v3 + (2 : Int32))).bind fun x352 =>
        (x_scr S (v3 + (3 : Int32))).bind fun x353 =>
        (x_ob h v1 6).bind fun u354 =>
        (f_X6_errands n h v1 x351 x352 x353).bind fun q355 =>
        x_add q355.2.1 q355.2.2 <|
        (x_scr S (v3 + (1 : Int32))).bind fun x358 =>
        (x_scr S (v3 + (2 : Int32))).bind fun x359 =>
        (x_scr S (v3 + (3 : Int32))).bind fun x360 =>
        (x_ob q355.1.2 v2 7).bind fun u361 =>
        (f_X7_errands n q355.1.2 v2 x358 x359 x360).bind fun q362 =>
        x_add q362.2.1 q362.2.2 <|
        if q355.1.1 = q362.1.1 then
          (some (v3 + (6 : Int32))).bind fun x365 =>
          f_L_law_L18 S n v1 v2 k x365 q362.1.2
        else
          some ((.inl ((0 : Int32), q362.1.2)), 0, 0)
      else
      if (x13 &&& (63 : Int32)) = (30 : Int32) then
        (x_ob h v1 6).bind fun u368 =>
        (f_X6_lost n h v1).bind fun q369 =>
        x_add q369.2.1 q369.2.2 <|
        (x_ob q369.1.2 v2 7).bind fun u372 =>
        (f_X7_lost n q369.1.2 v2).bind fun q373 =>
        x_add q373.2.1 q373.2.2 <|
        if q369.1.1 = q373.1.1 then
          (some (v3 + (6 : Int32))).bind fun x376 =>
          f_L_law_L18 S n v1 v2 k x376 q373.1.2
        else
          some ((.inl ((0 : Int32), q373.1.2)), 0, 0)
      else
      if (x13 &&& (63 : Int32)) = (31 : Int32) then
        (x_ob h v1 6).bind fun u379 =>
        (f_X6_stock n h v1).bind fun q380 =>
        (x_ob h v2 7).bind fun u381 =>
        (f_X7_stock n h v2).bind fun q382 =>
        if q380 = q382 then
          (some (v3 + (6 : Int32))).bind fun x383 =>
          f_L_law_L18 S n v1 v2 k x383 h
        else
          some ((.inl ((0 : Int32), h)), 0, 0)
      else
      if (x13 &&& (63 : Int32)) = (32 : Int32) then
        (x_ob h v1 6).bind fun u386 =>
        (f_X6_lasts n h v1).bind fun q387 =>
        (x_ob q387.2 v2 7).bind fun u388 =>
        (f_X7_lasts n q387.2 v2).bind fun q389 =>
        x_add q389.2.1 q389.2.2 <|
        if q387.1 = q389.1.1 then
          (some (v3 + (6 : Int32))).bind fun x392 =>
          f_L_law_L18 S n v1 v2 k x392 q389.1.2
        else
          some ((.inl ((0 : Int32), q389.1.2)), 0, 0)
      else
      if (x13 &&& (63 : Int32)) = (33 : Int32) then
        (x_scr S (v3 + (1 : Int32))).bind fun x395 =>
        (x_ob h v1 6).bind fun u396 =>
        (f_X6_worth n h v1 x395).bind fun q397 =>
        (x_scr S (v3 + (1 : Int32))).bind fun x398 =>
        (x_ob q397.2 v2 7).bind fun u399 =>
        (f_X7_worth n q397.2 v2 x398).bind fun q400 =>
        x_add q400.2.1 q400.2.2 <|
        if q397.1 = q400.1.1 then
          (some (v3 + (6 : Int32))).bind fun x403 =>
          f_L_law_L18 S n v1 v2 k x403 q400.1.2
        else
          some ((.inl ((0 : Int32), q400.1.2)), 0, 0)
      else
      if (x13 &&& (63 : Int32)) = (34 : Int32) then
        (x_ob h v1 6).bind fun u406 =>
        (f_X6_spare n h v1).bind fun q407 =>
        (x_ob q407.2 v2 7).bind fun u408 =>
        (f_X7_spare n q407.2 v2).bind fun q409 =>
        x_add q409.2.1 q409.2.2 <|
        if q407.1 = q409.1.1 then
          (some (v3 + (6 : Int32))).bind fun x412 =>
          f_L_law_L18 S n v1 v2 k x412 q409.1.2
        else
          some ((.inl ((0 : Int32), q409.1.2)), 0, 0)
      else
      if (x13 &&& (63 : Int32)) = (35 : Int32) then
        (x_ob h v1 6).bind fun u415 =>
        (f_X6_endless n h v1).bind fun q416 =>
        (x_ob q416.2 v2 7).bind fun u417 =>
        (f_X7_endless n q416.2 v2).bind fun q418 =>
        x_add q418.2.1 q418.2.2 <|
        if q416.1 = q418.1.1 then
          (some (v3 + (6 : Int32))).bind fun x421 =>
          f_L_law_L18 S n v1 v2 k x421 q418.1.2
        else
          some ((.inl ((0 : Int32), q418.1.2)), 0, 0)
      else
      if (x13 &&& (63 : Int32)) = (36 : Int32) then
        (x_scr S (v3 + (1 : Int32))).bind fun x424 =>
        (x_ob h v1 6).bind fun u425 =>
        (f_X6_boxes n h v1 x424).bind fun q426 =>
        (x_scr S (v3 + (1 : Int32))).bind fun x427 =>
        (x_ob q426.2 v2 7).bind fun u428 =>
        (f_X7_boxes n q426.2 v2 x427).bind fun q429 =>
        x_add q429.2.1 q429.2.2 <|
        if q426.1 = q429.1.1 then
          (some (v3 + (6 : Int32))).bind fun x432 =>
          f_L_law_L18 S n v1 v2 k x432 q429.1.2
        else
          some ((.inl ((0 : Int32), q429.1.2)), 0, 0)
      else
      if (x13 &&& (63 : Int32)) = (37 : Int32) then
        (x_scr S (v3 + (1 : Int32))).bind fun x435 =>
        (x_scr S (v3 + (2 : Int32))).bind fun x436 =>
        (x_ob h v1 6).bind fun u437 =>
        (f_X6_judge n h v1 x435 x436).bind fun q438 =>
        (x_scr S (v3 + (1 : Int32))).bind fun x439 =>
        (x_scr S (v3 + (2 : Int32))).bind fun x440 =>
        (x_ob q438.2 v2 7).bind fun u441 =>
        (f_X7_judge n q438.2 v2 x439 x440).bind fun q442 =>
        x_add q442.2.1 q442.2.2 <|
        if q438.1 = q442.1.1 then
          (some (v3 + (6 : Int32))).bind fun x445 =>
          f_L_law_L18 S n v1 v2 k x445 q442.1.2
        else
          some ((.inl ((0 : Int32), q442.1.2)), 0, 0)
      else
      if (x13 &&& (63 : Int32)) = (38 : Int32) then
        (x_scr S (v3 + (1 : Int32))).bind fun x448 =>
        (x_scr S (v3 + (2 : Int32))).bind fun x449 =>
        (x_scr S (v3 + (3 : Int32))).bind fun x450 =>
        (x_ob h v1 6).bind fun u451 =>
        (f_X6_told n h v1 x448 x449 x450).bind fun q452 =>
        (x_scr S (v3 + (1 : Int32))).bind fun x453 =>
        (x_scr S (v3 + (2 : Int32))).bind fun x454 =>
        (x_scr S (v3 + (3 : Int32))).bind fun x455 =>
        (x_ob q452.2 v2 7).bind fun u456 =>
        (f_X7_told n q452.2 v2 x453 x454 x455).bind fun q457 =>
        x_add q457.2.1 q457.2.2 <|
        if q452.1 = q457.1.1 then
          (some (v3 + (6 : Int32))).bind fun x460 =>
          f_L_law_L18 S n v1 v2 k x460 q457.1.2
        else
          some ((.inl ((0 : Int32), q457.1.2)), 0, 0)
      else
      if (x13 &&& (63 : Int32)) = (39 : Int32) then
        (x_scr S (v3 + (1 : Int32))).bind fun x463 =>
        (x_ob h v1 6).bind fun u464 =>
        (f_X6_evening n h v1 x463).bind fun q465 =>
        (x_scr S (v3 + (1 : Int32))).bind fun x466 =>
        (x_ob q465.2 v2 7).bind fun u467 =>
        (f_X7_evening n q465.2 v2 x466).bind fun q468 =>
        if q465.1 = q468.1 then
          (some (v3 + (6 : Int32))).bind fun x469 =>
          f_L_law_L18 S n v1 v2 k x469 q468.2
        else
          some ((.inl ((0 : Int32), q468.2)), 0, 0)
      else
      if (x13 &&& (63 : Int32)) = (40 : Int32) then
        (x_ob h v1 6).bind fun u472 =>
        (f_X6_night n h v1).bind fun q473 =>
        (x_ob q473.2 v2 7).bind fun u474 =>
        (f_X7_night n q473.2 v2).bind fun q475 =>
        if q473.1 = q475.1 then
          (some (v3 + (6 : Int32))).bind fun x476 =>
          f_L_law_L18 S n v1 v2 k x476 q475.2
        else
          some ((.inl ((0 : Int32), q475.2)), 0, 0)
      else
      if (x13 &&& (63 : Int32)) = (41 : Int32) then
        (x_scr S (v3 + (1 : Int32))).bind fun x479 =>
        (x_ob h v1 6).bind fun u480 =>
        (f_X6_seed h v1 x479).bind fun q481 =>
        (x_scr S (v3 + (1 : Int32))).bind fun x482 =>
        (x_ob q481.2 v2 7).bind fun u483 =>
        (f_X7_seed q481.2 v2 x482).bind fun q484 =>
        if q481.1 = q484.1 then
          (some (v3 + (6 : Int32))).bind fun x485 =>
          f_L_law_L18 S n v1 v2 k x485 q484.2
        else
          some ((.inl ((0 : Int32), q484.2)), 0, 0)
      else
      if (x13 &&& (63 : Int32)) = (42 : Int32) then
        (x_ob h v1 6).bind fun u488 =>
        (f_X6_image n h v1).bind fun q489 =>
        (x_ob q489.2 v2 7).bind fun u490 =>
        (f_X7_image n q489.2 v2).bind fun q491 =>
        x_add q491.2.1 q491.2.2 <|
        if q489.1 = q491.1.1 then
          (some (v3 + (6 : Int32))).bind fun x494 =>
          f_L_law_L18 S n v1 v2 k x494 q491.1.2
        else
          some ((.inl ((0 : Int32), q491.1.2)), 0, 0)
      else
      if (x13 &&& (63 : Int32)) = (43 : Int32) then
        (x_ob h v1 6).bind fun u497 =>
        (f_X6_back n h v1).bind fun q498 =>
        (x_ob q498.2 v2 7).bind fun u499 =>
        (f_X7_back n q498.2 v2).bind fun q500 =>
        if q498.1 = q500.1 then
          (some (v3 + (6 : Int32))).bind fun x501 =>
          f_L_law_L18 S n v1 v2 k x501 q500.2
        else
          some ((.inl ((0 : Int32), q500.2)), 0, 0)
      else
      if (x13 &&& (63 : Int32)) = (44 : Int32) then
        (x_scr S (v3 + (1 : Int32))).bind fun x504 =>
        (x_ob h v1 6).bind fun u505 =>
        (f_X6_status n h v1 x504).bind fun q506 =>
        (x_scr S (v3 + (1 : Int32))).bind fun x507 =>
        (x_ob h v2 7).bind fun u508 =>
        (f_X7_status n h v2 x507).bind fun q509 =>
        if q506 = q509 then
          (some (v3 + (6 : Int32))).bind fun x510 =>
          f_L_law_L18 S n v1 v2 k x510 h
        else
          some ((.inl ((0 : Int32), h)), 0, 0)
      else
      (some (v3 + (6 : Int32))).bind fun x513 =>
      f_L_law_L18 S n v1 v2 k x513 h
set_option maxRecDepth 100000 in
set_option maxHeartbeats 4000000 in
theorem l_L_law_18 {rv : Option Value} {h0 h1 : xH} {mc ms : Nat} {tc ts : Nat} (S : Nat × (Nat → Int32)) (n : Nat) (v1 : Nat) (v2 : Nat) : ∀ (k : Nat) (v3 : Int32) (h : xH) (res : Sum (Int32 × xH) (xH)) (c9 s9 cells slots : Nat), f_L_law_L18 S n v1 v2 k v3 h = some (res, c9, s9) → cells + c9 = tc → slots + s9 = ts → (tc ≤ mc ∧ ts ≤ ms) → (∀ r9, res = .inl r9 → rv = some (.int r9.1) ∧ h1 = r9.2) → (∀ r9, res = .inr r9 → Y S M_L_law h0 rv h1 mc ms 1566 [] [] r9 tc ts) → Y S M_L_law h0 rv h1 mc ms 18 [(0, .ref 0), (1, .ref v1), (2, .ref v2), (3, .int v3)] [] h cells slots := by
  intro k
  induction k with
  | zero =>
    intro _ _ _ _ _ _ _ hE
    cases hE
  | succ k ih =>
    intro v3 h res c9 s9 cells slots hE hc9 hs9 hm KR K
    unfold f_L_law_L18 at hE
    refine y_iload_n dL_law_18 3 rfl ?_
    refine y_aload_n dL_law_19 0 rfl ?_
    refine y_slen dL_law_20 ?_
    refine y_bipush (v := (6 : Int32)) dL_law_21 (by decide) ?_
    refine y_isub dL_law_23 ?_
    refine y_icmp_gt (tgt := 1566) dL_law_24 (by decide) (fun hc514 => ?_) (fun hc514 => ?_)
    · rw [if_pos hc514] at hE
      obtain ⟨rfl, rfl, rfl⟩ := x_inj3 hE
      refine y_cnt (c2 := tc) (s2 := ts) (by omega) (by omega) ?_
      exact y_pick [] rfl (K _ rfl)
    · rw [if_neg hc514] at hE
      refine y_aload_n dL_law_27 0 rfl ?_
      refine y_iload_n dL_law_28 3 rfl ?_
      obtain ⟨x13, ex13, hE⟩ := Option.bind_eq_some_iff.mp hE
      refine y_sld' ex13 dL_law_29 ?_
      refine y_bipush (v := (63 : Int32)) dL_law_30 (by decide) ?_
      refine y_iand dL_law_32 ?_
      by_cases hc26 : (x13 &&& (63 : Int32)) = (0 : Int32)
      · rw [if_pos hc26] at hE
        have hk := hc26
        refine y_tabIn (tgt := 228) dL_law_33 (by rw [hk]; decide) (by rw [hk]; decide) (by rw [hk]; rfl) (by decide) ?_
        refine y_aload_n dL_law_228 1 rfl ?_
        refine y_aload_n dL_law_229 0 rfl ?_
        refine y_iload_n dL_law_230 3 rfl ?_
        refine y_iconst (v := (1 : Int32)) dL_law_231 (by decide) ?_
        refine y_iadd dL_law_232 ?_
        obtain ⟨x14, ex14, hE⟩ := Option.bind_eq_some_iff.mp hE
        refine y_sld' ex14 dL_law_233 ?_
        refine y_aload_n dL_law_234 0 rfl ?_
        refine y_iload_n dL_law_235 3 rfl ?_
        refine y_iconst (v := (2 : Int32)) dL_law_236 (by decide) ?_
        refine y_iadd dL_law_237 ?_
        obtain ⟨x15, ex15, hE⟩ := Option.bind_eq_some_iff.mp hE
        refine y_sld' ex15 dL_law_238 ?_
        refine y_aload_n dL_law_239 0 rfl ?_
        refine y_iload_n dL_law_240 3 rfl ?_
        refine y_iconst (v := (3 : Int32)) dL_law_241 (by decide) ?_
        refine y_iadd dL_law_242 ?_
        obtain ⟨x16, ex16, hE⟩ := Option.bind_eq_some_iff.mp hE
        refine y_sld' ex16 dL_law_243 ?_
        obtain ⟨u17, eu17, hE⟩ := Option.bind_eq_some_iff.mp hE
        obtain ⟨q18, eq18, hE⟩ := Option.bind_eq_some_iff.mp hE
        refine y_cVi0 (st := []) (as := [.int x14, .int x15, .int x16]) (c_X6_row eq18) lk_L_13 in_X6_row se_X6_row rfl eu17 ⟨Nat.le_of_ble_eq_true rfl, Nat.le_of_ble_eq_true rfl⟩ (Nat.le_of_ble_eq_true rfl) dL_law_244 ⟨by omega, by omega⟩ rfl ?_
        refine y_aload_n dL_law_247 2 rfl ?_
        refine y_aload_n dL_law_248 0 rfl ?_
        refine y_iload_n dL_law_249 3 rfl ?_
        refine y_iconst (v := (1 : Int32)) dL_law_250 (by decide) ?_
        refine y_iadd dL_law_251 ?_
        obtain ⟨x19, ex19, hE⟩ := Option.bind_eq_some_iff.mp hE
        refine y_sld' ex19 dL_law_252 ?_
        refine y_aload_n dL_law_253 0 rfl ?_
        refine y_iload_n dL_law_254 3 rfl ?_
        refine y_iconst (v := (2 : Int32)) dL_law_255 (by decide) ?_
        refine y_iadd dL_law_256 ?_
        obtain ⟨x20, ex20, hE⟩ := Option.bind_eq_some_iff.mp hE
        refine y_sld' ex20 dL_law_257 ?_
        refine y_aload_n dL_law_258 0 rfl ?_
        refine y_iload_n dL_law_259 3 rfl ?_
        refine y_iconst (v := (3 : Int32)) dL_law_260 (by decide) ?_
        refine y_iadd dL_law_261 ?_
        obtain ⟨x21, ex21, hE⟩ := Option.bind_eq_some_iff.mp hE
        refine y_sld' ex21 dL_law_262 ?_
        obtain ⟨u22, eu22, hE⟩ := Option.bind_eq_some_iff.mp hE
        obtain ⟨q23, eq23, hE⟩ := Option.bind_eq_some_iff.mp hE
        refine y_cVi0 (st := [.int q18.1]) (as := [.int x19, .int x20, .int x21]) (c_X7_row eq23) lk_L_17 in_X7_row se_X7_row rfl eu22 ⟨Nat.le_of_ble_eq_true rfl, Nat.le_of_ble_eq_true rfl⟩ (Nat.le_of_ble_eq_true rfl) dL_law_263 ⟨by omega, by omega⟩ rfl ?_
        refine y_icmp_eq (tgt := 1560) dL_law_266 (by decide) (fun hc25 => ?_) (fun hc25 => ?_)
        · rw [if_pos hc25] at hE
          obtain ⟨x24, ex24, hE⟩ := Option.bind_eq_some_iff.mp hE
          refine y_iinc (ls' := [(3, .int x24), (0, .ref 0), (1, .ref v1), (2, .ref v2)]) dL_law_1560 3 rfl (Option.some.inj ex24) (by decide) rfl ?_
          refine y_goto (tgt := 18) dL_law_1563 (by decide) ?_
          refine y_pick [1, 2, 3, 0] rfl ?_
          exact ih _ _ _ _ _ _ _ hE (by omega) (by omega) hm KR K
        · rw [if_neg hc25] at hE
          refine y_iconst (v := (0 : Int32)) dL_law_269 (by decide) ?_
          obtain ⟨rfl, rfl, rfl⟩ := x_inj3 hE
          obtain ⟨rfl, rfl⟩ := KR _ rfl
          dsimp only
          exact y_ret dL_law_270 (by omega) (by omega) ⟨_, rfl, rfl⟩
      · rw [if_neg hc26] at hE
        by_cases hc41 : (x13 &&& (63 : Int32)) = (1 : Int32)
        · rw [if_pos hc41] at hE
          have hk := hc41
          refine y_tabIn (tgt := 271) dL_law_33 (by rw [hk]; decide) (by rw [hk]; decide) (by rw [hk]; rfl) (by decide) ?_
          refine y_aload_n dL_law_271 1 rfl ?_
          refine y_aload_n dL_law_272 0 rfl ?_
          refine y_iload_n dL_law_273 3 rfl ?_
          refine y_iconst (v := (1 : Int32)) dL_law_274 (by decide) ?_
          refine y_iadd dL_law_275 ?_
          obtain ⟨x27, ex27, hE⟩ := Option.bind_eq_some_iff.mp hE
          refine y_sld' ex27 dL_law_276 ?_
          refine y_aload_n dL_law_277 0 rfl ?_
          refine y_iload_n dL_law_278 3 rfl ?_
          refine y_iconst (v := (2 : Int32)) dL_law_279 (by decide) ?_
          refine y_iadd dL_law_280 ?_
          obtain ⟨x28, ex28, hE⟩ := Option.bind_eq_some_iff.mp hE
          refine y_sld' ex28 dL_law_281 ?_
          refine y_aload_n dL_law_282 0 rfl ?_
          refine y_iload_n dL_law_283 3 rfl ?_
          refine y_iconst (v := (3 : Int32)) dL_law_284 (by decide) ?_
          refine y_iadd dL_law_285 ?_
          obtain ⟨x29, ex29, hE⟩ := Option.bind_eq_some_iff.mp hE
          refine y_sld' ex29 dL_law_286 ?_
          refine y_i2l dL_law_287 ?_
          refine y_bipush (v := (32 : Int32)) dL_law_288 (by decide) ?_
          refine y_lshl dL_law_290 ?_
          refine y_aload_n dL_law_291 0 rfl ?_
          refine y_iload_n dL_law_292 3 rfl ?_
          refine y_iconst (v := (4 : Int32)) dL_law_293 (by decide) ?_
          refine y_iadd dL_law_294 ?_
          obtain ⟨x30, ex30, hE⟩ := Option.bind_eq_some_iff.mp hE
          refine y_sld' ex30 dL_law_295 ?_
          refine y_i2l dL_law_296 ?_
          refine y_ldc2 (v := (4294967295 : Int64)) (x_wt (tb 1463 (by decide +kernel)) rfl) dL_law_297 ?_
          refine y_land dL_law_300 ?_
          refine y_lor dL_law_301 ?_
          obtain ⟨u31, eu31, hE⟩ := Option.bind_eq_some_iff.mp hE
          obtain ⟨q32, eq32, hE⟩ := Option.bind_eq_some_iff.mp hE
          refine y_cVi0 (st := []) (as := [.int x27, .int x28, .long ((l_shl x29.toInt64 (32 : Int32)) ||| (x30.toInt64 &&& (4294967295 : Int64)))]) (c_X6_set eq32) lk_L_20 in_X6_set se_X6_set rfl eu31 ⟨Nat.le_of_ble_eq_true rfl, Nat.le_of_ble_eq_true rfl⟩ (Nat.le_of_ble_eq_true rfl) dL_law_302 ⟨by omega, by omega⟩ rfl ?_
          refine y_aload_n dL_law_305 2 rfl ?_
          refine y_aload_n dL_law_306 0 rfl ?_
          refine y_iload_n dL_law_307 3 rfl ?_
          refine y_iconst (v := (1 : Int32)) dL_law_308 (by decide) ?_
          refine y_iadd dL_law_309 ?_
          obtain ⟨x33, ex33, hE⟩ := Option.bind_eq_some_iff.mp hE
          refine y_sld' ex33 dL_law_310 ?_
          refine y_aload_n dL_law_311 0 rfl ?_
          refine y_iload_n dL_law_312 3 rfl ?_
          refine y_iconst (v := (2 : Int32)) dL_law_313 (by decide) ?_
          refine y_iadd dL_law_314 ?_
          obtain ⟨x34, ex34, hE⟩ := Option.bind_eq_some_iff.mp hE
          refine y_sld' ex34 dL_law_315 ?_
          refine y_aload_n dL_law_316 0 rfl ?_
          refine y_iload_n dL_law_317 3 rfl ?_
          refine y_iconst (v := (3 : Int32)) dL_law_318 (by decide) ?_
          refine y_iadd dL_law_319 ?_
          obtain ⟨x35, ex35, hE⟩ := Option.bind_eq_some_iff.mp hE
          refine y_sld' ex35 dL_law_320 ?_
          refine y_i2l dL_law_321 ?_
          refine y_bipush (v := (32 : Int32)) dL_law_322 (by decide) ?_
          refine y_lshl dL_law_324 ?_
          refine y_aload_n dL_law_325 0 rfl ?_
          refine y_iload_n dL_law_326 3 rfl ?_
          refine y_iconst (v := (4 : Int32)) dL_law_327 (by decide) ?_
          refine y_iadd dL_law_328 ?_
          obtain ⟨x36, ex36, hE⟩ := Option.bind_eq_some_iff.mp hE
          refine y_sld' ex36 dL_law_329 ?_
          refine y_i2l dL_law_330 ?_
          refine y_ldc2 (v := (4294967295 : Int64)) (x_wt (tb 1463 (by decide +kernel)) rfl) dL_law_331 ?_
          refine y_land dL_law_334 ?_
          refine y_lor dL_law_335 ?_
          obtain ⟨u37, eu37, hE⟩ := Option.bind_eq_some_iff.mp hE
          obtain ⟨q38, eq38, hE⟩ := Option.bind_eq_some_iff.mp hE
          refine y_cVi0 (st := [.int q32.1]) (as := [.int x33, .int x34, .long ((l_shl x35.toInt64 (32 : Int32)) ||| (x36.toInt64 &&& (4294967295 : Int64)))]) (c_X7_set eq38) lk_L_24 in_X7_set se_X7_set rfl eu37 ⟨Nat.le_of_ble_eq_true rfl, Nat.le_of_ble_eq_true rfl⟩ (Nat.le_of_ble_eq_true rfl) dL_law_336 ⟨by omega, by omega⟩ rfl ?_
          refine y_icmp_eq (tgt := 1560) dL_law_339 (by decide) (fun hc40 => ?_) (fun hc40 => ?_)
          · rw [if_pos hc40] at hE
            obtain ⟨x39, ex39, hE⟩ := Option.bind_eq_some_iff.mp hE
            refine y_iinc (ls' := [(3, .int x39), (0, .ref 0), (1, .ref v1), (2, .ref v2)]) dL_law_1560 3 rfl (Option.some.inj ex39) (by decide) rfl ?_
            refine y_goto (tgt := 18) dL_law_1563 (by decide) ?_
            refine y_pick [1, 2, 3, 0] rfl ?_
            exact ih _ _ _ _ _ _ _ hE (by omega) (by omega) hm KR K
          · rw [if_neg hc40] at hE
            refine y_iconst (v := (0 : Int32)) dL_law_342 (by decide) ?_
            obtain ⟨rfl, rfl, rfl⟩ := x_inj3 hE
            obtain ⟨rfl, rfl⟩ := KR _ rfl
            dsimp only
            exact y_ret dL_law_343 (by omega) (by omega) ⟨_, rfl, rfl⟩
        · rw [if_neg hc41] at hE
          by_cases hc58 : (x13 &&& (63 : Int32)) = (2 : Int32)
          · rw [if_pos hc58] at hE
            have hk := hc58
            refine y_tabIn (tgt := 344) dL_law_33 (by rw [hk]; decide) (by rw [hk]; decide) (by rw [hk]; rfl) (by decide) ?_
            refine y_aload_n dL_law_344 1 rfl ?_
            refine y_aload_n dL_law_345 0 rfl ?_
            refine y_iload_n dL_law_346 3 rfl ?_
            refine y_iconst (v := (1 : Int32)) dL_law_347 (by decide) ?_
            refine y_iadd dL_law_348 ?_
            obtain ⟨x42, ex42, hE⟩ := Option.bind_eq_some_iff.mp hE
            refine y_sld' ex42 dL_law_349 ?_
            refine y_aload_n dL_law_350 0 rfl ?_
            refine y_iload_n dL_law_351 3 rfl ?_
            refine y_iconst (v := (2 : Int32)) dL_law_352 (by decide) ?_
            refine y_iadd dL_law_353 ?_
            obtain ⟨x43, ex43, hE⟩ := Option.bind_eq_some_iff.mp hE
            refine y_sld' ex43 dL_law_354 ?_
            refine y_aload_n dL_law_355 0 rfl ?_
            refine y_iload_n dL_law_356 3 rfl ?_
            refine y_iconst (v := (3 : Int32)) dL_law_357 (by decide) ?_
            refine y_iadd dL_law_358 ?_
            obtain ⟨x44, ex44, hE⟩ := Option.bind_eq_some_iff.mp hE
            refine y_sld' ex44 dL_law_359 ?_
            refine y_aload_n dL_law_360 0 rfl ?_
            refine y_iload_n dL_law_361 3 rfl ?_
            refine y_iconst (v := (4 : Int32)) dL_law_362 (by decide) ?_
            refine y_iadd dL_law_363 ?_
            obtain ⟨x45, ex45, hE⟩ := Option.bind_eq_some_iff.mp hE
            refine y_sld' ex45 dL_law_364 ?_
            refine y_aload_n dL_law_365 0 rfl ?_
            refine y_iload_n dL_law_366 3 rfl ?_
            refine y_iconst (v := (5 : Int32)) dL_law_367 (by decide) ?_
            refine y_iadd dL_law_368 ?_
            obtain ⟨x46, ex46, hE⟩ := Option.bind_eq_some_iff.mp hE
            refine y_sld' ex46 dL_law_369 ?_
            obtain ⟨u47, eu47, hE⟩ := Option.bind_eq_some_iff.mp hE
            obtain ⟨q48, eq48, hE⟩ := Option.bind_eq_some_iff.mp hE
            refine y_cVi0 (st := []) (as := [.int x42, .int x43, .int x44, .int x45, .int x46]) (c_X6_copy eq48) lk_L_25 in_X6_copy se_X6_copy rfl eu47 ⟨Nat.le_of_ble_eq_true rfl, Nat.le_of_ble_eq_true rfl⟩ (Nat.le_of_ble_eq_true rfl) dL_law_370 ⟨by omega, by omega⟩ rfl ?_
            refine y_aload_n dL_law_373 2 rfl ?_
            refine y_aload_n dL_law_374 0 rfl ?_
            refine y_iload_n dL_law_375 3 rfl ?_
            refine y_iconst (v := (1 : Int32)) dL_law_376 (by decide) ?_
            refine y_iadd dL_law_377 ?_
            obtain ⟨x49, ex49, hE⟩ := Option.bind_eq_some_iff.mp hE
            refine y_sld' ex49 dL_law_378 ?_
            refine y_aload_n dL_law_379 0 rfl ?_
            refine y_iload_n dL_law_380 3 rfl ?_
            refine y_iconst (v := (2 : Int32)) dL_law_381 (by decide) ?_
            refine y_iadd dL_law_382 ?_
            obtain ⟨x50, ex50, hE⟩ := Option.bind_eq_some_iff.mp hE
            refine y_sld' ex50 dL_law_383 ?_
            refine y_aload_n dL_law_384 0 rfl ?_
            refine y_iload_n dL_law_385 3 rfl ?_
            refine y_iconst (v := (3 : Int32)) dL_law_386 (by decide) ?_
            refine y_iadd dL_law_387 ?_
            obtain ⟨x51, ex51, hE⟩ := Option.bind_eq_some_iff.mp hE
            refine y_sld' ex51 dL_law_388 ?_
            refine y_aload_n dL_law_389 0 rfl ?_
            refine y_iload_n dL_law_390 3 rfl ?_
            refine y_iconst (v := (4 : Int32)) dL_law_391 (by decide) ?_
            refine y_iadd dL_law_392 ?_
            obtain ⟨x52, ex52, hE⟩ := Option.bind_eq_some_iff.mp hE
            refine y_sld' ex52 dL_law_393 ?_
            refine y_aload_n dL_law_394 0 rfl ?_
            refine y_iload_n dL_law_395 3 rfl ?_
            refine y_iconst (v := (5 : Int32)) dL_law_396 (by decide) ?_
            refine y_iadd dL_law_397 ?_
            obtain ⟨x53, ex53, hE⟩ := Option.bind_eq_some_iff.mp hE
            refine y_sld' ex53 dL_law_398 ?_
            obtain ⟨u54, eu54, hE⟩ := Option.bind_eq_some_iff.mp hE
            obtain ⟨q55, eq55, hE⟩ := Option.bind_eq_some_iff.mp hE
            refine y_cVi0 (st := [.int q48.1]) (as := [.int x49, .int x50, .int x51, .int x52, .int x53]) (c_X7_copy eq55) lk_L_29 in_X7_copy se_X7_copy rfl eu54 ⟨Nat.le_of_ble_eq_true rfl, Nat.le_of_ble_eq_true rfl⟩ (Nat.le_of_ble_eq_true rfl) dL_law_399 ⟨by omega, by omega⟩ rfl ?_
            refine y_icmp_eq (tgt := 1560) dL_law_402 (by decide) (fun hc57 => ?_) (fun hc57 => ?_)
            · rw [if_pos hc57] at hE
              obtain ⟨x56, ex56, hE⟩ := Option.bind_eq_some_iff.mp hE
              refine y_iinc (ls' := [(3, .int x56), (0, .ref 0), (1, .ref v1), (2, .ref v2)]) dL_law_1560 3 rfl (Option.some.inj ex56) (by decide) rfl ?_
              refine y_goto (tgt := 18) dL_law_1563 (by decide) ?_
              refine y_pick [1, 2, 3, 0] rfl ?_
              exact ih _ _ _ _ _ _ _ hE (by omega) (by omega) hm KR K
            · rw [if_neg hc57] at hE
              refine y_iconst (v := (0 : Int32)) dL_law_405 (by decide) ?_
              obtain ⟨rfl, rfl, rfl⟩ := x_inj3 hE
              obtain ⟨rfl, rfl⟩ := KR _ rfl
              dsimp only
              exact y_ret dL_law_406 (by omega) (by omega) ⟨_, rfl, rfl⟩
          · rw [if_neg hc58] at hE
            by_cases hc69 : (x13 &&& (63 : Int32)) = (3 : Int32)
            · rw [if_pos hc69] at hE
              have hk := hc69
              refine y_tabIn (tgt := 407) dL_law_33 (by rw [hk]; decide) (by rw [hk]; decide) (by rw [hk]; rfl) (by decide) ?_
              refine y_aload_n dL_law_407 1 rfl ?_
              refine y_aload_n dL_law_408 0 rfl ?_
              refine y_iload_n dL_law_409 3 rfl ?_
              refine y_iconst (v := (1 : Int32)) dL_law_410 (by decide) ?_
              refine y_iadd dL_law_411 ?_
              obtain ⟨x59, ex59, hE⟩ := Option.bind_eq_some_iff.mp hE
              refine y_sld' ex59 dL_law_412 ?_
              refine y_aload_n dL_law_413 0 rfl ?_
              refine y_iload_n dL_law_414 3 rfl ?_
              refine y_iconst (v := (2 : Int32)) dL_law_415 (by decide) ?_
              refine y_iadd dL_law_416 ?_
              obtain ⟨x60, ex60, hE⟩ := Option.bind_eq_some_iff.mp hE
              refine y_sld' ex60 dL_law_417 ?_
              obtain ⟨u61, eu61, hE⟩ := Option.bind_eq_some_iff.mp hE
              obtain ⟨q62, eq62, hE⟩ := Option.bind_eq_some_iff.mp hE
              refine y_cVl0 (st := []) (as := [.int x59, .int x60]) (c_X6_element eq62) lk_L_30 in_X6_element se_X6_element rfl eu61 ⟨Nat.le_of_ble_eq_true rfl, Nat.le_of_ble_eq_true rfl⟩ (Nat.le_of_ble_eq_true rfl) dL_law_418 ⟨by omega, by omega⟩ rfl ?_
              refine y_aload_n dL_law_421 2 rfl ?_
              refine y_aload_n dL_law_422 0 rfl ?_
              refine y_iload_n dL_law_423 3 rfl ?_
              refine y_iconst (v := (1 : Int32)) dL_law_424 (by decide) ?_
              refine y_iadd dL_law_425 ?_
              obtain ⟨x63, ex63, hE⟩ := Option.bind_eq_some_iff.mp hE
              refine y_sld' ex63 dL_law_426 ?_
              refine y_aload_n dL_law_427 0 rfl ?_
              refine y_iload_n dL_law_428 3 rfl ?_
              refine y_iconst (v := (2 : Int32)) dL_law_429 (by decide) ?_
              refine y_iadd dL_law_430 ?_
              obtain ⟨x64, ex64, hE⟩ := Option.bind_eq_some_iff.mp hE
              refine y_sld' ex64 dL_law_431 ?_
              obtain ⟨u65, eu65, hE⟩ := Option.bind_eq_some_iff.mp hE
              obtain ⟨q66, eq66, hE⟩ := Option.bind_eq_some_iff.mp hE
              refine y_cVl0 (st := [.long q62]) (as := [.int x63, .int x64]) (c_X7_element eq66) lk_L_34 in_X7_element se_X7_element rfl eu65 ⟨Nat.le_of_ble_eq_true rfl, Nat.le_of_ble_eq_true rfl⟩ (Nat.le_of_ble_eq_true rfl) dL_law_432 ⟨by omega, by omega⟩ rfl ?_
              refine y_lcmp dL_law_435 ?_
              refine y_if_eq (tgt := 1560) dL_law_436 (by decide) (fun hc68 => ?_) (fun hc68 => ?_)
              · rw [if_pos hc68] at hE
                obtain ⟨x67, ex67, hE⟩ := Option.bind_eq_some_iff.mp hE
                refine y_iinc (ls' := [(3, .int x67), (0, .ref 0), (1, .ref v1), (2, .ref v2)]) dL_law_1560 3 rfl (Option.some.inj ex67) (by decide) rfl ?_
                refine y_goto (tgt := 18) dL_law_1563 (by decide) ?_
                refine y_pick [1, 2, 3, 0] rfl ?_
                exact ih _ _ _ _ _ _ _ hE (by omega) (by omega) hm KR K
              · rw [if_neg hc68] at hE
                refine y_iconst (v := (0 : Int32)) dL_law_439 (by decide) ?_
                obtain ⟨rfl, rfl, rfl⟩ := x_inj3 hE
                obtain ⟨rfl, rfl⟩ := KR _ rfl
                dsimp only
                exact y_ret dL_law_440 (by omega) (by omega) ⟨_, rfl, rfl⟩
            · rw [if_neg hc69] at hE
              by_cases hc78 : (x13 &&& (63 : Int32)) = (4 : Int32)
              · rw [if_pos hc78] at hE
                have hk := hc78
                refine y_tabIn (tgt := 441) dL_law_33 (by rw [hk]; decide) (by rw [hk]; decide) (by rw [hk]; rfl) (by decide) ?_
                refine y_aload_n dL_law_441 1 rfl ?_
                refine y_aload_n dL_law_442 0 rfl ?_
                refine y_iload_n dL_law_443 3 rfl ?_
                refine y_iconst (v := (1 : Int32)) dL_law_444 (by decide) ?_
                refine y_iadd dL_law_445 ?_
                obtain ⟨x70, ex70, hE⟩ := Option.bind_eq_some_iff.mp hE
                refine y_sld' ex70 dL_law_446 ?_
                obtain ⟨u71, eu71, hE⟩ := Option.bind_eq_some_iff.mp hE
                obtain ⟨q72, eq72, hE⟩ := Option.bind_eq_some_iff.mp hE
                refine y_cVi0 (st := []) (as := [.int x70]) (c_X6_holds eq72) lk_L_35 in_X6_holds se_X6_holds rfl eu71 ⟨Nat.le_of_ble_eq_true rfl, Nat.le_of_ble_eq_true rfl⟩ (Nat.le_of_ble_eq_true rfl) dL_law_447 ⟨by omega, by omega⟩ rfl ?_
                refine y_aload_n dL_law_450 2 rfl ?_
                refine y_aload_n dL_law_451 0 rfl ?_
                refine y_iload_n dL_law_452 3 rfl ?_
                refine y_iconst (v := (1 : Int32)) dL_law_453 (by decide) ?_
                refine y_iadd dL_law_454 ?_
                obtain ⟨x73, ex73, hE⟩ := Option.bind_eq_some_iff.mp hE
                refine y_sld' ex73 dL_law_455 ?_
                obtain ⟨u74, eu74, hE⟩ := Option.bind_eq_some_iff.mp hE
                obtain ⟨q75, eq75, hE⟩ := Option.bind_eq_some_iff.mp hE
                refine y_cVi0 (st := [.int q72]) (as := [.int x73]) (c_X7_holds eq75) lk_L_39 in_X7_holds se_X7_holds rfl eu74 ⟨Nat.le_of_ble_eq_true rfl, Nat.le_of_ble_eq_true rfl⟩ (Nat.le_of_ble_eq_true rfl) dL_law_456 ⟨by omega, by omega⟩ rfl ?_
                refine y_icmp_eq (tgt := 1560) dL_law_459 (by decide) (fun hc77 => ?_) (fun hc77 => ?_)
                · rw [if_pos hc77] at hE
                  obtain ⟨x76, ex76, hE⟩ := Option.bind_eq_some_iff.mp hE
                  refine y_iinc (ls' := [(3, .int x76), (0, .ref 0), (1, .ref v1), (2, .ref v2)]) dL_law_1560 3 rfl (Option.some.inj ex76) (by decide) rfl ?_
                  refine y_goto (tgt := 18) dL_law_1563 (by decide) ?_
                  refine y_pick [1, 2, 3, 0] rfl ?_
                  exact ih _ _ _ _ _ _ _ hE (by omega) (by omega) hm KR K
                · rw [if_neg hc77] at hE
                  refine y_iconst (v := (0 : Int32)) dL_law_462 (by decide) ?_
                  obtain ⟨rfl, rfl, rfl⟩ := x_inj3 hE
                  obtain ⟨rfl, rfl⟩ := KR _ rfl
                  dsimp only
                  exact y_ret dL_law_463 (by omega) (by omega) ⟨_, rfl, rfl⟩
              · rw [if_neg hc78] at hE
                by_cases hc89 : (x13 &&& (63 : Int32)) = (5 : Int32)
                · rw [if_pos hc89] at hE
                  have hk := hc89
                  refine y_tabIn (tgt := 464) dL_law_33 (by rw [hk]; decide) (by rw [hk]; decide) (by rw [hk]; rfl) (by decide) ?_
                  refine y_aload_n dL_law_464 1 rfl ?_
                  refine y_aload_n dL_law_465 0 rfl ?_
                  refine y_iload_n dL_law_466 3 rfl ?_
                  refine y_iconst (v := (1 : Int32)) dL_law_467 (by decide) ?_
                  refine y_iadd dL_law_468 ?_
                  obtain ⟨x79, ex79, hE⟩ := Option.bind_eq_some_iff.mp hE
                  refine y_sld' ex79 dL_law_469 ?_
                  refine y_aload_n dL_law_470 0 rfl ?_
                  refine y_iload_n dL_law_471 3 rfl ?_
                  refine y_iconst (v := (2 : Int32)) dL_law_472 (by decide) ?_
                  refine y_iadd dL_law_473 ?_
                  obtain ⟨x80, ex80, hE⟩ := Option.bind_eq_some_iff.mp hE
                  refine y_sld' ex80 dL_law_474 ?_
                  obtain ⟨u81, eu81, hE⟩ := Option.bind_eq_some_iff.mp hE
                  obtain ⟨q82, eq82, hE⟩ := Option.bind_eq_some_iff.mp hE
                  refine y_cVi0 (st := []) (as := [.int x79, .int x80]) (c_X6_show eq82) lk_L_40 in_X6_show se_X6_show rfl eu81 ⟨Nat.le_of_ble_eq_true rfl, Nat.le_of_ble_eq_true rfl⟩ (Nat.le_of_ble_eq_true rfl) dL_law_475 ⟨by omega, by omega⟩ rfl ?_
                  refine y_aload_n dL_law_478 2 rfl ?_
                  refine y_aload_n dL_law_479 0 rfl ?_
                  refine y_iload_n dL_law_480 3 rfl ?_
                  refine y_iconst (v := (1 : Int32)) dL_law_481 (by decide) ?_
                  refine y_iadd dL_law_482 ?_
                  obtain ⟨x83, ex83, hE⟩ := Option.bind_eq_some_iff.mp hE
                  refine y_sld' ex83 dL_law_483 ?_
                  refine y_aload_n dL_law_484 0 rfl ?_
                  refine y_iload_n dL_law_485 3 rfl ?_
                  refine y_iconst (v := (2 : Int32)) dL_law_486 (by decide) ?_
                  refine y_iadd dL_law_487 ?_
                  obtain ⟨x84, ex84, hE⟩ := Option.bind_eq_some_iff.mp hE
                  refine y_sld' ex84 dL_law_488 ?_
                  obtain ⟨u85, eu85, hE⟩ := Option.bind_eq_some_iff.mp hE
                  obtain ⟨q86, eq86, hE⟩ := Option.bind_eq_some_iff.mp hE
                  refine y_cVi0 (st := [.int q82.1]) (as := [.int x83, .int x84]) (c_X7_show eq86) lk_L_44 in_X7_show se_X7_show rfl eu85 ⟨Nat.le_of_ble_eq_true rfl, Nat.le_of_ble_eq_true rfl⟩ (Nat.le_of_ble_eq_true rfl) dL_law_489 ⟨by omega, by omega⟩ rfl ?_
                  refine y_icmp_eq (tgt := 1560) dL_law_492 (by decide) (fun hc88 => ?_) (fun hc88 => ?_)
                  · rw [if_pos hc88] at hE
                    obtain ⟨x87, ex87, hE⟩ := Option.bind_eq_some_iff.mp hE
                    refine y_iinc (ls' := [(3, .int x87), (0, .ref 0), (1, .ref v1), (2, .ref v2)]) dL_law_1560 3 rfl (Option.some.inj ex87) (by decide) rfl ?_
                    refine y_goto (tgt := 18) dL_law_1563 (by decide) ?_
                    refine y_pick [1, 2, 3, 0] rfl ?_
                    exact ih _ _ _ _ _ _ _ hE (by omega) (by omega) hm KR K
                  · rw [if_neg hc88] at hE
                    refine y_iconst (v := (0 : Int32)) dL_law_495 (by decide) ?_
                    obtain ⟨rfl, rfl, rfl⟩ := x_inj3 hE
                    obtain ⟨rfl, rfl⟩ := KR _ rfl
                    dsimp only
                    exact y_ret dL_law_496 (by omega) (by omega) ⟨_, rfl, rfl⟩
                · rw [if_neg hc89] at hE
                  by_cases hc100 : (x13 &&& (63 : Int32)) = (6 : Int32)
                  · rw [if_pos hc100] at hE
                    have hk := hc100
                    refine y_tabIn (tgt := 497) dL_law_33 (by rw [hk]; decide) (by rw [hk]; decide) (by rw [hk]; rfl) (by decide) ?_
                    refine y_aload_n dL_law_497 1 rfl ?_
                    refine y_aload_n dL_law_498 0 rfl ?_
                    refine y_iload_n dL_law_499 3 rfl ?_
                    refine y_iconst (v := (1 : Int32)) dL_law_500 (by decide) ?_
                    refine y_iadd dL_law_501 ?_
                    obtain ⟨x90, ex90, hE⟩ := Option.bind_eq_some_iff.mp hE
                    refine y_sld' ex90 dL_law_502 ?_
                    refine y_aload_n dL_law_503 0 rfl ?_
                    refine y_iload_n dL_law_504 3 rfl ?_
                    refine y_iconst (v := (2 : Int32)) dL_law_505 (by decide) ?_
                    refine y_iadd dL_law_506 ?_
                    obtain ⟨x91, ex91, hE⟩ := Option.bind_eq_some_iff.mp hE
                    refine y_sld' ex91 dL_law_507 ?_
                    obtain ⟨u92, eu92, hE⟩ := Option.bind_eq_some_iff.mp hE
                    obtain ⟨q93, eq93, hE⟩ := Option.bind_eq_some_iff.mp hE
                    refine y_cVi0 (st := []) (as := [.int x90, .int x91]) (c_X6_says eq93) lk_L_45 in_X6_says se_X6_says rfl eu92 ⟨Nat.le_of_ble_eq_true rfl, Nat.le_of_ble_eq_true rfl⟩ (Nat.le_of_ble_eq_true rfl) dL_law_508 ⟨by omega, by omega⟩ rfl ?_
                    refine y_aload_n dL_law_511 2 rfl ?_
                    refine y_aload_n dL_law_512 0 rfl ?_
                    refine y_iload_n dL_law_513 3 rfl ?_
                    refine y_iconst (v := (1 : Int32)) dL_law_514 (by decide) ?_
                    refine y_iadd dL_law_515 ?_
                    obtain ⟨x94, ex94, hE⟩ := Option.bind_eq_some_iff.mp hE
                    refine y_sld' ex94 dL_law_516 ?_
                    refine y_aload_n dL_law_517 0 rfl ?_
                    refine y_iload_n dL_law_518 3 rfl ?_
                    refine y_iconst (v := (2 : Int32)) dL_law_519 (by decide) ?_
                    refine y_iadd dL_law_520 ?_
                    obtain ⟨x95, ex95, hE⟩ := Option.bind_eq_some_iff.mp hE
                    refine y_sld' ex95 dL_law_521 ?_
                    obtain ⟨u96, eu96, hE⟩ := Option.bind_eq_some_iff.mp hE
                    obtain ⟨q97, eq97, hE⟩ := Option.bind_eq_some_iff.mp hE
                    refine y_cVi0 (st := [.int q93.1]) (as := [.int x94, .int x95]) (c_X7_says eq97) lk_L_48 in_X7_says se_X7_says rfl eu96 ⟨Nat.le_of_ble_eq_true rfl, Nat.le_of_ble_eq_true rfl⟩ (Nat.le_of_ble_eq_true rfl) dL_law_522 ⟨by omega, by omega⟩ rfl ?_
                    refine y_icmp_eq (tgt := 1560) dL_law_525 (by decide) (fun hc99 => ?_) (fun hc99 => ?_)
                    · rw [if_pos hc99] at hE
                      obtain ⟨x98, ex98, hE⟩ := Option.bind_eq_some_iff.mp hE
                      refine y_iinc (ls' := [(3, .int x98), (0, .ref 0), (1, .ref v1), (2, .ref v2)]) dL_law_1560 3 rfl (Option.some.inj ex98) (by decide) rfl ?_
                      refine y_goto (tgt := 18) dL_law_1563 (by decide) ?_
                      refine y_pick [1, 2, 3, 0] rfl ?_
                      exact ih _ _ _ _ _ _ _ hE (by omega) (by omega) hm KR K
                    · rw [if_neg hc99] at hE
                      refine y_iconst (v := (0 : Int32)) dL_law_528 (by decide) ?_
                      obtain ⟨rfl, rfl, rfl⟩ := x_inj3 hE
                      obtain ⟨rfl, rfl⟩ := KR _ rfl
                      dsimp only
                      exact y_ret dL_law_529 (by omega) (by omega) ⟨_, rfl, rfl⟩
                  · rw [if_neg hc100] at hE
                    by_cases hc113 : (x13 &&& (63 : Int32)) = (7 : Int32)
                    · rw [if_pos hc113] at hE
                      have hk := hc113
                      refine y_tabIn (tgt := 530) dL_law_33 (by rw [hk]; decide) (by rw [hk]; decide) (by rw [hk]; rfl) (by decide) ?_
                      refine y_aload_n dL_law_530 1 rfl ?_
                      refine y_aload_n dL_law_531 0 rfl ?_
                      refine y_iload_n dL_law_532 3 rfl ?_
                      refine y_iconst (v := (1 : Int32)) dL_law_533 (by decide) ?_
                      refine y_iadd dL_law_534 ?_
                      obtain ⟨x101, ex101, hE⟩ := Option.bind_eq_some_iff.mp hE
                      refine y_sld' ex101 dL_law_535 ?_
                      refine y_aload_n dL_law_536 0 rfl ?_
                      refine y_iload_n dL_law_537 3 rfl ?_
                      refine y_iconst (v := (2 : Int32)) dL_law_538 (by decide) ?_
                      refine y_iadd dL_law_539 ?_
                      obtain ⟨x102, ex102, hE⟩ := Option.bind_eq_some_iff.mp hE
                      refine y_sld' ex102 dL_law_540 ?_
                      refine y_aload_n dL_law_541 0 rfl ?_
                      refine y_iload_n dL_law_542 3 rfl ?_
                      refine y_iconst (v := (3 : Int32)) dL_law_543 (by decide) ?_
                      refine y_iadd dL_law_544 ?_
                      obtain ⟨x103, ex103, hE⟩ := Option.bind_eq_some_iff.mp hE
                      refine y_sld' ex103 dL_law_545 ?_
                      obtain ⟨u104, eu104, hE⟩ := Option.bind_eq_some_iff.mp hE
                      obtain ⟨q105, eq105, hE⟩ := Option.bind_eq_some_iff.mp hE
                      refine y_cVi0 (st := []) (as := [.int x101, .int x102, .int x103]) (c_X6_door eq105) lk_L_49 in_X6_door se_X6_door rfl eu104 ⟨Nat.le_of_ble_eq_true rfl, Nat.le_of_ble_eq_true rfl⟩ (Nat.le_of_ble_eq_true rfl) dL_law_546 ⟨by omega, by omega⟩ rfl ?_
                      refine y_aload_n dL_law_549 2 rfl ?_
                      refine y_aload_n dL_law_550 0 rfl ?_
                      refine y_iload_n dL_law_551 3 rfl ?_
                      refine y_iconst (v := (1 : Int32)) dL_law_552 (by decide) ?_
                      refine y_iadd dL_law_553 ?_
                      obtain ⟨x106, ex106, hE⟩ := Option.bind_eq_some_iff.mp hE
                      refine y_sld' ex106 dL_law_554 ?_
                      refine y_aload_n dL_law_555 0 rfl ?_
                      refine y_iload_n dL_law_556 3 rfl ?_
                      refine y_iconst (v := (2 : Int32)) dL_law_557 (by decide) ?_
                      refine y_iadd dL_law_558 ?_
                      obtain ⟨x107, ex107, hE⟩ := Option.bind_eq_some_iff.mp hE
                      refine y_sld' ex107 dL_law_559 ?_
                      refine y_aload_n dL_law_560 0 rfl ?_
                      refine y_iload_n dL_law_561 3 rfl ?_
                      refine y_iconst (v := (3 : Int32)) dL_law_562 (by decide) ?_
                      refine y_iadd dL_law_563 ?_
                      obtain ⟨x108, ex108, hE⟩ := Option.bind_eq_some_iff.mp hE
                      refine y_sld' ex108 dL_law_564 ?_
                      obtain ⟨u109, eu109, hE⟩ := Option.bind_eq_some_iff.mp hE
                      obtain ⟨q110, eq110, hE⟩ := Option.bind_eq_some_iff.mp hE
                      refine y_cVi0 (st := [.int q105.1]) (as := [.int x106, .int x107, .int x108]) (c_X7_door eq110) lk_L_52 in_X7_door se_X7_door rfl eu109 ⟨Nat.le_of_ble_eq_true rfl, Nat.le_of_ble_eq_true rfl⟩ (Nat.le_of_ble_eq_true rfl) dL_law_565 ⟨by omega, by omega⟩ rfl ?_
                      refine y_icmp_eq (tgt := 1560) dL_law_568 (by decide) (fun hc112 => ?_) (fun hc112 => ?_)
                      · rw [if_pos hc112] at hE
                        obtain ⟨x111, ex111, hE⟩ := Option.bind_eq_some_iff.mp hE
                        refine y_iinc (ls' := [(3, .int x111), (0, .ref 0), (1, .ref v1), (2, .ref v2)]) dL_law_1560 3 rfl (Option.some.inj ex111) (by decide) rfl ?_
                        refine y_goto (tgt := 18) dL_law_1563 (by decide) ?_
                        refine y_pick [1, 2, 3, 0] rfl ?_
                        exact ih _ _ _ _ _ _ _ hE (by omega) (by omega) hm KR K
                      · rw [if_neg hc112] at hE
                        refine y_iconst (v := (0 : Int32)) dL_law_571 (by decide) ?_
                        obtain ⟨rfl, rfl, rfl⟩ := x_inj3 hE
                        obtain ⟨rfl, rfl⟩ := KR _ rfl
                        dsimp only
                        exact y_ret dL_law_572 (by omega) (by omega) ⟨_, rfl, rfl⟩
                    · rw [if_neg hc113] at hE
                      by_cases hc122 : (x13 &&& (63 : Int32)) = (8 : Int32)
                      · rw [if_pos hc122] at hE
                        have hk := hc122
                        refine y_tabIn (tgt := 573) dL_law_33 (by rw [hk]; decide) (by rw [hk]; decide) (by rw [hk]; rfl) (by decide) ?_
                        refine y_aload_n dL_law_573 1 rfl ?_
                        refine y_aload_n dL_law_574 0 rfl ?_
                        refine y_iload_n dL_law_575 3 rfl ?_
                        refine y_iconst (v := (1 : Int32)) dL_law_576 (by decide) ?_
                        refine y_iadd dL_law_577 ?_
                        obtain ⟨x114, ex114, hE⟩ := Option.bind_eq_some_iff.mp hE
                        refine y_sld' ex114 dL_law_578 ?_
                        obtain ⟨u115, eu115, hE⟩ := Option.bind_eq_some_iff.mp hE
                        obtain ⟨q116, eq116, hE⟩ := Option.bind_eq_some_iff.mp hE
                        refine y_cVi0 (st := []) (as := [.int x114]) (c_X6_one eq116) lk_L_53 in_X6_one se_X6_one rfl eu115 ⟨Nat.le_of_ble_eq_true rfl, Nat.le_of_ble_eq_true rfl⟩ (Nat.le_of_ble_eq_true rfl) dL_law_579 ⟨by omega, by omega⟩ rfl ?_
                        refine y_aload_n dL_law_582 2 rfl ?_
                        refine y_aload_n dL_law_583 0 rfl ?_
                        refine y_iload_n dL_law_584 3 rfl ?_
                        refine y_iconst (v := (1 : Int32)) dL_law_585 (by decide) ?_
                        refine y_iadd dL_law_586 ?_
                        obtain ⟨x117, ex117, hE⟩ := Option.bind_eq_some_iff.mp hE
                        refine y_sld' ex117 dL_law_587 ?_
                        obtain ⟨u118, eu118, hE⟩ := Option.bind_eq_some_iff.mp hE
                        obtain ⟨q119, eq119, hE⟩ := Option.bind_eq_some_iff.mp hE
                        refine y_cVi0 (st := [.int q116.1]) (as := [.int x117]) (c_X7_one eq119) lk_L_56 in_X7_one se_X7_one rfl eu118 ⟨Nat.le_of_ble_eq_true rfl, Nat.le_of_ble_eq_true rfl⟩ (Nat.le_of_ble_eq_true rfl) dL_law_588 ⟨by omega, by omega⟩ rfl ?_
                        refine y_icmp_eq (tgt := 1560) dL_law_591 (by decide) (fun hc121 => ?_) (fun hc121 => ?_)
                        · rw [if_pos hc121] at hE
                          obtain ⟨x120, ex120, hE⟩ := Option.bind_eq_some_iff.mp hE
                          refine y_iinc (ls' := [(3, .int x120), (0, .ref 0), (1, .ref v1), (2, .ref v2)]) dL_law_1560 3 rfl (Option.some.inj ex120) (by decide) rfl ?_
                          refine y_goto (tgt := 18) dL_law_1563 (by decide) ?_
                          refine y_pick [1, 2, 3, 0] rfl ?_
                          exact ih _ _ _ _ _ _ _ hE (by omega) (by omega) hm KR K
                        · rw [if_neg hc121] at hE
                          refine y_iconst (v := (0 : Int32)) dL_law_594 (by decide) ?_
                          obtain ⟨rfl, rfl, rfl⟩ := x_inj3 hE
                          obtain ⟨rfl, rfl⟩ := KR _ rfl
                          dsimp only
                          exact y_ret dL_law_595 (by omega) (by omega) ⟨_, rfl, rfl⟩
                      · rw [if_neg hc122] at hE
                        by_cases hc133 : (x13 &&& (63 : Int32)) = (9 : Int32)
                        · rw [if_pos hc133] at hE
                          have hk := hc133
                          refine y_tabIn (tgt := 596) dL_law_33 (by rw [hk]; decide) (by rw [hk]; decide) (by rw [hk]; rfl) (by decide) ?_
                          refine y_aload_n dL_law_596 1 rfl ?_
                          refine y_aload_n dL_law_597 0 rfl ?_
                          refine y_iload_n dL_law_598 3 rfl ?_
                          refine y_iconst (v := (1 : Int32)) dL_law_599 (by decide) ?_
                          refine y_iadd dL_law_600 ?_
                          obtain ⟨x123, ex123, hE⟩ := Option.bind_eq_some_iff.mp hE
                          refine y_sld' ex123 dL_law_601 ?_
                          refine y_aload_n dL_law_602 0 rfl ?_
                          refine y_iload_n dL_law_603 3 rfl ?_
                          refine y_iconst (v := (2 : Int32)) dL_law_604 (by decide) ?_
                          refine y_iadd dL_law_605 ?_
                          obtain ⟨x124, ex124, hE⟩ := Option.bind_eq_some_iff.mp hE
                          refine y_sld' ex124 dL_law_606 ?_
                          obtain ⟨u125, eu125, hE⟩ := Option.bind_eq_some_iff.mp hE
                          obtain ⟨q126, eq126, hE⟩ := Option.bind_eq_some_iff.mp hE
                          refine y_cVi0 (st := []) (as := [.int x123, .int x124]) (c_X6_ask eq126) lk_L_57 in_X6_ask se_X6_ask rfl eu125 ⟨Nat.le_of_ble_eq_true rfl, Nat.le_of_ble_eq_true rfl⟩ (Nat.le_of_ble_eq_true rfl) dL_law_607 ⟨by omega, by omega⟩ rfl ?_
                          refine y_aload_n dL_law_610 2 rfl ?_
                          refine y_aload_n dL_law_611 0 rfl ?_
                          refine y_iload_n dL_law_612 3 rfl ?_
                          refine y_iconst (v := (1 : Int32)) dL_law_613 (by decide) ?_
                          refine y_iadd dL_law_614 ?_
                          obtain ⟨x127, ex127, hE⟩ := Option.bind_eq_some_iff.mp hE
                          refine y_sld' ex127 dL_law_615 ?_
                          refine y_aload_n dL_law_616 0 rfl ?_
                          refine y_iload_n dL_law_617 3 rfl ?_
                          refine y_iconst (v := (2 : Int32)) dL_law_618 (by decide) ?_
                          refine y_iadd dL_law_619 ?_
                          obtain ⟨x128, ex128, hE⟩ := Option.bind_eq_some_iff.mp hE
                          refine y_sld' ex128 dL_law_620 ?_
                          obtain ⟨u129, eu129, hE⟩ := Option.bind_eq_some_iff.mp hE
                          obtain ⟨q130, eq130, hE⟩ := Option.bind_eq_some_iff.mp hE
                          refine y_cVi0 (st := [.int q126.1]) (as := [.int x127, .int x128]) (c_X7_ask eq130) lk_L_60 in_X7_ask se_X7_ask rfl eu129 ⟨Nat.le_of_ble_eq_true rfl, Nat.le_of_ble_eq_true rfl⟩ (Nat.le_of_ble_eq_true rfl) dL_law_621 ⟨by omega, by omega⟩ rfl ?_
                          refine y_icmp_eq (tgt := 1560) dL_law_624 (by decide) (fun hc132 => ?_) (fun hc132 => ?_)
                          · rw [if_pos hc132] at hE
                            obtain ⟨x131, ex131, hE⟩ := Option.bind_eq_some_iff.mp hE
                            refine y_iinc (ls' := [(3, .int x131), (0, .ref 0), (1, .ref v1), (2, .ref v2)]) dL_law_1560 3 rfl (Option.some.inj ex131) (by decide) rfl ?_
                            refine y_goto (tgt := 18) dL_law_1563 (by decide) ?_
                            refine y_pick [1, 2, 3, 0] rfl ?_
                            exact ih _ _ _ _ _ _ _ hE (by omega) (by omega) hm KR K
                          · rw [if_neg hc132] at hE
                            refine y_iconst (v := (0 : Int32)) dL_law_627 (by decide) ?_
                            obtain ⟨rfl, rfl, rfl⟩ := x_inj3 hE
                            obtain ⟨rfl, rfl⟩ := KR _ rfl
                            dsimp only
                            exact y_ret dL_law_628 (by omega) (by omega) ⟨_, rfl, rfl⟩
                        · rw [if_neg hc133] at hE
                          by_cases hc148 : (x13 &&& (63 : Int32)) = (10 : Int32)
                          · rw [if_pos hc148] at hE
                            have hk := hc148
                            refine y_tabIn (tgt := 629) dL_law_33 (by rw [hk]; decide) (by rw [hk]; decide) (by rw [hk]; rfl) (by decide) ?_
                            refine y_aload_n dL_law_629 1 rfl ?_
                            refine y_aload_n dL_law_630 0 rfl ?_
                            refine y_iload_n dL_law_631 3 rfl ?_
                            refine y_iconst (v := (1 : Int32)) dL_law_632 (by decide) ?_
                            refine y_iadd dL_law_633 ?_
                            obtain ⟨x134, ex134, hE⟩ := Option.bind_eq_some_iff.mp hE
                            refine y_sld' ex134 dL_law_634 ?_
                            refine y_aload_n dL_law_635 0 rfl ?_
                            refine y_iload_n dL_law_636 3 rfl ?_
                            refine y_iconst (v := (2 : Int32)) dL_law_637 (by decide) ?_
                            refine y_iadd dL_law_638 ?_
                            obtain ⟨x135, ex135, hE⟩ := Option.bind_eq_some_iff.mp hE
                            refine y_sld' ex135 dL_law_639 ?_
                            obtain ⟨q136, eJ, hE⟩ := Option.bind_eq_some_iff.mp hE
                            have hJ : Y S M_L_law h0 rv h1 mc ms 648 [(0, .ref 0), (1, .ref v1), (2, .ref v2), (3, .int v3)] [.int q136, .int x134, .ref v1] h cells slots := by
                              obtain ⟨u138, eu138, hE⟩ := Option.bind_eq_some_iff.mp hE
                              obtain ⟨q139, eq139, hE⟩ := Option.bind_eq_some_iff.mp hE
                              refine y_cVi0 (st := []) (as := [.int x134, .int q136]) (c_X6_stand eq139) lk_L_61 in_X6_stand se_X6_stand rfl eu138 ⟨Nat.le_of_ble_eq_true rfl, Nat.le_of_ble_eq_true rfl⟩ (Nat.le_of_ble_eq_true rfl) dL_law_648 ⟨by omega, by omega⟩ rfl ?_
                              refine y_aload_n dL_law_651 2 rfl ?_
                              refine y_aload_n dL_law_652 0 rfl ?_
                              refine y_iload_n dL_law_653 3 rfl ?_
                              refine y_iconst (v := (1 : Int32)) dL_law_654 (by decide) ?_
                              refine y_iadd dL_law_655 ?_
                              obtain ⟨x140, ex140, hE⟩ := Option.bind_eq_some_iff.mp hE
                              refine y_sld' ex140 dL_law_656 ?_
                              refine y_aload_n dL_law_657 0 rfl ?_
                              refine y_iload_n dL_law_658 3 rfl ?_
                              refine y_iconst (v := (2 : Int32)) dL_law_659 (by decide) ?_
                              refine y_iadd dL_law_660 ?_
                              obtain ⟨x141, ex141, hE⟩ := Option.bind_eq_some_iff.mp hE
                              refine y_sld' ex141 dL_law_661 ?_
                              obtain ⟨q142, eJ, hE⟩ := Option.bind_eq_some_iff.mp hE
                              have hJ : Y S M_L_law h0 rv h1 mc ms 670 [(0, .ref 0), (1, .ref v1), (2, .ref v2), (3, .int v3)] [.int q142, .int x140, .ref v2, .int q139.1] q139.2 cells slots := by
                                obtain ⟨u144, eu144, hE⟩ := Option.bind_eq_some_iff.mp hE
                                obtain ⟨q145, eq145, hE⟩ := Option.bind_eq_some_iff.mp hE
                                refine y_cVi0 (st := [.int q139.1]) (as := [.int x140, .int q142]) (c_X7_stand eq145) lk_L_65 in_X7_stand se_X7_stand rfl eu144 ⟨Nat.le_of_ble_eq_true rfl, Nat.le_of_ble_eq_true rfl⟩ (Nat.le_of_ble_eq_true rfl) dL_law_670 ⟨by omega, by omega⟩ rfl ?_
                                refine y_icmp_eq (tgt := 1560) dL_law_673 (by decide) (fun hc147 => ?_) (fun hc147 => ?_)
                                · rw [if_pos hc147] at hE
                                  obtain ⟨x146, ex146, hE⟩ := Option.bind_eq_some_iff.mp hE
                                  refine y_iinc (ls' := [(3, .int x146), (0, .ref 0), (1, .ref v1), (2, .ref v2)]) dL_law_1560 3 rfl (Option.some.inj ex146) (by decide) rfl ?_
                                  refine y_goto (tgt := 18) dL_law_1563 (by decide) ?_
                                  refine y_pick [1, 2, 3, 0] rfl ?_
                                  exact ih _ _ _ _ _ _ _ hE (by omega) (by omega) hm KR K
                                · rw [if_neg hc147] at hE
                                  refine y_iconst (v := (0 : Int32)) dL_law_676 (by decide) ?_
                                  obtain ⟨rfl, rfl, rfl⟩ := x_inj3 hE
                                  obtain ⟨rfl, rfl⟩ := KR _ rfl
                                  dsimp only
                                  exact y_ret dL_law_677 (by omega) (by omega) ⟨_, rfl, rfl⟩
                              clear hE
                              have hE := eJ
                              clear eJ
                              refine y_if_eq (tgt := 669) dL_law_662 (by decide) (fun hc143 => ?_) (fun hc143 => ?_)
                              · rw [if_pos hc143] at hE
                                refine y_iconst (v := (0 : Int32)) dL_law_669 (by decide) ?_
                                obtain rfl := Option.some.inj hE
                                exact y_pick [0, 1, 2, 3] rfl hJ
                              · rw [if_neg hc143] at hE
                                refine y_iconst (v := (1 : Int32)) dL_law_665 (by decide) ?_
                                refine y_goto (tgt := 670) dL_law_666 (by decide) ?_
                                obtain rfl := Option.some.inj hE
                                exact y_pick [0, 1, 2, 3] rfl hJ
                            clear hE
                            have hE := eJ
                            clear eJ
                            refine y_if_eq (tgt := 647) dL_law_640 (by decide) (fun hc137 => ?_) (fun hc137 => ?_)
                            · rw [if_pos hc137] at hE
                              refine y_iconst (v := (0 : Int32)) dL_law_647 (by decide) ?_
                              obtain rfl := Option.some.inj hE
                              exact y_pick [0, 1, 2, 3] rfl hJ
                            · rw [if_neg hc137] at hE
                              refine y_iconst (v := (1 : Int32)) dL_law_643 (by decide) ?_
                              refine y_goto (tgt := 648) dL_law_644 (by decide) ?_
                              obtain rfl := Option.some.inj hE
                              exact y_pick [0, 1, 2, 3] rfl hJ
                          · rw [if_neg hc148] at hE
                            by_cases hc159 : (x13 &&& (63 : Int32)) = (11 : Int32)
                            · rw [if_pos hc159] at hE
                              have hk := hc159
                              refine y_tabIn (tgt := 678) dL_law_33 (by rw [hk]; decide) (by rw [hk]; decide) (by rw [hk]; rfl) (by decide) ?_
                              refine y_aload_n dL_law_678 1 rfl ?_
                              refine y_aload_n dL_law_679 0 rfl ?_
                              refine y_iload_n dL_law_680 3 rfl ?_
                              refine y_iconst (v := (1 : Int32)) dL_law_681 (by decide) ?_
                              refine y_iadd dL_law_682 ?_
                              obtain ⟨x149, ex149, hE⟩ := Option.bind_eq_some_iff.mp hE
                              refine y_sld' ex149 dL_law_683 ?_
                              refine y_aload_n dL_law_684 0 rfl ?_
                              refine y_iload_n dL_law_685 3 rfl ?_
                              refine y_iconst (v := (2 : Int32)) dL_law_686 (by decide) ?_
                              refine y_iadd dL_law_687 ?_
                              obtain ⟨x150, ex150, hE⟩ := Option.bind_eq_some_iff.mp hE
                              refine y_sld' ex150 dL_law_688 ?_
                              obtain ⟨u151, eu151, hE⟩ := Option.bind_eq_some_iff.mp hE
                              obtain ⟨q152, eq152, hE⟩ := Option.bind_eq_some_iff.mp hE
                              refine y_cVi0 (st := []) (as := [.int x149, .int x150]) (c_X6_move eq152) lk_L_66 in_X6_move se_X6_move rfl eu151 ⟨Nat.le_of_ble_eq_true rfl, Nat.le_of_ble_eq_true rfl⟩ (Nat.le_of_ble_eq_true rfl) dL_law_689 ⟨by omega, by omega⟩ rfl ?_
                              refine y_aload_n dL_law_692 2 rfl ?_
                              refine y_aload_n dL_law_693 0 rfl ?_
                              refine y_iload_n dL_law_694 3 rfl ?_
                              refine y_iconst (v := (1 : Int32)) dL_law_695 (by decide) ?_
                              refine y_iadd dL_law_696 ?_
                              obtain ⟨x153, ex153, hE⟩ := Option.bind_eq_some_iff.mp hE
                              refine y_sld' ex153 dL_law_697 ?_
                              refine y_aload_n dL_law_698 0 rfl ?_
                              refine y_iload_n dL_law_699 3 rfl ?_
                              refine y_iconst (v := (2 : Int32)) dL_law_700 (by decide) ?_
                              refine y_iadd dL_law_701 ?_
                              obtain ⟨x154, ex154, hE⟩ := Option.bind_eq_some_iff.mp hE
                              refine y_sld' ex154 dL_law_702 ?_
                              obtain ⟨u155, eu155, hE⟩ := Option.bind_eq_some_iff.mp hE
                              obtain ⟨q156, eq156, hE⟩ := Option.bind_eq_some_iff.mp hE
                              refine y_cVi0 (st := [.int q152.1]) (as := [.int x153, .int x154]) (c_X7_move eq156) lk_L_69 in_X7_move se_X7_move rfl eu155 ⟨Nat.le_of_ble_eq_true rfl, Nat.le_of_ble_eq_true rfl⟩ (Nat.le_of_ble_eq_true rfl) dL_law_703 ⟨by omega, by omega⟩ rfl ?_
                              refine y_icmp_eq (tgt := 1560) dL_law_706 (by decide) (fun hc158 => ?_) (fun hc158 => ?_)
                              · rw [if_pos hc158] at hE
                                obtain ⟨x157, ex157, hE⟩ := Option.bind_eq_some_iff.mp hE
                                refine y_iinc (ls' := [(3, .int x157), (0, .ref 0), (1, .ref v1), (2, .ref v2)]) dL_law_1560 3 rfl (Option.some.inj ex157) (by decide) rfl ?_
                                refine y_goto (tgt := 18) dL_law_1563 (by decide) ?_
                                refine y_pick [1, 2, 3, 0] rfl ?_
                                exact ih _ _ _ _ _ _ _ hE (by omega) (by omega) hm KR K
                              · rw [if_neg hc158] at hE
                                refine y_iconst (v := (0 : Int32)) dL_law_709 (by decide) ?_
                                obtain ⟨rfl, rfl, rfl⟩ := x_inj3 hE
                                obtain ⟨rfl, rfl⟩ := KR _ rfl
                                dsimp only
                                exact y_ret dL_law_710 (by omega) (by omega) ⟨_, rfl, rfl⟩
                            · rw [if_neg hc159] at hE
                              by_cases hc170 : (x13 &&& (63 : Int32)) = (12 : Int32)
                              · rw [if_pos hc170] at hE
                                have hk := hc170
                                refine y_tabIn (tgt := 711) dL_law_33 (by rw [hk]; decide) (by rw [hk]; decide) (by rw [hk]; rfl) (by decide) ?_
                                refine y_aload_n dL_law_711 1 rfl ?_
                                refine y_aload_n dL_law_712 0 rfl ?_
                                refine y_iload_n dL_law_713 3 rfl ?_
                                refine y_iconst (v := (1 : Int32)) dL_law_714 (by decide) ?_
                                refine y_iadd dL_law_715 ?_
                                obtain ⟨x160, ex160, hE⟩ := Option.bind_eq_some_iff.mp hE
                                refine y_sld' ex160 dL_law_716 ?_
                                refine y_aload_n dL_law_717 0 rfl ?_
                                refine y_iload_n dL_law_718 3 rfl ?_
                                refine y_iconst (v := (2 : Int32)) dL_law_719 (by decide) ?_
                                refine y_iadd dL_law_720 ?_
                                obtain ⟨x161, ex161, hE⟩ := Option.bind_eq_some_iff.mp hE
                                refine y_sld' ex161 dL_law_721 ?_
                                obtain ⟨u162, eu162, hE⟩ := Option.bind_eq_some_iff.mp hE
                                obtain ⟨q163, eq163, hE⟩ := Option.bind_eq_some_iff.mp hE
                                refine y_cVi0 (st := []) (as := [.int x160, .int x161]) (c_X6_feed eq163) lk_L_70 in_X6_feed se_X6_feed rfl eu162 ⟨Nat.le_of_ble_eq_true rfl, Nat.le_of_ble_eq_true rfl⟩ (Nat.le_of_ble_eq_true rfl) dL_law_722 ⟨by omega, by omega⟩ rfl ?_
                                refine y_aload_n dL_law_725 2 rfl ?_
                                refine y_aload_n dL_law_726 0 rfl ?_
                                refine y_iload_n dL_law_727 3 rfl ?_
                                refine y_iconst (v := (1 : Int32)) dL_law_728 (by decide) ?_
                                refine y_iadd dL_law_729 ?_
                                obtain ⟨x164, ex164, hE⟩ := Option.bind_eq_some_iff.mp hE
                                refine y_sld' ex164 dL_law_730 ?_
                                refine y_aload_n dL_law_731 0 rfl ?_
                                refine y_iload_n dL_law_732 3 rfl ?_
                                refine y_iconst (v := (2 : Int32)) dL_law_733 (by decide) ?_
                                refine y_iadd dL_law_734 ?_
                                obtain ⟨x165, ex165, hE⟩ := Option.bind_eq_some_iff.mp hE
                                refine y_sld' ex165 dL_law_735 ?_
                                obtain ⟨u166, eu166, hE⟩ := Option.bind_eq_some_iff.mp hE
                                obtain ⟨q167, eq167, hE⟩ := Option.bind_eq_some_iff.mp hE
                                refine y_cVi0 (st := [.int q163.1]) (as := [.int x164, .int x165]) (c_X7_feed eq167) lk_L_73 in_X7_feed se_X7_feed rfl eu166 ⟨Nat.le_of_ble_eq_true rfl, Nat.le_of_ble_eq_true rfl⟩ (Nat.le_of_ble_eq_true rfl) dL_law_736 ⟨by omega, by omega⟩ rfl ?_
                                refine y_icmp_eq (tgt := 1560) dL_law_739 (by decide) (fun hc169 => ?_) (fun hc169 => ?_)
                                · rw [if_pos hc169] at hE
                                  obtain ⟨x168, ex168, hE⟩ := Option.bind_eq_some_iff.mp hE
                                  refine y_iinc (ls' := [(3, .int x168), (0, .ref 0), (1, .ref v1), (2, .ref v2)]) dL_law_1560 3 rfl (Option.some.inj ex168) (by decide) rfl ?_
                                  refine y_goto (tgt := 18) dL_law_1563 (by decide) ?_
                                  refine y_pick [1, 2, 3, 0] rfl ?_
                                  exact ih _ _ _ _ _ _ _ hE (by omega) (by omega) hm KR K
                                · rw [if_neg hc169] at hE
                                  refine y_iconst (v := (0 : Int32)) dL_law_742 (by decide) ?_
                                  obtain ⟨rfl, rfl, rfl⟩ := x_inj3 hE
                                  obtain ⟨rfl, rfl⟩ := KR _ rfl
                                  dsimp only
                                  exact y_ret dL_law_743 (by omega) (by omega) ⟨_, rfl, rfl⟩
                              · rw [if_neg hc170] at hE
                                by_cases hc177 : (x13 &&& (63 : Int32)) = (13 : Int32)
                                · rw [if_pos hc177] at hE
                                  have hk := hc177
                                  refine y_tabIn (tgt := 744) dL_law_33 (by rw [hk]; decide) (by rw [hk]; decide) (by rw [hk]; rfl) (by decide) ?_
                                  refine y_aload_n dL_law_744 1 rfl ?_
                                  obtain ⟨u171, eu171, hE⟩ := Option.bind_eq_some_iff.mp hE
                                  obtain ⟨q172, eq172, hE⟩ := Option.bind_eq_some_iff.mp hE
                                  refine y_cVi0 (st := []) (as := []) (c_X6_wipe eq172) lk_L_74 in_X6_wipe se_X6_wipe rfl eu171 ⟨Nat.le_of_ble_eq_true rfl, Nat.le_of_ble_eq_true rfl⟩ (Nat.le_of_ble_eq_true rfl) dL_law_745 ⟨by omega, by omega⟩ rfl ?_
                                  refine y_aload_n dL_law_748 2 rfl ?_
                                  obtain ⟨u173, eu173, hE⟩ := Option.bind_eq_some_iff.mp hE
                                  obtain ⟨q174, eq174, hE⟩ := Option.bind_eq_some_iff.mp hE
                                  refine y_cVi0 (st := [.int q172.1]) (as := []) (c_X7_wipe eq174) lk_L_78 in_X7_wipe se_X7_wipe rfl eu173 ⟨Nat.le_of_ble_eq_true rfl, Nat.le_of_ble_eq_true rfl⟩ (Nat.le_of_ble_eq_true rfl) dL_law_749 ⟨by omega, by omega⟩ rfl ?_
                                  refine y_icmp_eq (tgt := 1560) dL_law_752 (by decide) (fun hc176 => ?_) (fun hc176 => ?_)
                                  · rw [if_pos hc176] at hE
                                    obtain ⟨x175, ex175, hE⟩ := Option.bind_eq_some_iff.mp hE
                                    refine y_iinc (ls' := [(3, .int x175), (0, .ref 0), (1, .ref v1), (2, .ref v2)]) dL_law_1560 3 rfl (Option.some.inj ex175) (by decide) rfl ?_
                                    refine y_goto (tgt := 18) dL_law_1563 (by decide) ?_
                                    refine y_pick [1, 2, 3, 0] rfl ?_
                                    exact ih _ _ _ _ _ _ _ hE (by omega) (by omega) hm KR K
                                  · rw [if_neg hc176] at hE
                                    refine y_iconst (v := (0 : Int32)) dL_law_755 (by decide) ?_
                                    obtain ⟨rfl, rfl, rfl⟩ := x_inj3 hE
                                    obtain ⟨rfl, rfl⟩ := KR _ rfl
                                    dsimp only
                                    exact y_ret dL_law_756 (by omega) (by omega) ⟨_, rfl, rfl⟩
                                · rw [if_neg hc177] at hE
                                  by_cases hc186 : (x13 &&& (63 : Int32)) = (14 : Int32)
                                  · rw [if_pos hc186] at hE
                                    have hk := hc186
                                    refine y_tabIn (tgt := 757) dL_law_33 (by rw [hk]; decide) (by rw [hk]; decide) (by rw [hk]; rfl) (by decide) ?_
                                    refine y_aload_n dL_law_757 1 rfl ?_
                                    obtain ⟨u178, eu178, hE⟩ := Option.bind_eq_some_iff.mp hE
                                    obtain ⟨q179, eq179, hE⟩ := Option.bind_eq_some_iff.mp hE
                                    refine y_cVi0 (st := []) (as := []) (c_X6_house eq179) lk_L_79 in_X6_house se_X6_house rfl eu178 ⟨Nat.le_of_ble_eq_true rfl, Nat.le_of_ble_eq_true rfl⟩ (Nat.le_of_ble_eq_true rfl) dL_law_758 ⟨by omega, by omega⟩ rfl ?_
                                    refine y_aload_n dL_law_761 2 rfl ?_
                                    obtain ⟨u180, eu180, hE⟩ := Option.bind_eq_some_iff.mp hE
                                    obtain ⟨q181, eq181, hE⟩ := Option.bind_eq_some_iff.mp hE
                                    obtain ⟨c182, s183, hN, ecc182, ess183⟩ := x_add.spec hE
                                    clear hE; have hE := hN; clear hN
                                    refine y_cVi1 (st := [.int q179.1]) (as := []) (c_X7_house (eq181.trans (show some q181 = some ((q181.1.1, q181.1.2), q181.2.1, q181.2.2) from rfl))) lk_L_82 in_X7_house se_X7_house rfl eu180 ⟨Nat.le_of_ble_eq_true rfl, Nat.le_of_ble_eq_true rfl⟩ (Nat.le_of_ble_eq_true rfl) dL_law_762 ⟨by omega, by omega⟩ rfl ?_
                                    refine y_icmp_eq (tgt := 1560) dL_law_765 (by decide) (fun hc185 => ?_) (fun hc185 => ?_)
                                    · rw [if_pos hc185] at hE
                                      obtain ⟨x184, ex184, hE⟩ := Option.bind_eq_some_iff.mp hE
                                      refine y_iinc (ls' := [(3, .int x184), (0, .ref 0), (1, .ref v1), (2, .ref v2)]) dL_law_1560 3 rfl (Option.some.inj ex184) (by decide) rfl ?_
                                      refine y_goto (tgt := 18) dL_law_1563 (by decide) ?_
                                      refine y_pick [1, 2, 3, 0] rfl ?_
                                      exact ih _ _ _ _ _ _ _ hE (by omega) (by omega) hm KR K
                                    · rw [if_neg hc185] at hE
                                      refine y_iconst (v := (0 : Int32)) dL_law_768 (by decide) ?_
                                      obtain ⟨rfl, rfl, rfl⟩ := x_inj3 hE
                                      obtain ⟨rfl, rfl⟩ := KR _ rfl
                                      dsimp only
                                      exact y_ret dL_law_769 (by omega) (by omega) ⟨_, rfl, rfl⟩
                                  · rw [if_neg hc186] at hE
                                    by_cases hc197 : (x13 &&& (63 : Int32)) = (15 : Int32)
                                    · rw [if_pos hc197] at hE
                                      have hk := hc197
                                      refine y_tabIn (tgt := 770) dL_law_33 (by rw [hk]; decide) (by rw [hk]; decide) (by rw [hk]; rfl) (by decide) ?_
                                      refine y_aload_n dL_law_770 1 rfl ?_
                                      refine y_aload_n dL_law_771 0 rfl ?_
                                      refine y_iload_n dL_law_772 3 rfl ?_
                                      refine y_iconst (v := (1 : Int32)) dL_law_773 (by decide) ?_
                                      refine y_iadd dL_law_774 ?_
                                      obtain ⟨x187, ex187, hE⟩ := Option.bind_eq_some_iff.mp hE
                                      refine y_sld' ex187 dL_law_775 ?_
                                      refine y_aload_n dL_law_776 0 rfl ?_
                                      refine y_iload_n dL_law_777 3 rfl ?_
                                      refine y_iconst (v := (2 : Int32)) dL_law_778 (by decide) ?_
                                      refine y_iadd dL_law_779 ?_
                                      obtain ⟨x188, ex188, hE⟩ := Option.bind_eq_some_iff.mp hE
                                      refine y_sld' ex188 dL_law_780 ?_
                                      obtain ⟨u189, eu189, hE⟩ := Option.bind_eq_some_iff.mp hE
                                      obtain ⟨q190, eq190, hE⟩ := Option.bind_eq_some_iff.mp hE
                                      refine y_cVi0 (st := []) (as := [.int x187, .int x188]) (c_X6_doorOf eq190) lk_L_83 in_X6_doorOf se_X6_doorOf rfl eu189 ⟨Nat.le_of_ble_eq_true rfl, Nat.le_of_ble_eq_true rfl⟩ (Nat.le_of_ble_eq_true rfl) dL_law_781 ⟨by omega, by omega⟩ rfl ?_
                                      refine y_aload_n dL_law_784 2 rfl ?_
                                      refine y_aload_n dL_law_785 0 rfl ?_
                                      refine y_iload_n dL_law_786 3 rfl ?_
                                      refine y_iconst (v := (1 : Int32)) dL_law_787 (by decide) ?_
                                      refine y_iadd dL_law_788 ?_
                                      obtain ⟨x191, ex191, hE⟩ := Option.bind_eq_some_iff.mp hE
                                      refine y_sld' ex191 dL_law_789 ?_
                                      refine y_aload_n dL_law_790 0 rfl ?_
                                      refine y_iload_n dL_law_791 3 rfl ?_
                                      refine y_iconst (v := (2 : Int32)) dL_law_792 (by decide) ?_
                                      refine y_iadd dL_law_793 ?_
                                      obtain ⟨x192, ex192, hE⟩ := Option.bind_eq_some_iff.mp hE
                                      refine y_sld' ex192 dL_law_794 ?_
                                      obtain ⟨u193, eu193, hE⟩ := Option.bind_eq_some_iff.mp hE
                                      obtain ⟨q194, eq194, hE⟩ := Option.bind_eq_some_iff.mp hE
                                      refine y_cVi0 (st := [.int q190.1]) (as := [.int x191, .int x192]) (c_X7_doorOf eq194) lk_L_86 in_X7_doorOf se_X7_doorOf rfl eu193 ⟨Nat.le_of_ble_eq_true rfl, Nat.le_of_ble_eq_true rfl⟩ (Nat.le_of_ble_eq_true rfl) dL_law_795 ⟨by omega, by omega⟩ rfl ?_
                                      refine y_icmp_eq (tgt := 1560) dL_law_798 (by decide) (fun hc196 => ?_) (fun hc196 => ?_)
                                      · rw [if_pos hc196] at hE
                                        obtain ⟨x195, ex195, hE⟩ := Option.bind_eq_some_iff.mp hE
                                        refine y_iinc (ls' := [(3, .int x195), (0, .ref 0), (1, .ref v1), (2, .ref v2)]) dL_law_1560 3 rfl (Option.some.inj ex195) (by decide) rfl ?_
                                        refine y_goto (tgt := 18) dL_law_1563 (by decide) ?_
                                        refine y_pick [1, 2, 3, 0] rfl ?_
                                        exact ih _ _ _ _ _ _ _ hE (by omega) (by omega) hm KR K
                                      · rw [if_neg hc196] at hE
                                        refine y_iconst (v := (0 : Int32)) dL_law_801 (by decide) ?_
                                        obtain ⟨rfl, rfl, rfl⟩ := x_inj3 hE
                                        obtain ⟨rfl, rfl⟩ := KR _ rfl
                                        dsimp only
                                        exact y_ret dL_law_802 (by omega) (by omega) ⟨_, rfl, rfl⟩
                                    · rw [if_neg hc197] at hE
                                      by_cases hc206 : (x13 &&& (63 : Int32)) = (16 : Int32)
                                      · rw [if_pos hc206] at hE
                                        have hk := hc206
                                        refine y_tabIn (tgt := 803) dL_law_33 (by rw [hk]; decide) (by rw [hk]; decide) (by rw [hk]; rfl) (by decide) ?_
                                        refine y_aload_n dL_law_803 1 rfl ?_
                                        refine y_aload_n dL_law_804 0 rfl ?_
                                        refine y_iload_n dL_law_805 3 rfl ?_
                                        refine y_iconst (v := (1 : Int32)) dL_law_806 (by decide) ?_
                                        refine y_iadd dL_law_807 ?_
                                        obtain ⟨x198, ex198, hE⟩ := Option.bind_eq_some_iff.mp hE
                                        refine y_sld' ex198 dL_law_808 ?_
                                        obtain ⟨u199, eu199, hE⟩ := Option.bind_eq_some_iff.mp hE
                                        obtain ⟨q200, eq200, hE⟩ := Option.bind_eq_some_iff.mp hE
                                        refine y_cVi0 (st := []) (as := [.int x198]) (c_X6_where eq200) lk_L_87 in_X6_where se_X6_where rfl eu199 ⟨Nat.le_of_ble_eq_true rfl, Nat.le_of_ble_eq_true rfl⟩ (Nat.le_of_ble_eq_true rfl) dL_law_809 ⟨by omega, by omega⟩ rfl ?_
                                        refine y_aload_n dL_law_812 2 rfl ?_
                                        refine y_aload_n dL_law_813 0 rfl ?_
                                        refine y_iload_n dL_law_814 3 rfl ?_
                                        refine y_iconst (v := (1 : Int32)) dL_law_815 (by decide) ?_
                                        refine y_iadd dL_law_816 ?_
                                        obtain ⟨x201, ex201, hE⟩ := Option.bind_eq_some_iff.mp hE
                                        refine y_sld' ex201 dL_law_817 ?_
                                        obtain ⟨u202, eu202, hE⟩ := Option.bind_eq_some_iff.mp hE
                                        obtain ⟨q203, eq203, hE⟩ := Option.bind_eq_some_iff.mp hE
                                        refine y_cVi0 (st := [.int q200.1]) (as := [.int x201]) (c_X7_where eq203) lk_L_90 in_X7_where se_X7_where rfl eu202 ⟨Nat.le_of_ble_eq_true rfl, Nat.le_of_ble_eq_true rfl⟩ (Nat.le_of_ble_eq_true rfl) dL_law_818 ⟨by omega, by omega⟩ rfl ?_
                                        refine y_icmp_eq (tgt := 1560) dL_law_821 (by decide) (fun hc205 => ?_) (fun hc205 => ?_)
                                        · rw [if_pos hc205] at hE
                                          obtain ⟨x204, ex204, hE⟩ := Option.bind_eq_some_iff.mp hE
                                          refine y_iinc (ls' := [(3, .int x204), (0, .ref 0), (1, .ref v1), (2, .ref v2)]) dL_law_1560 3 rfl (Option.some.inj ex204) (by decide) rfl ?_
                                          refine y_goto (tgt := 18) dL_law_1563 (by decide) ?_
                                          refine y_pick [1, 2, 3, 0] rfl ?_
                                          exact ih _ _ _ _ _ _ _ hE (by omega) (by omega) hm KR K
                                        · rw [if_neg hc205] at hE
                                          refine y_iconst (v := (0 : Int32)) dL_law_824 (by decide) ?_
                                          obtain ⟨rfl, rfl, rfl⟩ := x_inj3 hE
                                          obtain ⟨rfl, rfl⟩ := KR _ rfl
                                          dsimp only
                                          exact y_ret dL_law_825 (by omega) (by omega) ⟨_, rfl, rfl⟩
                                      · rw [if_neg hc206] at hE
                                        by_cases hc217 : (x13 &&& (63 : Int32)) = (17 : Int32)
                                        · rw [if_pos hc217] at hE
                                          have hk := hc217
                                          refine y_tabIn (tgt := 826) dL_law_33 (by rw [hk]; decide) (by rw [hk]; decide) (by rw [hk]; rfl) (by decide) ?_
                                          refine y_aload_n dL_law_826 1 rfl ?_
                                          refine y_aload_n dL_law_827 0 rfl ?_
                                          refine y_iload_n dL_law_828 3 rfl ?_
                                          refine y_iconst (v := (1 : Int32)) dL_law_829 (by decide) ?_
                                          refine y_iadd dL_law_830 ?_
                                          obtain ⟨x207, ex207, hE⟩ := Option.bind_eq_some_iff.mp hE
                                          refine y_sld' ex207 dL_law_831 ?_
                                          refine y_aload_n dL_law_832 0 rfl ?_
                                          refine y_iload_n dL_law_833 3 rfl ?_
                                          refine y_iconst (v := (2 : Int32)) dL_law_834 (by decide) ?_
                                          refine y_iadd dL_law_835 ?_
                                          obtain ⟨x208, ex208, hE⟩ := Option.bind_eq_some_iff.mp hE
                                          refine y_sld' ex208 dL_law_836 ?_
                                          obtain ⟨u209, eu209, hE⟩ := Option.bind_eq_some_iff.mp hE
                                          obtain ⟨q210, eq210, hE⟩ := Option.bind_eq_some_iff.mp hE
                                          refine y_cVi0 (st := []) (as := [.int x207, .int x208]) (c_X6_doors eq210) lk_L_91 in_X6_doors se_X6_doors rfl eu209 ⟨Nat.le_of_ble_eq_true rfl, Nat.le_of_ble_eq_true rfl⟩ (Nat.le_of_ble_eq_true rfl) dL_law_837 ⟨by omega, by omega⟩ rfl ?_
                                          refine y_aload_n dL_law_840 2 rfl ?_
                                          refine y_aload_n dL_law_841 0 rfl ?_
                                          refine y_iload_n dL_law_842 3 rfl ?_
                                          refine y_iconst (v := (1 : Int32)) dL_law_843 (by decide) ?_
                                          refine y_iadd dL_law_844 ?_
                                          obtain ⟨x211, ex211, hE⟩ := Option.bind_eq_some_iff.mp hE
                                          refine y_sld' ex211 dL_law_845 ?_
                                          refine y_aload_n dL_law_846 0 rfl ?_
                                          refine y_iload_n dL_law_847 3 rfl ?_
                                          refine y_iconst (v := (2 : Int32)) dL_law_848 (by decide) ?_
                                          refine y_iadd dL_law_849 ?_
                                          obtain ⟨x212, ex212, hE⟩ := Option.bind_eq_some_iff.mp hE
                                          refine y_sld' ex212 dL_law_850 ?_
                                          obtain ⟨u213, eu213, hE⟩ := Option.bind_eq_some_iff.mp hE
                                          obtain ⟨q214, eq214, hE⟩ := Option.bind_eq_some_iff.mp hE
                                          refine y_cVi0 (st := [.int q210.1]) (as := [.int x211, .int x212]) (c_X7_doors eq214) lk_L_94 in_X7_doors se_X7_doors rfl eu213 ⟨Nat.le_of_ble_eq_true rfl, Nat.le_of_ble_eq_true rfl⟩ (Nat.le_of_ble_eq_true rfl) dL_law_851 ⟨by omega, by omega⟩ rfl ?_
                                          refine y_icmp_eq (tgt := 1560) dL_law_854 (by decide) (fun hc216 => ?_) (fun hc216 => ?_)
                                          · rw [if_pos hc216] at hE
                                            obtain ⟨x215, ex215, hE⟩ := Option.bind_eq_some_iff.mp hE
                                            refine y_iinc (ls' := [(3, .int x215), (0, .ref 0), (1, .ref v1), (2, .ref v2)]) dL_law_1560 3 rfl (Option.some.inj ex215) (by decide) rfl ?_
                                            refine y_goto (tgt := 18) dL_law_1563 (by decide) ?_
                                            refine y_pick [1, 2, 3, 0] rfl ?_
                                            exact ih _ _ _ _ _ _ _ hE (by omega) (by omega) hm KR K
                                          · rw [if_neg hc216] at hE
                                            refine y_iconst (v := (0 : Int32)) dL_law_857 (by decide) ?_
                                            obtain ⟨rfl, rfl, rfl⟩ := x_inj3 hE
                                            obtain ⟨rfl, rfl⟩ := KR _ rfl
                                            dsimp only
                                            exact y_ret dL_law_858 (by omega) (by omega) ⟨_, rfl, rfl⟩
                                        · rw [if_neg hc217] at hE
                                          by_cases hc230 : (x13 &&& (63 : Int32)) = (18 : Int32)
                                          · rw [if_pos hc230] at hE
                                            have hk := hc230
                                            refine y_tabIn (tgt := 859) dL_law_33 (by rw [hk]; decide) (by rw [hk]; decide) (by rw [hk]; rfl) (by decide) ?_
                                            refine y_aload_n dL_law_859 1 rfl ?_
                                            refine y_aload_n dL_law_860 0 rfl ?_
                                            refine y_iload_n dL_law_861 3 rfl ?_
                                            refine y_iconst (v := (1 : Int32)) dL_law_862 (by decide) ?_
                                            refine y_iadd dL_law_863 ?_
                                            obtain ⟨x218, ex218, hE⟩ := Option.bind_eq_some_iff.mp hE
                                            refine y_sld' ex218 dL_law_864 ?_
                                            refine y_aload_n dL_law_865 0 rfl ?_
                                            refine y_iload_n dL_law_866 3 rfl ?_
                                            refine y_iconst (v := (2 : Int32)) dL_law_867 (by decide) ?_
                                            refine y_iadd dL_law_868 ?_
                                            obtain ⟨x219, ex219, hE⟩ := Option.bind_eq_some_iff.mp hE
                                            refine y_sld' ex219 dL_law_869 ?_
                                            refine y_aload_n dL_law_870 0 rfl ?_
                                            refine y_iload_n dL_law_871 3 rfl ?_
                                            refine y_iconst (v := (3 : Int32)) dL_law_872 (by decide) ?_
                                            refine y_iadd dL_law_873 ?_
                                            obtain ⟨x220, ex220, hE⟩ := Option.bind_eq_some_iff.mp hE
                                            refine y_sld' ex220 dL_law_874 ?_
                                            obtain ⟨u221, eu221, hE⟩ := Option.bind_eq_some_iff.mp hE
                                            obtain ⟨q222, eq222, hE⟩ := Option.bind_eq_some_iff.mp hE
                                            refine y_cVi0 (st := []) (as := [.int x218, .int x219, .int x220]) (c_X6_may eq222) lk_L_95 in_X6_may se_X6_may rfl eu221 ⟨Nat.le_of_ble_eq_true rfl, Nat.le_of_ble_eq_true rfl⟩ (Nat.le_of_ble_eq_true rfl) dL_law_875 ⟨by omega, by omega⟩ rfl ?_
                                            refine y_aload_n dL_law_878 2 rfl ?_
                                            refine y_aload_n dL_law_879 0 rfl ?_
                                            refine y_iload_n dL_law_880 3 rfl ?_
                                            refine y_iconst (v := (1 : Int32)) dL_law_881 (by decide) ?_
                                            refine y_iadd dL_law_882 ?_
                                            obtain ⟨x223, ex223, hE⟩ := Option.bind_eq_some_iff.mp hE
                                            refine y_sld' ex223 dL_law_883 ?_
                                            refine y_aload_n dL_law_884 0 rfl ?_
                                            refine y_iload_n dL_law_885 3 rfl ?_
                                            refine y_iconst (v := (2 : Int32)) dL_law_886 (by decide) ?_
                                            refine y_iadd dL_law_887 ?_
                                            obtain ⟨x224, ex224, hE⟩ := Option.bind_eq_some_iff.mp hE
                                            refine y_sld' ex224 dL_law_888 ?_
                                            refine y_aload_n dL_law_889 0 rfl ?_
                                            refine y_iload_n dL_law_890 3 rfl ?_
                                            refine y_iconst (v := (3 : Int32)) dL_law_891 (by decide) ?_
                                            refine y_iadd dL_law_892 ?_
                                            obtain ⟨x225, ex225, hE⟩ := Option.bind_eq_some_iff.mp hE
                                            refine y_sld' ex225 dL_law_893 ?_
                                            obtain ⟨u226, eu226, hE⟩ := Option.bind_eq_some_iff.mp hE
                                            obtain ⟨q227, eq227, hE⟩ := Option.bind_eq_some_iff.mp hE
                                            refine y_cVi0 (st := [.int q222.1]) (as := [.int x223, .int x224, .int x225]) (c_X7_may eq227) lk_L_98 in_X7_may se_X7_may rfl eu226 ⟨Nat.le_of_ble_eq_true rfl, Nat.le_of_ble_eq_true rfl⟩ (Nat.le_of_ble_eq_true rfl) dL_law_894 ⟨by omega, by omega⟩ rfl ?_
                                            refine y_icmp_eq (tgt := 1560) dL_law_897 (by decide) (fun hc229 => ?_) (fun hc229 => ?_)
                                            · rw [if_pos hc229] at hE
                                              obtain ⟨x228, ex228, hE⟩ := Option.bind_eq_some_iff.mp hE
                                              refine y_iinc (ls' := [(3, .int x228), (0, .ref 0), (1, .ref v1), (2, .ref v2)]) dL_law_1560 3 rfl (Option.some.inj ex228) (by decide) rfl ?_
                                              refine y_goto (tgt := 18) dL_law_1563 (by decide) ?_
                                              refine y_pick [1, 2, 3, 0] rfl ?_
                                              exact ih _ _ _ _ _ _ _ hE (by omega) (by omega) hm KR K
                                            · rw [if_neg hc229] at hE
                                              refine y_iconst (v := (0 : Int32)) dL_law_900 (by decide) ?_
                                              obtain ⟨rfl, rfl, rfl⟩ := x_inj3 hE
                                              obtain ⟨rfl, rfl⟩ := KR _ rfl
                                              dsimp only
                                              exact y_ret dL_law_901 (by omega) (by omega) ⟨_, rfl, rfl⟩
                                          · rw [if_neg hc230] at hE
                                            by_cases hc243 : (x13 &&& (63 : Int32)) = (19 : Int32)
                                            · rw [if_pos hc243] at hE
                                              have hk := hc243
                                              refine y_tabIn (tgt := 902) dL_law_33 (by rw [hk]; decide) (by rw [hk]; decide) (by rw [hk]; rfl) (by decide) ?_
                                              refine y_aload_n dL_law_902 1 rfl ?_
                                              refine y_aload_n dL_law_903 0 rfl ?_
                                              refine y_iload_n dL_law_904 3 rfl ?_
                                              refine y_iconst (v := (1 : Int32)) dL_law_905 (by decide) ?_
                                              refine y_iadd dL_law_906 ?_
                                              obtain ⟨x231, ex231, hE⟩ := Option.bind_eq_some_iff.mp hE
                                              refine y_sld' ex231 dL_law_907 ?_
                                              refine y_aload_n dL_law_908 0 rfl ?_
                                              refine y_iload_n dL_law_909 3 rfl ?_
                                              refine y_iconst (v := (2 : Int32)) dL_law_910 (by decide) ?_
                                              refine y_iadd dL_law_911 ?_
                                              obtain ⟨x232, ex232, hE⟩ := Option.bind_eq_some_iff.mp hE
                                              refine y_sld' ex232 dL_law_912 ?_
                                              refine y_aload_n dL_law_913 0 rfl ?_
                                              refine y_iload_n dL_law_914 3 rfl ?_
                                              refine y_iconst (v := (3 : Int32)) dL_law_915 (by decide) ?_
                                              refine y_iadd dL_law_916 ?_
                                              obtain ⟨x233, ex233, hE⟩ := Option.bind_eq_some_iff.mp hE
                                              refine y_sld' ex233 dL_law_917 ?_
                                              obtain ⟨u234, eu234, hE⟩ := Option.bind_eq_some_iff.mp hE
                                              obtain ⟨q235, eq235, hE⟩ := Option.bind_eq_some_iff.mp hE
                                              refine y_cVi0 (st := []) (as := [.int x231, .int x232, .int x233]) (c_X6_by eq235) lk_L_99 in_X6_by se_X6_by rfl eu234 ⟨Nat.le_of_ble_eq_true rfl, Nat.le_of_ble_eq_true rfl⟩ (Nat.le_of_ble_eq_true rfl) dL_law_918 ⟨by omega, by omega⟩ rfl ?_
                                              refine y_aload_n dL_law_921 2 rfl ?_
                                              refine y_aload_n dL_law_922 0 rfl ?_
                                              refine y_iload_n dL_law_923 3 rfl ?_
                                              refine y_iconst (v := (1 : Int32)) dL_law_924 (by decide) ?_
                                              refine y_iadd dL_law_925 ?_
                                              obtain ⟨x236, ex236, hE⟩ := Option.bind_eq_some_iff.mp hE
                                              refine y_sld' ex236 dL_law_926 ?_
                                              refine y_aload_n dL_law_927 0 rfl ?_
                                              refine y_iload_n dL_law_928 3 rfl ?_
                                              refine y_iconst (v := (2 : Int32)) dL_law_929 (by decide) ?_
                                              refine y_iadd dL_law_930 ?_
                                              obtain ⟨x237, ex237, hE⟩ := Option.bind_eq_some_iff.mp hE
                                              refine y_sld' ex237 dL_law_931 ?_
                                              refine y_aload_n dL_law_932 0 rfl ?_
                                              refine y_iload_n dL_law_933 3 rfl ?_
                                              refine y_iconst (v := (3 : Int32)) dL_law_934 (by decide) ?_
                                              refine y_iadd dL_law_935 ?_
                                              obtain ⟨x238, ex238, hE⟩ := Option.bind_eq_some_iff.mp hE
                                              refine y_sld' ex238 dL_law_936 ?_
                                              obtain ⟨u239, eu239, hE⟩ := Option.bind_eq_some_iff.mp hE
                                              obtain ⟨q240, eq240, hE⟩ := Option.bind_eq_some_iff.mp hE
                                              refine y_cVi0 (st := [.int q235.1]) (as := [.int x236, .int x237, .int x238]) (c_X7_by eq240) lk_L_102 in_X7_by se_X7_by rfl eu239 ⟨Nat.le_of_ble_eq_true rfl, Nat.le_of_ble_eq_true rfl⟩ (Nat.le_of_ble_eq_true rfl) dL_law_937 ⟨by omega, by omega⟩ rfl ?_
                                              refine y_icmp_eq (tgt := 1560) dL_law_940 (by decide) (fun hc242 => ?_) (fun hc242 => ?_)
                                              · rw [if_pos hc242] at hE
                                                obtain ⟨x241, ex241, hE⟩ := Option.bind_eq_some_iff.mp hE
                                                refine y_iinc (ls' := [(3, .int x241), (0, .ref 0), (1, .ref v1), (2, .ref v2)]) dL_law_1560 3 rfl (Option.some.inj ex241) (by decide) rfl ?_
                                                refine y_goto (tgt := 18) dL_law_1563 (by decide) ?_
                                                refine y_pick [1, 2, 3, 0] rfl ?_
                                                exact ih _ _ _ _ _ _ _ hE (by omega) (by omega) hm KR K
                                              · rw [if_neg hc242] at hE
                                                refine y_iconst (v := (0 : Int32)) dL_law_943 (by decide) ?_
                                                obtain ⟨rfl, rfl, rfl⟩ := x_inj3 hE
                                                obtain ⟨rfl, rfl⟩ := KR _ rfl
                                                dsimp only
                                                exact y_ret dL_law_944 (by omega) (by omega) ⟨_, rfl, rfl⟩
                                            · rw [if_neg hc243] at hE
                                              by_cases hc256 : (x13 &&& (63 : Int32)) = (20 : Int32)
                                              · rw [if_pos hc256] at hE
                                                have hk := hc256
                                                refine y_tabIn (tgt := 945) dL_law_33 (by rw [hk]; decide) (by rw [hk]; decide) (by rw [hk]; rfl) (by decide) ?_
                                                refine y_aload_n dL_law_945 1 rfl ?_
                                                refine y_aload_n dL_law_946 0 rfl ?_
                                                refine y_iload_n dL_law_947 3 rfl ?_
                                                refine y_iconst (v := (1 : Int32)) dL_law_948 (by decide) ?_
                                                refine y_iadd dL_law_949 ?_
                                                obtain ⟨x244, ex244, hE⟩ := Option.bind_eq_some_iff.mp hE
                                                refine y_sld' ex244 dL_law_950 ?_
                                                refine y_aload_n dL_law_951 0 rfl ?_
                                                refine y_iload_n dL_law_952 3 rfl ?_
                                                refine y_iconst (v := (2 : Int32)) dL_law_953 (by decide) ?_
                                                refine y_iadd dL_law_954 ?_
                                                obtain ⟨x245, ex245, hE⟩ := Option.bind_eq_some_iff.mp hE
                                                refine y_sld' ex245 dL_law_955 ?_
                                                refine y_aload_n dL_law_956 0 rfl ?_
                                                refine y_iload_n dL_law_957 3 rfl ?_
                                                refine y_iconst (v := (3 : Int32)) dL_law_958 (by decide) ?_
                                                refine y_iadd dL_law_959 ?_
                                                obtain ⟨x246, ex246, hE⟩ := Option.bind_eq_some_iff.mp hE
                                                refine y_sld' ex246 dL_law_960 ?_
                                                obtain ⟨u247, eu247, hE⟩ := Option.bind_eq_some_iff.mp hE
                                                obtain ⟨q248, eq248, hE⟩ := Option.bind_eq_some_iff.mp hE
                                                refine y_cVi0 (st := []) (as := [.int x244, .int x245, .int x246]) (c_X6_ways eq248) lk_L_103 in_X6_ways se_X6_ways rfl eu247 ⟨Nat.le_of_ble_eq_true rfl, Nat.le_of_ble_eq_true rfl⟩ (Nat.le_of_ble_eq_true rfl) dL_law_961 ⟨by omega, by omega⟩ rfl ?_
                                                refine y_aload_n dL_law_964 2 rfl ?_
                                                refine y_aload_n dL_law_965 0 rfl ?_
                                                refine y_iload_n dL_law_966 3 rfl ?_
                                                refine y_iconst (v := (1 : Int32)) dL_law_967 (by decide) ?_
                                                refine y_iadd dL_law_968 ?_
                                                obtain ⟨x249, ex249, hE⟩ := Option.bind_eq_some_iff.mp hE
                                                refine y_sld' ex249 dL_law_969 ?_
                                                refine y_aload_n dL_law_970 0 rfl ?_
                                                refine y_iload_n dL_law_971 3 rfl ?_
                                                refine y_iconst (v := (2 : Int32)) dL_law_972 (by decide) ?_
                                                refine y_iadd dL_law_973 ?_
                                                obtain ⟨x250, ex250, hE⟩ := Option.bind_eq_some_iff.mp hE
                                                refine y_sld' ex250 dL_law_974 ?_
                                                refine y_aload_n dL_law_975 0 rfl ?_
                                                refine y_iload_n dL_law_976 3 rfl ?_
                                                refine y_iconst (v := (3 : Int32)) dL_law_977 (by decide) ?_
                                                refine y_iadd dL_law_978 ?_
                                                obtain ⟨x251, ex251, hE⟩ := Option.bind_eq_some_iff.mp hE
                                                refine y_sld' ex251 dL_law_979 ?_
                                                obtain ⟨u252, eu252, hE⟩ := Option.bind_eq_some_iff.mp hE
                                                obtain ⟨q253, eq253, hE⟩ := Option.bind_eq_some_iff.mp hE
                                                refine y_cVi0 (st := [.int q248.1]) (as := [.int x249, .int x250, .int x251]) (c_X7_ways eq253) lk_L_106 in_X7_ways se_X7_ways rfl eu252 ⟨Nat.le_of_ble_eq_true rfl, Nat.le_of_ble_eq_true rfl⟩ (Nat.le_of_ble_eq_true rfl) dL_law_980 ⟨by omega, by omega⟩ rfl ?_
                                                refine y_icmp_eq (tgt := 1560) dL_law_983 (by decide) (fun hc255 => ?_) (fun hc255 => ?_)
                                                · rw [if_pos hc255] at hE
                                                  obtain ⟨x254, ex254, hE⟩ := Option.bind_eq_some_iff.mp hE
                                                  refine y_iinc (ls' := [(3, .int x254), (0, .ref 0), (1, .ref v1), (2, .ref v2)]) dL_law_1560 3 rfl (Option.some.inj ex254) (by decide) rfl ?_
                                                  refine y_goto (tgt := 18) dL_law_1563 (by decide) ?_
                                                  refine y_pick [1, 2, 3, 0] rfl ?_
                                                  exact ih _ _ _ _ _ _ _ hE (by omega) (by omega) hm KR K
                                                · rw [if_neg hc255] at hE
                                                  refine y_iconst (v := (0 : Int32)) dL_law_986 (by decide) ?_
                                                  obtain ⟨rfl, rfl, rfl⟩ := x_inj3 hE
                                                  obtain ⟨rfl, rfl⟩ := KR _ rfl
                                                  dsimp only
                                                  exact y_ret dL_law_987 (by omega) (by omega) ⟨_, rfl, rfl⟩
                                              · rw [if_neg hc256] at hE
                                                by_cases hc267 : (x13 &&& (63 : Int32)) = (21 : Int32)
                                                · rw [if_pos hc267] at hE
                                                  have hk := hc267
                                                  refine y_tabIn (tgt := 988) dL_law_33 (by rw [hk]; decide) (by rw [hk]; decide) (by rw [hk]; rfl) (by decide) ?_
                                                  refine y_aload_n dL_law_988 1 rfl ?_
                                                  refine y_aload_n dL_law_989 0 rfl ?_
                                                  refine y_iload_n dL_law_990 3 rfl ?_
                                                  refine y_iconst (v := (1 : Int32)) dL_law_991 (by decide) ?_
                                                  refine y_iadd dL_law_992 ?_
                                                  obtain ⟨x257, ex257, hE⟩ := Option.bind_eq_some_iff.mp hE
                                                  refine y_sld' ex257 dL_law_993 ?_
                                                  refine y_aload_n dL_law_994 0 rfl ?_
                                                  refine y_iload_n dL_law_995 3 rfl ?_
                                                  refine y_iconst (v := (2 : Int32)) dL_law_996 (by decide) ?_
                                                  refine y_iadd dL_law_997 ?_
                                                  obtain ⟨x258, ex258, hE⟩ := Option.bind_eq_some_iff.mp hE
                                                  refine y_sld' ex258 dL_law_998 ?_
                                                  obtain ⟨u259, eu259, hE⟩ := Option.bind_eq_some_iff.mp hE
                                                  obtain ⟨q260, eq260, hE⟩ := Option.bind_eq_some_iff.mp hE
                                                  refine y_cVi0 (st := []) (as := [.int x257, .int x258]) (c_X6_walk eq260) lk_L_107 in_X6_walk se_X6_walk rfl eu259 ⟨Nat.le_of_ble_eq_true rfl, Nat.le_of_ble_eq_true rfl⟩ (Nat.le_of_ble_eq_true rfl) dL_law_999 ⟨by omega, by omega⟩ rfl ?_
                                                  refine y_aload_n dL_law_1002 2 rfl ?_
                                                  refine y_aload_n dL_law_1003 0 rfl ?_
                                                  refine y_iload_n dL_law_1004 3 rfl ?_
                                                  refine y_iconst (v := (1 : Int32)) dL_law_1005 (by decide) ?_
                                                  refine y_iadd dL_law_1006 ?_
                                                  obtain ⟨x261, ex261, hE⟩ := Option.bind_eq_some_iff.mp hE
                                                  refine y_sld' ex261 dL_law_1007 ?_
                                                  refine y_aload_n dL_law_1008 0 rfl ?_
                                                  refine y_iload_n dL_law_1009 3 rfl ?_
                                                  refine y_iconst (v := (2 : Int32)) dL_law_1010 (by decide) ?_
                                                  refine y_iadd dL_law_1011 ?_
                                                  obtain ⟨x262, ex262, hE⟩ := Option.bind_eq_some_iff.mp hE
                                                  refine y_sld' ex262 dL_law_1012 ?_
                                                  obtain ⟨u263, eu263, hE⟩ := Option.bind_eq_some_iff.mp hE
                                                  obtain ⟨q264, eq264, hE⟩ := Option.bind_eq_some_iff.mp hE
                                                  refine y_cVi0 (st := [.int q260.1]) (as := [.int x261, .int x262]) (c_X7_walk eq264) lk_L_110 in_X7_walk se_X7_walk rfl eu263 ⟨Nat.le_of_ble_eq_true rfl, Nat.le_of_ble_eq_true rfl⟩ (Nat.le_of_ble_eq_true rfl) dL_law_1013 ⟨by omega, by omega⟩ rfl ?_
                                                  refine y_icmp_eq (tgt := 1560) dL_law_1016 (by decide) (fun hc266 => ?_) (fun hc266 => ?_)
                                                  · rw [if_pos hc266] at hE
                                                    obtain ⟨x265, ex265, hE⟩ := Option.bind_eq_some_iff.mp hE
                                                    refine y_iinc (ls' := [(3, .int x265), (0, .ref 0), (1, .ref v1), (2, .ref v2)]) dL_law_1560 3 rfl (Option.some.inj ex265) (by decide) rfl ?_
                                                    refine y_goto (tgt := 18) dL_law_1563 (by decide) ?_
                                                    refine y_pick [1, 2, 3, 0] rfl ?_
                                                    exact ih _ _ _ _ _ _ _ hE (by omega) (by omega) hm KR K
                                                  · rw [if_neg hc266] at hE
                                                    refine y_iconst (v := (0 : Int32)) dL_law_1019 (by decide) ?_
                                                    obtain ⟨rfl, rfl, rfl⟩ := x_inj3 hE
                                                    obtain ⟨rfl, rfl⟩ := KR _ rfl
                                                    dsimp only
                                                    exact y_ret dL_law_1020 (by omega) (by omega) ⟨_, rfl, rfl⟩
                                                · rw [if_neg hc267] at hE
                                                  by_cases hc278 : (x13 &&& (63 : Int32)) = (22 : Int32)
                                                  · rw [if_pos hc278] at hE
                                                    have hk := hc278
                                                    refine y_tabIn (tgt := 1021) dL_law_33 (by rw [hk]; decide) (by rw [hk]; decide) (by rw [hk]; rfl) (by decide) ?_
                                                    refine y_aload_n dL_law_1021 1 rfl ?_
                                                    refine y_aload_n dL_law_1022 0 rfl ?_
                                                    refine y_iload_n dL_law_1023 3 rfl ?_
                                                    refine y_iconst (v := (1 : Int32)) dL_law_1024 (by decide) ?_
                                                    refine y_iadd dL_law_1025 ?_
                                                    obtain ⟨x268, ex268, hE⟩ := Option.bind_eq_some_iff.mp hE
                                                    refine y_sld' ex268 dL_law_1026 ?_
                                                    refine y_aload_n dL_law_1027 0 rfl ?_
                                                    refine y_iload_n dL_law_1028 3 rfl ?_
                                                    refine y_iconst (v := (2 : Int32)) dL_law_1029 (by decide) ?_
                                                    refine y_iadd dL_law_1030 ?_
                                                    obtain ⟨x269, ex269, hE⟩ := Option.bind_eq_some_iff.mp hE
                                                    refine y_sld' ex269 dL_law_1031 ?_
                                                    obtain ⟨u270, eu270, hE⟩ := Option.bind_eq_some_iff.mp hE
                                                    obtain ⟨q271, eq271, hE⟩ := Option.bind_eq_some_iff.mp hE
                                                    refine y_cVi0 (st := []) (as := [.int x268, .int x269]) (c_X6_shut eq271) lk_L_111 in_X6_shut se_X6_shut rfl eu270 ⟨Nat.le_of_ble_eq_true rfl, Nat.le_of_ble_eq_true rfl⟩ (Nat.le_of_ble_eq_true rfl) dL_law_1032 ⟨by omega, by omega⟩ rfl ?_
                                                    refine y_aload_n dL_law_1035 2 rfl ?_
                                                    refine y_aload_n dL_law_1036 0 rfl ?_
                                                    refine y_iload_n dL_law_1037 3 rfl ?_
                                                    refine y_iconst (v := (1 : Int32)) dL_law_1038 (by decide) ?_
                                                    refine y_iadd dL_law_1039 ?_
                                                    obtain ⟨x272, ex272, hE⟩ := Option.bind_eq_some_iff.mp hE
                                                    refine y_sld' ex272 dL_law_1040 ?_
                                                    refine y_aload_n dL_law_1041 0 rfl ?_
                                                    refine y_iload_n dL_law_1042 3 rfl ?_
                                                    refine y_iconst (v := (2 : Int32)) dL_law_1043 (by decide) ?_
                                                    refine y_iadd dL_law_1044 ?_
                                                    obtain ⟨x273, ex273, hE⟩ := Option.bind_eq_some_iff.mp hE
                                                    refine y_sld' ex273 dL_law_1045 ?_
                                                    obtain ⟨u274, eu274, hE⟩ := Option.bind_eq_some_iff.mp hE
                                                    obtain ⟨q275, eq275, hE⟩ := Option.bind_eq_some_iff.mp hE
                                                    refine y_cVi0 (st := [.int q271.1]) (as := [.int x272, .int x273]) (c_X7_shut eq275) lk_L_114 in_X7_shut se_X7_shut rfl eu274 ⟨Nat.le_of_ble_eq_true rfl, Nat.le_of_ble_eq_true rfl⟩ (Nat.le_of_ble_eq_true rfl) dL_law_1046 ⟨by omega, by omega⟩ rfl ?_
                                                    refine y_icmp_eq (tgt := 1560) dL_law_1049 (by decide) (fun hc277 => ?_) (fun hc277 => ?_)
                                                    · rw [if_pos hc277] at hE
                                                      obtain ⟨x276, ex276, hE⟩ := Option.bind_eq_some_iff.mp hE
                                                      refine y_iinc (ls' := [(3, .int x276), (0, .ref 0), (1, .ref v1), (2, .ref v2)]) dL_law_1560 3 rfl (Option.some.inj ex276) (by decide) rfl ?_
                                                      refine y_goto (tgt := 18) dL_law_1563 (by decide) ?_
                                                      refine y_pick [1, 2, 3, 0] rfl ?_
                                                      exact ih _ _ _ _ _ _ _ hE (by omega) (by omega) hm KR K
                                                    · rw [if_neg hc277] at hE
                                                      refine y_iconst (v := (0 : Int32)) dL_law_1052 (by decide) ?_
                                                      obtain ⟨rfl, rfl, rfl⟩ := x_inj3 hE
                                                      obtain ⟨rfl, rfl⟩ := KR _ rfl
                                                      dsimp only
                                                      exact y_ret dL_law_1053 (by omega) (by omega) ⟨_, rfl, rfl⟩
                                                  · rw [if_neg hc278] at hE
                                                    by_cases hc291 : (x13 &&& (63 : Int32)) = (23 : Int32)
                                                    · rw [if_pos hc291] at hE
                                                      have hk := hc291
                                                      refine y_tabIn (tgt := 1054) dL_law_33 (by rw [hk]; decide) (by rw [hk]; decide) (by rw [hk]; rfl) (by decide) ?_
                                                      refine y_aload_n dL_law_1054 1 rfl ?_
                                                      refine y_aload_n dL_law_1055 0 rfl ?_
                                                      refine y_iload_n dL_law_1056 3 rfl ?_
                                                      refine y_iconst (v := (1 : Int32)) dL_law_1057 (by decide) ?_
                                                      refine y_iadd dL_law_1058 ?_
                                                      obtain ⟨x279, ex279, hE⟩ := Option.bind_eq_some_iff.mp hE
                                                      refine y_sld' ex279 dL_law_1059 ?_
                                                      refine y_aload_n dL_law_1060 0 rfl ?_
                                                      refine y_iload_n dL_law_1061 3 rfl ?_
                                                      refine y_iconst (v := (2 : Int32)) dL_law_1062 (by decide) ?_
                                                      refine y_iadd dL_law_1063 ?_
                                                      obtain ⟨x280, ex280, hE⟩ := Option.bind_eq_some_iff.mp hE
                                                      refine y_sld' ex280 dL_law_1064 ?_
                                                      refine y_aload_n dL_law_1065 0 rfl ?_
                                                      refine y_iload_n dL_law_1066 3 rfl ?_
                                                      refine y_iconst (v := (3 : Int32)) dL_law_1067 (by decide) ?_
                                                      refine y_iadd dL_law_1068 ?_
                                                      obtain ⟨x281, ex281, hE⟩ := Option.bind_eq_some_iff.mp hE
                                                      refine y_sld' ex281 dL_law_1069 ?_
                                                      obtain ⟨u282, eu282, hE⟩ := Option.bind_eq_some_iff.mp hE
                                                      obtain ⟨q283, eq283, hE⟩ := Option.bind_eq_some_iff.mp hE
                                                      refine y_cVi0 (st := []) (as := [.int x279, .int x280, .int x281]) (c_X6_open eq283) lk_L_115 in_X6_open se_X6_open rfl eu282 ⟨Nat.le_of_ble_eq_true rfl, Nat.le_of_ble_eq_true rfl⟩ (Nat.le_of_ble_eq_true rfl) dL_law_1070 ⟨by omega, by omega⟩ rfl ?_
                                                      refine y_aload_n dL_law_1073 2 rfl ?_
                                                      refine y_aload_n dL_law_1074 0 rfl ?_
                                                      refine y_iload_n dL_law_1075 3 rfl ?_
                                                      refine y_iconst (v := (1 : Int32)) dL_law_1076 (by decide) ?_
                                                      refine y_iadd dL_law_1077 ?_
                                                      obtain ⟨x284, ex284, hE⟩ := Option.bind_eq_some_iff.mp hE
                                                      refine y_sld' ex284 dL_law_1078 ?_
                                                      refine y_aload_n dL_law_1079 0 rfl ?_
                                                      refine y_iload_n dL_law_1080 3 rfl ?_
                                                      refine y_iconst (v := (2 : Int32)) dL_law_1081 (by decide) ?_
                                                      refine y_iadd dL_law_1082 ?_
                                                      obtain ⟨x285, ex285, hE⟩ := Option.bind_eq_some_iff.mp hE
                                                      refine y_sld' ex285 dL_law_1083 ?_
                                                      refine y_aload_n dL_law_1084 0 rfl ?_
                                                      refine y_iload_n dL_law_1085 3 rfl ?_
                                                      refine y_iconst (v := (3 : Int32)) dL_law_1086 (by decide) ?_
                                                      refine y_iadd dL_law_1087 ?_
                                                      obtain ⟨x286, ex286, hE⟩ := Option.bind_eq_some_iff.mp hE
                                                      refine y_sld' ex286 dL_law_1088 ?_
                                                      obtain ⟨u287, eu287, hE⟩ := Option.bind_eq_some_iff.mp hE
                                                      obtain ⟨q288, eq288, hE⟩ := Option.bind_eq_some_iff.mp hE
                                                      refine y_cVi0 (st := [.int q283.1]) (as := [.int x284, .int x285, .int x286]) (c_X7_open eq288) lk_L_118 in_X7_open se_X7_open rfl eu287 ⟨Nat.le_of_ble_eq_true rfl, Nat.le_of_ble_eq_true rfl⟩ (Nat.le_of_ble_eq_true rfl) dL_law_1089 ⟨by omega, by omega⟩ rfl ?_
                                                      refine y_icmp_eq (tgt := 1560) dL_law_1092 (by decide) (fun hc290 => ?_) (fun hc290 => ?_)
                                                      · rw [if_pos hc290] at hE
                                                        obtain ⟨x289, ex289, hE⟩ := Option.bind_eq_some_iff.mp hE
                                                        refine y_iinc (ls' := [(3, .int x289), (0, .ref 0), (1, .ref v1), (2, .ref v2)]) dL_law_1560 3 rfl (Option.some.inj ex289) (by decide) rfl ?_
                                                        refine y_goto (tgt := 18) dL_law_1563 (by decide) ?_
                                                        refine y_pick [1, 2, 3, 0] rfl ?_
                                                        exact ih _ _ _ _ _ _ _ hE (by omega) (by omega) hm KR K
                                                      · rw [if_neg hc290] at hE
                                                        refine y_iconst (v := (0 : Int32)) dL_law_1095 (by decide) ?_
                                                        obtain ⟨rfl, rfl, rfl⟩ := x_inj3 hE
                                                        obtain ⟨rfl, rfl⟩ := KR _ rfl
                                                        dsimp only
                                                        exact y_ret dL_law_1096 (by omega) (by omega) ⟨_, rfl, rfl⟩
                                                    · rw [if_neg hc291] at hE
                                                      by_cases hc300 : (x13 &&& (63 : Int32)) = (24 : Int32)
                                                      · rw [if_pos hc300] at hE
                                                        have hk := hc300
                                                        refine y_tabIn (tgt := 1097) dL_law_33 (by rw [hk]; decide) (by rw [hk]; decide) (by rw [hk]; rfl) (by decide) ?_
                                                        refine y_aload_n dL_law_1097 1 rfl ?_
                                                        refine y_aload_n dL_law_1098 0 rfl ?_
                                                        refine y_iload_n dL_law_1099 3 rfl ?_
                                                        refine y_iconst (v := (1 : Int32)) dL_law_1100 (by decide) ?_
                                                        refine y_iadd dL_law_1101 ?_
                                                        obtain ⟨x292, ex292, hE⟩ := Option.bind_eq_some_iff.mp hE
                                                        refine y_sld' ex292 dL_law_1102 ?_
                                                        obtain ⟨u293, eu293, hE⟩ := Option.bind_eq_some_iff.mp hE
                                                        obtain ⟨q294, eq294, hE⟩ := Option.bind_eq_some_iff.mp hE
                                                        refine y_cVi0 (st := []) (as := [.int x292]) (c_X6_reach eq294) lk_L_119 in_X6_reach se_X6_reach rfl eu293 ⟨Nat.le_of_ble_eq_true rfl, Nat.le_of_ble_eq_true rfl⟩ (Nat.le_of_ble_eq_true rfl) dL_law_1103 ⟨by omega, by omega⟩ rfl ?_
                                                        refine y_aload_n dL_law_1106 2 rfl ?_
                                                        refine y_aload_n dL_law_1107 0 rfl ?_
                                                        refine y_iload_n dL_law_1108 3 rfl ?_
                                                        refine y_iconst (v := (1 : Int32)) dL_law_1109 (by decide) ?_
                                                        refine y_iadd dL_law_1110 ?_
                                                        obtain ⟨x295, ex295, hE⟩ := Option.bind_eq_some_iff.mp hE
                                                        refine y_sld' ex295 dL_law_1111 ?_
                                                        obtain ⟨u296, eu296, hE⟩ := Option.bind_eq_some_iff.mp hE
                                                        obtain ⟨q297, eq297, hE⟩ := Option.bind_eq_some_iff.mp hE
                                                        refine y_cVi0 (st := [.int q294.1]) (as := [.int x295]) (c_X7_reach eq297) lk_L_122 in_X7_reach se_X7_reach rfl eu296 ⟨Nat.le_of_ble_eq_true rfl, Nat.le_of_ble_eq_true rfl⟩ (Nat.le_of_ble_eq_true rfl) dL_law_1112 ⟨by omega, by omega⟩ rfl ?_
                                                        refine y_icmp_eq (tgt := 1560) dL_law_1115 (by decide) (fun hc299 => ?_) (fun hc299 => ?_)
                                                        · rw [if_pos hc299] at hE
                                                          obtain ⟨x298, ex298, hE⟩ := Option.bind_eq_some_iff.mp hE
                                                          refine y_iinc (ls' := [(3, .int x298), (0, .ref 0), (1, .ref v1), (2, .ref v2)]) dL_law_1560 3 rfl (Option.some.inj ex298) (by decide) rfl ?_
                                                          refine y_goto (tgt := 18) dL_law_1563 (by decide) ?_
                                                          refine y_pick [1, 2, 3, 0] rfl ?_
                                                          exact ih _ _ _ _ _ _ _ hE (by omega) (by omega) hm KR K
                                                        · rw [if_neg hc299] at hE
                                                          refine y_iconst (v := (0 : Int32)) dL_law_1118 (by decide) ?_
                                                          obtain ⟨rfl, rfl, rfl⟩ := x_inj3 hE
                                                          obtain ⟨rfl, rfl⟩ := KR _ rfl
                                                          dsimp only
                                                          exact y_ret dL_law_1119 (by omega) (by omega) ⟨_, rfl, rfl⟩
                                                      · rw [if_neg hc300] at hE
                                                        by_cases hc307 : (x13 &&& (63 : Int32)) = (25 : Int32)
                                                        · rw [if_pos hc307] at hE
                                                          have hk := hc307
                                                          refine y_tabIn (tgt := 1120) dL_law_33 (by rw [hk]; decide) (by rw [hk]; decide) (by rw [hk]; rfl) (by decide) ?_
                                                          refine y_aload_n dL_law_1120 1 rfl ?_
                                                          obtain ⟨u301, eu301, hE⟩ := Option.bind_eq_some_iff.mp hE
                                                          obtain ⟨q302, eq302, hE⟩ := Option.bind_eq_some_iff.mp hE
                                                          refine y_cVi0 (st := []) (as := []) (c_X6_shutIn eq302) lk_L_123 in_X6_shutIn se_X6_shutIn rfl eu301 ⟨Nat.le_of_ble_eq_true rfl, Nat.le_of_ble_eq_true rfl⟩ (Nat.le_of_ble_eq_true rfl) dL_law_1121 ⟨by omega, by omega⟩ rfl ?_
                                                          refine y_aload_n dL_law_1124 2 rfl ?_
                                                          obtain ⟨u303, eu303, hE⟩ := Option.bind_eq_some_iff.mp hE
                                                          obtain ⟨q304, eq304, hE⟩ := Option.bind_eq_some_iff.mp hE
                                                          refine y_cVi0 (st := [.int q302]) (as := []) (c_X7_shutIn eq304) lk_L_126 in_X7_shutIn se_X7_shutIn rfl eu303 ⟨Nat.le_of_ble_eq_true rfl, Nat.le_of_ble_eq_true rfl⟩ (Nat.le_of_ble_eq_true rfl) dL_law_1125 ⟨by omega, by omega⟩ rfl ?_
                                                          refine y_icmp_eq (tgt := 1560) dL_law_1128 (by decide) (fun hc306 => ?_) (fun hc306 => ?_)
                                                          · rw [if_pos hc306] at hE
                                                            obtain ⟨x305, ex305, hE⟩ := Option.bind_eq_some_iff.mp hE
                                                            refine y_iinc (ls' := [(3, .int x305), (0, .ref 0), (1, .ref v1), (2, .ref v2)]) dL_law_1560 3 rfl (Option.some.inj ex305) (by decide) rfl ?_
                                                            refine y_goto (tgt := 18) dL_law_1563 (by decide) ?_
                                                            refine y_pick [1, 2, 3, 0] rfl ?_
                                                            exact ih _ _ _ _ _ _ _ hE (by omega) (by omega) hm KR K
                                                          · rw [if_neg hc306] at hE
                                                            refine y_iconst (v := (0 : Int32)) dL_law_1131 (by decide) ?_
                                                            obtain ⟨rfl, rfl, rfl⟩ := x_inj3 hE
                                                            obtain ⟨rfl, rfl⟩ := KR _ rfl
                                                            dsimp only
                                                            exact y_ret dL_law_1132 (by omega) (by omega) ⟨_, rfl, rfl⟩
                                                        · rw [if_neg hc307] at hE
                                                          by_cases hc322 : (x13 &&& (63 : Int32)) = (26 : Int32)
                                                          · rw [if_pos hc322] at hE
                                                            have hk := hc322
                                                            refine y_tabIn (tgt := 1133) dL_law_33 (by rw [hk]; decide) (by rw [hk]; decide) (by rw [hk]; rfl) (by decide) ?_
                                                            refine y_aload_n dL_law_1133 1 rfl ?_
                                                            refine y_aload_n dL_law_1134 0 rfl ?_
                                                            refine y_iload_n dL_law_1135 3 rfl ?_
                                                            refine y_iconst (v := (1 : Int32)) dL_law_1136 (by decide) ?_
                                                            refine y_iadd dL_law_1137 ?_
                                                            obtain ⟨x308, ex308, hE⟩ := Option.bind_eq_some_iff.mp hE
                                                            refine y_sld' ex308 dL_law_1138 ?_
                                                            refine y_aload_n dL_law_1139 0 rfl ?_
                                                            refine y_iload_n dL_law_1140 3 rfl ?_
                                                            refine y_iconst (v := (2 : Int32)) dL_law_1141 (by decide) ?_
                                                            refine y_iadd dL_law_1142 ?_
                                                            obtain ⟨x309, ex309, hE⟩ := Option.bind_eq_some_iff.mp hE
                                                            refine y_sld' ex309 dL_law_1143 ?_
                                                            obtain ⟨u310, eu310, hE⟩ := Option.bind_eq_some_iff.mp hE
                                                            obtain ⟨q311, eq311, hE⟩ := Option.bind_eq_some_iff.mp hE
                                                            obtain ⟨c312, s313, hN, ecc312, ess313⟩ := x_add.spec hE
                                                            clear hE; have hE := hN; clear hN
                                                            refine y_cVi1 (st := []) (as := [.int x308, .int x309]) (c_X6_coming (eq311.trans (show some q311 = some ((q311.1.1, q311.1.2), q311.2.1, q311.2.2) from rfl))) lk_L_127 in_X6_coming se_X6_coming rfl eu310 ⟨Nat.le_of_ble_eq_true rfl, Nat.le_of_ble_eq_true rfl⟩ (Nat.le_of_ble_eq_true rfl) dL_law_1144 ⟨by omega, by omega⟩ rfl ?_
                                                            refine y_aload_n dL_law_1147 2 rfl ?_
                                                            refine y_aload_n dL_law_1148 0 rfl ?_
                                                            refine y_iload_n dL_law_1149 3 rfl ?_
                                                            refine y_iconst (v := (1 : Int32)) dL_law_1150 (by decide) ?_
                                                            refine y_iadd dL_law_1151 ?_
                                                            obtain ⟨x314, ex314, hE⟩ := Option.bind_eq_some_iff.mp hE
                                                            refine y_sld' ex314 dL_law_1152 ?_
                                                            refine y_aload_n dL_law_1153 0 rfl ?_
                                                            refine y_iload_n dL_law_1154 3 rfl ?_
                                                            refine y_iconst (v := (2 : Int32)) dL_law_1155 (by decide) ?_
                                                            refine y_iadd dL_law_1156 ?_
                                                            obtain ⟨x315, ex315, hE⟩ := Option.bind_eq_some_iff.mp hE
                                                            refine y_sld' ex315 dL_law_1157 ?_
                                                            obtain ⟨u316, eu316, hE⟩ := Option.bind_eq_some_iff.mp hE
                                                            obtain ⟨q317, eq317, hE⟩ := Option.bind_eq_some_iff.mp hE
                                                            obtain ⟨c318, s319, hN, ecc318, ess319⟩ := x_add.spec hE
                                                            clear hE; have hE := hN; clear hN
                                                            refine y_cVi1 (st := [.int q311.1.1]) (as := [.int x314, .int x315]) (c_X7_coming (eq317.trans (show some q317 = some ((q317.1.1, q317.1.2), q317.2.1, q317.2.2) from rfl))) lk_L_130 in_X7_coming se_X7_coming rfl eu316 ⟨Nat.le_of_ble_eq_true rfl, Nat.le_of_ble_eq_true rfl⟩ (Nat.le_of_ble_eq_true rfl) dL_law_1158 ⟨by omega, by omega⟩ rfl ?_
                                                            refine y_icmp_eq (tgt := 1560) dL_law_1161 (by decide) (fun hc321 => ?_) (fun hc321 => ?_)
                                                            · rw [if_pos hc321] at hE
                                                              obtain ⟨x320, ex320, hE⟩ := Option.bind_eq_some_iff.mp hE
                                                              refine y_iinc (ls' := [(3, .int x320), (0, .ref 0), (1, .ref v1), (2, .ref v2)]) dL_law_1560 3 rfl (Option.some.inj ex320) (by decide) rfl ?_
                                                              refine y_goto (tgt := 18) dL_law_1563 (by decide) ?_
                                                              refine y_pick [1, 2, 3, 0] rfl ?_
                                                              exact ih _ _ _ _ _ _ _ hE (by omega) (by omega) hm KR K
                                                            · rw [if_neg hc321] at hE
                                                              refine y_iconst (v := (0 : Int32)) dL_law_1164 (by decide) ?_
                                                              obtain ⟨rfl, rfl, rfl⟩ := x_inj3 hE
                                                              obtain ⟨rfl, rfl⟩ := KR _ rfl
                                                              dsimp only
                                                              exact y_ret dL_law_1165 (by omega) (by omega) ⟨_, rfl, rfl⟩
                                                          · rw [if_neg hc322] at hE
                                                            by_cases hc335 : (x13 &&& (63 : Int32)) = (27 : Int32)
                                                            · rw [if_pos hc335] at hE
                                                              have hk := hc335
                                                              refine y_tabIn (tgt := 1166) dL_law_33 (by rw [hk]; decide) (by rw [hk]; decide) (by rw [hk]; rfl) (by decide) ?_
                                                              refine y_aload_n dL_law_1166 1 rfl ?_
                                                              refine y_aload_n dL_law_1167 0 rfl ?_
                                                              refine y_iload_n dL_law_1168 3 rfl ?_
                                                              refine y_iconst (v := (1 : Int32)) dL_law_1169 (by decide) ?_
                                                              refine y_iadd dL_law_1170 ?_
                                                              obtain ⟨x323, ex323, hE⟩ := Option.bind_eq_some_iff.mp hE
                                                              refine y_sld' ex323 dL_law_1171 ?_
                                                              obtain ⟨u324, eu324, hE⟩ := Option.bind_eq_some_iff.mp hE
                                                              obtain ⟨q325, eq325, hE⟩ := Option.bind_eq_some_iff.mp hE
                                                              obtain ⟨c326, s327, hN, ecc326, ess327⟩ := x_add.spec hE
                                                              clear hE; have hE := hN; clear hN
                                                              refine y_cVi1 (st := []) (as := [.int x323]) (c_X6_all (eq325.trans (show some q325 = some ((q325.1.1, q325.1.2), q325.2.1, q325.2.2) from rfl))) lk_L_131 in_X6_all se_X6_all rfl eu324 ⟨Nat.le_of_ble_eq_true rfl, Nat.le_of_ble_eq_true rfl⟩ (Nat.le_of_ble_eq_true rfl) dL_law_1172 ⟨by omega, by omega⟩ rfl ?_
                                                              refine y_aload_n dL_law_1175 2 rfl ?_
                                                              refine y_aload_n dL_law_1176 0 rfl ?_
                                                              refine y_iload_n dL_law_1177 3 rfl ?_
                                                              refine y_iconst (v := (1 : Int32)) dL_law_1178 (by decide) ?_
                                                              refine y_iadd dL_law_1179 ?_
                                                              obtain ⟨x328, ex328, hE⟩ := Option.bind_eq_some_iff.mp hE
                                                              refine y_sld' ex328 dL_law_1180 ?_
                                                              obtain ⟨u329, eu329, hE⟩ := Option.bind_eq_some_iff.mp hE
                                                              obtain ⟨q330, eq330, hE⟩ := Option.bind_eq_some_iff.mp hE
                                                              obtain ⟨c331, s332, hN, ecc331, ess332⟩ := x_add.spec hE
                                                              clear hE; have hE := hN; clear hN
                                                              refine y_cVi1 (st := [.int q325.1.1]) (as := [.int x328]) (c_X7_all (eq330.trans (show some q330 = some ((q330.1.1, q330.1.2), q330.2.1, q330.2.2) from rfl))) lk_L_134 in_X7_all se_X7_all rfl eu329 ⟨Nat.le_of_ble_eq_true rfl, Nat.le_of_ble_eq_true rfl⟩ (Nat.le_of_ble_eq_true rfl) dL_law_1181 ⟨by omega, by omega⟩ rfl ?_
                                                              refine y_icmp_eq (tgt := 1560) dL_law_1184 (by decide) (fun hc334 => ?_) (fun hc334 => ?_)
                                                              · rw [if_pos hc334] at hE
                                                                obtain ⟨x333, ex333, hE⟩ := Option.bind_eq_some_iff.mp hE
                                                                refine y_iinc (ls' := [(3, .int x333), (0, .ref 0), (1, .ref v1), (2, .ref v2)]) dL_law_1560 3 rfl (Option.some.inj ex333) (by decide) rfl ?_
                                                                refine y_goto (tgt := 18) dL_law_1563 (by decide) ?_
                                                                refine y_pick [1, 2, 3, 0] rfl ?_
                                                                exact ih _ _ _ _ _ _ _ hE (by omega) (by omega) hm KR K
                                                              · rw [if_neg hc334] at hE
                                                                refine y_iconst (v := (0 : Int32)) dL_law_1187 (by decide) ?_
                                                                obtain ⟨rfl, rfl, rfl⟩ := x_inj3 hE
                                                                obtain ⟨rfl, rfl⟩ := KR _ rfl
                                                                dsimp only
                                                                exact y_ret dL_law_1188 (by omega) (by omega) ⟨_, rfl, rfl⟩
                                                            · rw [if_neg hc335] at hE
                                                              by_cases hc350 : (x13 &&& (63 : Int32)) = (28 : Int32)
                                                              · rw [if_pos hc350] at hE
                                                                have hk := hc350
                                                                refine y_tabIn (tgt := 1189) dL_law_33 (by rw [hk]; decide) (by rw [hk]; decide) (by rw [hk]; rfl) (by decide) ?_
                                                                refine y_aload_n dL_law_1189 1 rfl ?_
                                                                refine y_aload_n dL_law_1190 0 rfl ?_
                                                                refine y_iload_n dL_law_1191 3 rfl ?_
                                                                refine y_iconst (v := (1 : Int32)) dL_law_1192 (by decide) ?_
                                                                refine y_iadd dL_law_1193 ?_
                                                                obtain ⟨x336, ex336, hE⟩ := Option.bind_eq_some_iff.mp hE
                                                                refine y_sld' ex336 dL_law_1194 ?_
                                                                refine y_aload_n dL_law_1195 0 rfl ?_
                                                                refine y_iload_n dL_law_1196 3 rfl ?_
                                                                refine y_iconst (v := (2 : Int32)) dL_law_1197 (by decide) ?_
                                                                refine y_iadd dL_law_1198 ?_
                                                                obtain ⟨x337, ex337, hE⟩ := Option.bind_eq_some_iff.mp hE
                                                                refine y_sld' ex337 dL_law_1199 ?_
                                                                obtain ⟨u338, eu338, hE⟩ := Option.bind_eq_some_iff.mp hE
                                                                obtain ⟨q339, eq339, hE⟩ := Option.bind_eq_some_iff.mp hE
                                                                obtain ⟨c340, s341, hN, ecc340, ess341⟩ := x_add.spec hE
                                                                clear hE; have hE := hN; clear hN
                                                                refine y_cVi1 (st := []) (as := [.int x336, .int x337]) (c_X6_first (eq339.trans (show some q339 = some ((q339.1.1, q339.1.2), q339.2.1, q339.2.2) from rfl))) lk_L_135 in_X6_first se_X6_first rfl eu338 ⟨Nat.le_of_ble_eq_true rfl, Nat.le_of_ble_eq_true rfl⟩ (Nat.le_of_ble_eq_true rfl) dL_law_1200 ⟨by omega, by omega⟩ rfl ?_
                                                                refine y_aload_n dL_law_1203 2 rfl ?_
                                                                refine y_aload_n dL_law_1204 0 rfl ?_
                                                                refine y_iload_n dL_law_1205 3 rfl ?_
                                                                refine y_iconst (v := (1 : Int32)) dL_law_1206 (by decide) ?_
                                                                refine y_iadd dL_law_1207 ?_
                                                                obtain ⟨x342, ex342, hE⟩ := Option.bind_eq_some_iff.mp hE
                                                                refine y_sld' ex342 dL_law_1208 ?_
                                                                refine y_aload_n dL_law_1209 0 rfl ?_
                                                                refine y_iload_n dL_law_1210 3 rfl ?_
                                                                refine y_iconst (v := (2 : Int32)) dL_law_1211 (by decide) ?_
                                                                refine y_iadd dL_law_1212 ?_
                                                                obtain ⟨x343, ex343, hE⟩ := Option.bind_eq_some_iff.mp hE
                                                                refine y_sld' ex343 dL_law_1213 ?_
                                                                obtain ⟨u344, eu344, hE⟩ := Option.bind_eq_some_iff.mp hE
                                                                obtain ⟨q345, eq345, hE⟩ := Option.bind_eq_some_iff.mp hE
                                                                obtain ⟨c346, s347, hN, ecc346, ess347⟩ := x_add.spec hE
                                                                clear hE; have hE := hN; clear hN
                                                                refine y_cVi1 (st := [.int q339.1.1]) (as := [.int x342, .int x343]) (c_X7_first (eq345.trans (show some q345 = some ((q345.1.1, q345.1.2), q345.2.1, q345.2.2) from rfl))) lk_L_138 in_X7_first se_X7_first rfl eu344 ⟨Nat.le_of_ble_eq_true rfl, Nat.le_of_ble_eq_true rfl⟩ (Nat.le_of_ble_eq_true rfl) dL_law_1214 ⟨by omega, by omega⟩ rfl ?_
                                                                refine y_icmp_eq (tgt := 1560) dL_law_1217 (by decide) (fun hc349 => ?_) (fun hc349 => ?_)
                                                                · rw [if_pos hc349] at hE
                                                                  obtain ⟨x348, ex348, hE⟩ := Option.bind_eq_some_iff.mp hE
                                                                  refine y_iinc (ls' := [(3, .int x348), (0, .ref 0), (1, .ref v1), (2, .ref v2)]) dL_law_1560 3 rfl (Option.some.inj ex348) (by decide) rfl ?_
                                                                  refine y_goto (tgt := 18) dL_law_1563 (by decide) ?_
                                                                  refine y_pick [1, 2, 3, 0] rfl ?_
                                                                  exact ih _ _ _ _ _ _ _ hE (by omega) (by omega) hm KR K
                                                                · rw [if_neg hc349] at hE
                                                                  refine y_iconst (v := (0 : Int32)) dL_law_1220 (by decide) ?_
                                                                  obtain ⟨rfl, rfl, rfl⟩ := x_inj3 hE
                                                                  obtain ⟨rfl, rfl⟩ := KR _ rfl
                                                                  dsimp only
                                                                  exact y_ret dL_law_1221 (by omega) (by omega) ⟨_, rfl, rfl⟩
                                                              · rw [if_neg hc350] at hE
                                                                by_cases hc367 : (x13 &&& (63 : Int32)) = (29 : Int32)
                                                                · rw [if_pos hc367] at hE
                                                                  have hk := hc367
                                                                  refine y_tabIn (tgt := 1222) dL_law_33 (by rw [hk]; decide) (by rw [hk]; decide) (by rw [hk]; rfl) (by decide) ?_
                                                                  refine y_aload_n dL_law_1222 1 rfl ?_
                                                                  refine y_aload_n dL_law_1223 0 rfl ?_
                                                                  refine y_iload_n dL_law_1224 3 rfl ?_
                                                                  refine y_iconst (v := (1 : Int32)) dL_law_1225 (by decide) ?_
                                                                  refine y_iadd dL_law_1226 ?_
                                                                  obtain ⟨x351, ex351, hE⟩ := Option.bind_eq_some_iff.mp hE
                                                                  refine y_sld' ex351 dL_law_1227 ?_
                                                                  refine y_aload_n dL_law_1228 0 rfl ?_
                                                                  refine y_iload_n dL_law_1229 3 rfl ?_
                                                                  refine y_iconst (v := (2 : Int32)) dL_law_1230 (by decide) ?_
                                                                  refine y_iadd dL_law_1231 ?_
                                                                  obtain ⟨x352, ex352, hE⟩ := Option.bind_eq_some_iff.mp hE
                                                                  refine y_sld' ex352 dL_law_1232 ?_
                                                                  refine y_aload_n dL_law_1233 0 rfl ?_
                                                                  refine y_iload_n dL_law_1234 3 rfl ?_
                                                                  refine y_iconst (v := (3 : Int32)) dL_law_1235 (by decide) ?_
                                                                  refine y_iadd dL_law_1236 ?_
                                                                  obtain ⟨x353, ex353, hE⟩ := Option.bind_eq_some_iff.mp hE
                                                                  refine y_sld' ex353 dL_law_1237 ?_
                                                                  obtain ⟨u354, eu354, hE⟩ := Option.bind_eq_some_iff.mp hE
                                                                  obtain ⟨q355, eq355, hE⟩ := Option.bind_eq_some_iff.mp hE
                                                                  obtain ⟨c356, s357, hN, ecc356, ess357⟩ := x_add.spec hE
                                                                  clear hE; have hE := hN; clear hN
                                                                  refine y_cVi1 (st := []) (as := [.int x351, .int x352, .int x353]) (c_X6_errands (eq355.trans (show some q355 = some ((q355.1.1, q355.1.2), q355.2.1, q355.2.2) from rfl))) lk_L_139 in_X6_errands se_X6_errands rfl eu354 ⟨Nat.le_of_ble_eq_true rfl, Nat.le_of_ble_eq_true rfl⟩ (Nat.le_of_ble_eq_true rfl) dL_law_1238 ⟨by omega, by omega⟩ rfl ?_
                                                                  refine y_aload_n dL_law_1241 2 rfl ?_
                                                                  refine y_aload_n dL_law_1242 0 rfl ?_
                                                                  refine y_iload_n dL_law_1243 3 rfl ?_
                                                                  refine y_iconst (v := (1 : Int32)) dL_law_1244 (by decide) ?_
                                                                  refine y_iadd dL_law_1245 ?_
                                                                  obtain ⟨x358, ex358, hE⟩ := Option.bind_eq_some_iff.mp hE
                                                                  refine y_sld' ex358 dL_law_1246 ?_
                                                                  refine y_aload_n dL_law_1247 0 rfl ?_
                                                                  refine y_iload_n dL_law_1248 3 rfl ?_
                                                                  refine y_iconst (v := (2 : Int32)) dL_law_1249 (by decide) ?_
                                                                  refine y_iadd dL_law_1250 ?_
                                                                  obtain ⟨x359, ex359, hE⟩ := Option.bind_eq_some_iff.mp hE
                                                                  refine y_sld' ex359 dL_law_1251 ?_
                                                                  refine y_aload_n dL_law_1252 0 rfl ?_
                                                                  refine y_iload_n dL_law_1253 3 rfl ?_
                                                                  refine y_iconst (v := (3 : Int32)) dL_law_1254 (by decide) ?_
                                                                  refine y_iadd dL_law_1255 ?_
                                                                  obtain ⟨x360, ex360, hE⟩ := Option.bind_eq_some_iff.mp hE
                                                                  refine y_sld' ex360 dL_law_1256 ?_
                                                                  obtain ⟨u361, eu361, hE⟩ := Option.bind_eq_some_iff.mp hE
                                                                  obtain ⟨q362, eq362, hE⟩ := Option.bind_eq_some_iff.mp hE
                                                                  obtain ⟨c363, s364, hN, ecc363, ess364⟩ := x_add.spec hE
                                                                  clear hE; have hE := hN; clear hN
                                                                  refine y_cVi1 (st := [.int q355.1.1]) (as := [.int x358, .int x359, .int x360]) (c_X7_errands (eq362.trans (show some q362 = some ((q362.1.1, q362.1.2), q362.2.1, q362.2.2) from rfl))) lk_L_142 in_X7_errands se_X7_errands rfl eu361 ⟨Nat.le_of_ble_eq_true rfl, Nat.le_of_ble_eq_true rfl⟩ (Nat.le_of_ble_eq_true rfl) dL_law_1257 ⟨by omega, by omega⟩ rfl ?_
                                                                  refine y_icmp_eq (tgt := 1560) dL_law_1260 (by decide) (fun hc366 => ?_) (fun hc366 => ?_)
                                                                  · rw [if_pos hc366] at hE
                                                                    obtain ⟨x365, ex365, hE⟩ := Option.bind_eq_some_iff.mp hE
                                                                    refine y_iinc (ls' := [(3, .int x365), (0, .ref 0), (1, .ref v1), (2, .ref v2)]) dL_law_1560 3 rfl (Option.some.inj ex365) (by decide) rfl ?_
                                                                    refine y_goto (tgt := 18) dL_law_1563 (by decide) ?_
                                                                    refine y_pick [1, 2, 3, 0] rfl ?_
                                                                    exact ih _ _ _ _ _ _ _ hE (by omega) (by omega) hm KR K
                                                                  · rw [if_neg hc366] at hE
                                                                    refine y_iconst (v := (0 : Int32)) dL_law_1263 (by decide) ?_
                                                                    obtain ⟨rfl, rfl, rfl⟩ := x_inj3 hE
                                                                    obtain ⟨rfl, rfl⟩ := KR _ rfl
                                                                    dsimp only
                                                                    exact y_ret dL_law_1264 (by omega) (by omega) ⟨_, rfl, rfl⟩
                                                                · rw [if_neg hc367] at hE
                                                                  by_cases hc378 : (x13 &&& (63 : Int32)) = (30 : Int32)
                                                                  · rw [if_pos hc378] at hE
                                                                    have hk := hc378
                                                                    refine y_tabIn (tgt := 1265) dL_law_33 (by rw [hk]; decide) (by rw [hk]; decide) (by rw [hk]; rfl) (by decide) ?_
                                                                    refine y_aload_n dL_law_1265 1 rfl ?_
                                                                    obtain ⟨u368, eu368, hE⟩ := Option.bind_eq_some_iff.mp hE
                                                                    obtain ⟨q369, eq369, hE⟩ := Option.bind_eq_some_iff.mp hE
                                                                    obtain ⟨c370, s371, hN, ecc370, ess371⟩ := x_add.spec hE
                                                                    clear hE; have hE := hN; clear hN
                                                                    refine y_cVi1 (st := []) (as := []) (c_X6_lost (eq369.trans (show some q369 = some ((q369.1.1, q369.1.2), q369.2.1, q369.2.2) from rfl))) lk_L_143 in_X6_lost se_X6_lost rfl eu368 ⟨Nat.le_of_ble_eq_true rfl, Nat.le_of_ble_eq_true rfl⟩ (Nat.le_of_ble_eq_true rfl) dL_law_1266 ⟨by omega, by omega⟩ rfl ?_
                                                                    refine y_aload_n dL_law_1269 2 rfl ?_
                                                                    obtain ⟨u372, eu372, hE⟩ := Option.bind_eq_some_iff.mp hE
                                                                    obtain ⟨q373, eq373, hE⟩ := Option.bind_eq_some_iff.mp hE
                                                                    obtain ⟨c374, s375, hN, ecc374, ess375⟩ := x_add.spec hE
                                                                    clear hE; have hE := hN; clear hN
                                                                    refine y_cVi1 (st := [.int q369.1.1]) (as := []) (c_X7_lost (eq373.trans (show some q373 = some ((q373.1.1, q373.1.2), q373.2.1, q373.2.2) from rfl))) lk_L_146 in_X7_lost se_X7_lost rfl eu372 ⟨Nat.le_of_ble_eq_true rfl, Nat.le_of_ble_eq_true rfl⟩ (Nat.le_of_ble_eq_true rfl) dL_law_1270 ⟨by omega, by omega⟩ rfl ?_
                                                                    refine y_icmp_eq (tgt := 1560) dL_law_1273 (by decide) (fun hc377 => ?_) (fun hc377 => ?_)
                                                                    · rw [if_pos hc377] at hE
                                                                      obtain ⟨x376, ex376, hE⟩ := Option.bind_eq_some_iff.mp hE
                                                                      refine y_iinc (ls' := [(3, .int x376), (0, .ref 0), (1, .ref v1), (2, .ref v2)]) dL_law_1560 3 rfl (Option.some.inj ex376) (by decide) rfl ?_
                                                                      refine y_goto (tgt := 18) dL_law_1563 (by decide) ?_
                                                                      refine y_pick [1, 2, 3, 0] rfl ?_
                                                                      exact ih _ _ _ _ _ _ _ hE (by omega) (by omega) hm KR K
                                                                    · rw [if_neg hc377] at hE
                                                                      refine y_iconst (v := (0 : Int32)) dL_law_1276 (by decide) ?_
                                                                      obtain ⟨rfl, rfl, rfl⟩ := x_inj3 hE
                                                                      obtain ⟨rfl, rfl⟩ := KR _ rfl
                                                                      dsimp only
                                                                      exact y_ret dL_law_1277 (by omega) (by omega) ⟨_, rfl, rfl⟩
                                                                  · rw [if_neg hc378] at hE
                                                                    by_cases hc385 : (x13 &&& (63 : Int32)) = (31 : Int32)
                                                                    · rw [if_pos hc385] at hE
                                                                      have hk := hc385
                                                                      refine y_tabIn (tgt := 1278) dL_law_33 (by rw [hk]; decide) (by rw [hk]; decide) (by rw [hk]; rfl) (by decide) ?_
                                                                      refine y_aload_n dL_law_1278 1 rfl ?_
                                                                      obtain ⟨u379, eu379, hE⟩ := Option.bind_eq_some_iff.mp hE
                                                                      obtain ⟨q380, eq380, hE⟩ := Option.bind_eq_some_iff.mp hE
                                                                      refine y_cVi0 (st := []) (as := []) (c_X6_stock eq380) lk_L_147 in_X6_stock se_X6_stock rfl eu379 ⟨Nat.le_of_ble_eq_true rfl, Nat.le_of_ble_eq_true rfl⟩ (Nat.le_of_ble_eq_true rfl) dL_law_1279 ⟨by omega, by omega⟩ rfl ?_
                                                                      refine y_aload_n dL_law_1282 2 rfl ?_
                                                                      obtain ⟨u381, eu381, hE⟩ := Option.bind_eq_some_iff.mp hE
                                                                      obtain ⟨q382, eq382, hE⟩ := Option.bind_eq_some_iff.mp hE
                                                                      refine y_cVi0 (st := [.int q380]) (as := []) (c_X7_stock eq382) lk_L_150 in_X7_stock se_X7_stock rfl eu381 ⟨Nat.le_of_ble_eq_true rfl, Nat.le_of_ble_eq_true rfl⟩ (Nat.le_of_ble_eq_true rfl) dL_law_1283 ⟨by omega, by omega⟩ rfl ?_
                                                                      refine y_icmp_eq (tgt := 1560) dL_law_1286 (by decide) (fun hc384 => ?_) (fun hc384 => ?_)
                                                                      · rw [if_pos hc384] at hE
                                                                        obtain ⟨x383, ex383, hE⟩ := Option.bind_eq_some_iff.mp hE
                                                                        refine y_iinc (ls' := [(3, .int x383), (0, .ref 0), (1, .ref v1), (2, .ref v2)]) dL_law_1560 3 rfl (Option.some.inj ex383) (by decide) rfl ?_
                                                                        refine y_goto (tgt := 18) dL_law_1563 (by decide) ?_
                                                                        refine y_pick [1, 2, 3, 0] rfl ?_
                                                                        exact ih _ _ _ _ _ _ _ hE (by omega) (by omega) hm KR K
                                                                      · rw [if_neg hc384] at hE
                                                                        refine y_iconst (v := (0 : Int32)) dL_law_1289 (by decide) ?_
                                                                        obtain ⟨rfl, rfl, rfl⟩ := x_inj3 hE
                                                                        obtain ⟨rfl, rfl⟩ := KR _ rfl
                                                                        dsimp only
                                                                        exact y_ret dL_law_1290 (by omega) (by omega) ⟨_, rfl, rfl⟩
                                                                    · rw [if_neg hc385] at hE
                                                                      by_cases hc394 : (x13 &&& (63 : Int32)) = (32 : Int32)
                                                                      · rw [if_pos hc394] at hE
                                                                        have hk := hc394
                                                                        refine y_tabIn (tgt := 1291) dL_law_33 (by rw [hk]; decide) (by rw [hk]; decide) (by rw [hk]; rfl) (by decide) ?_
                                                                        refine y_aload_n dL_law_1291 1 rfl ?_
                                                                        obtain ⟨u386, eu386, hE⟩ := Option.bind_eq_some_iff.mp hE
                                                                        obtain ⟨q387, eq387, hE⟩ := Option.bind_eq_some_iff.mp hE
                                                                        refine y_cVi0 (st := []) (as := []) (c_X6_lasts eq387) lk_L_151 in_X6_lasts se_X6_lasts rfl eu386 ⟨Nat.le_of_ble_eq_true rfl, Nat.le_of_ble_eq_true rfl⟩ (Nat.le_of_ble_eq_true rfl) dL_law_1292 ⟨by omega, by omega⟩ rfl ?_
                                                                        refine y_aload_n dL_law_1295 2 rfl ?_
                                                                        obtain ⟨u388, eu388, hE⟩ := Option.bind_eq_some_iff.mp hE
                                                                        obtain ⟨q389, eq389, hE⟩ := Option.bind_eq_some_iff.mp hE
                                                                        obtain ⟨c390, s391, hN, ecc390, ess391⟩ := x_add.spec hE
                                                                        clear hE; have hE := hN; clear hN
                                                                        refine y_cVi1 (st := [.int q387.1]) (as := []) (c_X7_lasts (eq389.trans (show some q389 = some ((q389.1.1, q389.1.2), q389.2.1, q389.2.2) from rfl))) lk_L_154 in_X7_lasts se_X7_lasts rfl eu388 ⟨Nat.le_of_ble_eq_true rfl, Nat.le_of_ble_eq_true rfl⟩ (Nat.le_of_ble_eq_true rfl) dL_law_1296 ⟨by omega, by omega⟩ rfl ?_
                                                                        refine y_icmp_eq (tgt := 1560) dL_law_1299 (by decide) (fun hc393 => ?_) (fun hc393 => ?_)
                                                                        · rw [if_pos hc393] at hE
                                                                          obtain ⟨x392, ex392, hE⟩ := Option.bind_eq_some_iff.mp hE
                                                                          refine y_iinc (ls' := [(3, .int x392), (0, .ref 0), (1, .ref v1), (2, .ref v2)]) dL_law_1560 3 rfl (Option.some.inj ex392) (by decide) rfl ?_
                                                                          refine y_goto (tgt := 18) dL_law_1563 (by decide) ?_
                                                                          refine y_pick [1, 2, 3, 0] rfl ?_
                                                                          exact ih _ _ _ _ _ _ _ hE (by omega) (by omega) hm KR K
                                                                        · rw [if_neg hc393] at hE
                                                                          refine y_iconst (v := (0 : Int32)) dL_law_1302 (by decide) ?_
                                                                          obtain ⟨rfl, rfl, rfl⟩ := x_inj3 hE
                                                                          obtain ⟨rfl, rfl⟩ := KR _ rfl
                                                                          dsimp only
                                                                          exact y_ret dL_law_1303 (by omega) (by omega) ⟨_, rfl, rfl⟩
                                                                      · rw [if_neg hc394] at hE
                                                                        by_cases hc405 : (x13 &&& (63 : Int32)) = (33 : Int32)
                                                                        · rw [if_pos hc405] at hE
                                                                          have hk := hc405
                                                                          refine y_tabIn (tgt := 1304) dL_law_33 (by rw [hk]; decide) (by rw [hk]; decide) (by rw [hk]; rfl) (by decide) ?_
                                                                          refine y_aload_n dL_law_1304 1 rfl ?_
                                                                          refine y_aload_n dL_law_1305 0 rfl ?_
                                                                          refine y_iload_n dL_law_1306 3 rfl ?_
                                                                          refine y_iconst (v := (1 : Int32)) dL_law_1307 (by decide) ?_
                                                                          refine y_iadd dL_law_1308 ?_
                                                                          obtain ⟨x395, ex395, hE⟩ := Option.bind_eq_some_iff.mp hE
                                                                          refine y_sld' ex395 dL_law_1309 ?_
                                                                          obtain ⟨u396, eu396, hE⟩ := Option.bind_eq_some_iff.mp hE
                                                                          obtain ⟨q397, eq397, hE⟩ := Option.bind_eq_some_iff.mp hE
                                                                          refine y_cVi0 (st := []) (as := [.int x395]) (c_X6_worth eq397) lk_L_155 in_X6_worth se_X6_worth rfl eu396 ⟨Nat.le_of_ble_eq_true rfl, Nat.le_of_ble_eq_true rfl⟩ (Nat.le_of_ble_eq_true rfl) dL_law_1310 ⟨by omega, by omega⟩ rfl ?_
                                                                          refine y_aload_n dL_law_1313 2 rfl ?_
                                                                          refine y_aload_n dL_law_1314 0 rfl ?_
                                                                          refine y_iload_n dL_law_1315 3 rfl ?_
                                                                          refine y_iconst (v := (1 : Int32)) dL_law_1316 (by decide) ?_
                                                                          refine y_iadd dL_law_1317 ?_
                                                                          obtain ⟨x398, ex398, hE⟩ := Option.bind_eq_some_iff.mp hE
                                                                          refine y_sld' ex398 dL_law_1318 ?_
                                                                          obtain ⟨u399, eu399, hE⟩ := Option.bind_eq_some_iff.mp hE
                                                                          obtain ⟨q400, eq400, hE⟩ := Option.bind_eq_some_iff.mp hE
                                                                          obtain ⟨c401, s402, hN, ecc401, ess402⟩ := x_add.spec hE
                                                                          clear hE; have hE := hN; clear hN
                                                                          refine y_cVi1 (st := [.int q397.1]) (as := [.int x398]) (c_X7_worth (eq400.trans (show some q400 = some ((q400.1.1, q400.1.2), q400.2.1, q400.2.2) from rfl))) lk_L_158 in_X7_worth se_X7_worth rfl eu399 ⟨Nat.le_of_ble_eq_true rfl, Nat.le_of_ble_eq_true rfl⟩ (Nat.le_of_ble_eq_true rfl) dL_law_1319 ⟨by omega, by omega⟩ rfl ?_
                                                                          refine y_icmp_eq (tgt := 1560) dL_law_1322 (by decide) (fun hc404 => ?_) (fun hc404 => ?_)
                                                                          · rw [if_pos hc404] at hE
                                                                            obtain ⟨x403, ex403, hE⟩ := Option.bind_eq_some_iff.mp hE
                                                                            refine y_iinc (ls' := [(3, .int x403), (0, .ref 0), (1, .ref v1), (2, .ref v2)]) dL_law_1560 3 rfl (Option.some.inj ex403) (by decide) rfl ?_
                                                                            refine y_goto (tgt := 18) dL_law_1563 (by decide) ?_
                                                                            refine y_pick [1, 2, 3, 0] rfl ?_
                                                                            exact ih _ _ _ _ _ _ _ hE (by omega) (by omega) hm KR K
                                                                          · rw [if_neg hc404] at hE
                                                                            refine y_iconst (v := (0 : Int32)) dL_law_1325 (by decide) ?_
                                                                            obtain ⟨rfl, rfl, rfl⟩ := x_inj3 hE
                                                                            obtain ⟨rfl, rfl⟩ := KR _ rfl
                                                                            dsimp only
                                                                            exact y_ret dL_law_1326 (by omega) (by omega) ⟨_, rfl, rfl⟩
                                                                        · rw [if_neg hc405] at hE
                                                                          by_cases hc414 : (x13 &&& (63 : Int32)) = (34 : Int32)
                                                                          · rw [if_pos hc414] at hE
                                                                            have hk := hc414
                                                                            refine y_tabIn (tgt := 1327) dL_law_33 (by rw [hk]; decide) (by rw [hk]; decide) (by rw [hk]; rfl) (by decide) ?_
                                                                            refine y_aload_n dL_law_1327 1 rfl ?_
                                                                            obtain ⟨u406, eu406, hE⟩ := Option.bind_eq_some_iff.mp hE
                                                                            obtain ⟨q407, eq407, hE⟩ := Option.bind_eq_some_iff.mp hE
                                                                            refine y_cVi0 (st := []) (as := []) (c_X6_spare eq407) lk_L_159 in_X6_spare se_X6_spare rfl eu406 ⟨Nat.le_of_ble_eq_true rfl, Nat.le_of_ble_eq_true rfl⟩ (Nat.le_of_ble_eq_true rfl) dL_law_1328 ⟨by omega, by omega⟩ rfl ?_
                                                                            refine y_aload_n dL_law_1331 2 rfl ?_
                                                                            obtain ⟨u408, eu408, hE⟩ := Option.bind_eq_some_iff.mp hE
                                                                            obtain ⟨q409, eq409, hE⟩ := Option.bind_eq_some_iff.mp hE
                                                                            obtain ⟨c410, s411, hN, ecc410, ess411⟩ := x_add.spec hE
                                                                            clear hE; have hE := hN; clear hN
                                                                            refine y_cVi1 (st := [.int q407.1]) (as := []) (c_X7_spare (eq409.trans (show some q409 = some ((q409.1.1, q409.1.2), q409.2.1, q409.2.2) from rfl))) lk_L_162 in_X7_spare se_X7_spare rfl eu408 ⟨Nat.le_of_ble_eq_true rfl, Nat.le_of_ble_eq_true rfl⟩ (Nat.le_of_ble_eq_true rfl) dL_law_1332 ⟨by omega, by omega⟩ rfl ?_
                                                                            refine y_icmp_eq (tgt := 1560) dL_law_1335 (by decide) (fun hc413 => ?_) (fun hc413 => ?_)
                                                                            · rw [if_pos hc413] at hE
                                                                              obtain ⟨x412, ex412, hE⟩ := Option.bind_eq_some_iff.mp hE
                                                                              refine y_iinc (ls' := [(3, .int x412), (0, .ref 0), (1, .ref v1), (2, .ref v2)]) dL_law_1560 3 rfl (Option.some.inj ex412) (by decide) rfl ?_
                                                                              refine y_goto (tgt := 18) dL_law_1563 (by decide) ?_
                                                                              refine y_pick [1, 2, 3, 0] rfl ?_
                                                                              exact ih _ _ _ _ _ _ _ hE (by omega) (by omega) hm KR K
                                                                            · rw [if_neg hc413] at hE
                                                                              refine y_iconst (v := (0 : Int32)) dL_law_1338 (by decide) ?_
                                                                              obtain ⟨rfl, rfl, rfl⟩ := x_inj3 hE
                                                                              obtain ⟨rfl, rfl⟩ := KR _ rfl
                                                                              dsimp only
                                                                              exact y_ret dL_law_1339 (by omega) (by omega) ⟨_, rfl, rfl⟩
                                                                          · rw [if_neg hc414] at hE
                                                                            by_cases hc423 : (x13 &&& (63 : Int32)) = (35 : Int32)
                                                                            · rw [if_pos hc423] at hE
                                                                              have hk := hc423
                                                                              refine y_tabIn (tgt := 1340) dL_law_33 (by rw [hk]; decide) (by rw [hk]; decide) (by rw [hk]; rfl) (by decide) ?_
                                                                              refine y_aload_n dL_law_1340 1 rfl ?_
                                                                              obtain ⟨u415, eu415, hE⟩ := Option.bind_eq_some_iff.mp hE
                                                                              obtain ⟨q416, eq416, hE⟩ := Option.bind_eq_some_iff.mp hE
                                                                              refine y_cVi0 (st := []) (as := []) (c_X6_endless eq416) lk_L_163 in_X6_endless se_X6_endless rfl eu415 ⟨Nat.le_of_ble_eq_true rfl, Nat.le_of_ble_eq_true rfl⟩ (Nat.le_of_ble_eq_true rfl) dL_law_1341 ⟨by omega, by omega⟩ rfl ?_
                                                                              refine y_aload_n dL_law_1344 2 rfl ?_
                                                                              obtain ⟨u417, eu417, hE⟩ := Option.bind_eq_some_iff.mp hE
                                                                              obtain ⟨q418, eq418, hE⟩ := Option.bind_eq_some_iff.mp hE
                                                                              obtain ⟨c419, s420, hN, ecc419, ess420⟩ := x_add.spec hE
                                                                              clear hE; have hE := hN; clear hN
                                                                              refine y_cVi1 (st := [.int q416.1]) (as := []) (c_X7_endless (eq418.trans (show some q418 = some ((q418.1.1, q418.1.2), q418.2.1, q418.2.2) from rfl))) lk_L_166 in_X7_endless se_X7_endless rfl eu417 ⟨Nat.le_of_ble_eq_true rfl, Nat.le_of_ble_eq_true rfl⟩ (Nat.le_of_ble_eq_true rfl) dL_law_1345 ⟨by omega, by omega⟩ rfl ?_
                                                                              refine y_icmp_eq (tgt := 1560) dL_law_1348 (by decide) (fun hc422 => ?_) (fun hc422 => ?_)
                                                                              · rw [if_pos hc422] at hE
                                                                                obtain ⟨x421, ex421, hE⟩ := Option.bind_eq_some_iff.mp hE
                                                                                refine y_iinc (ls' := [(3, .int x421), (0, .ref 0), (1, .ref v1), (2, .ref v2)]) dL_law_1560 3 rfl (Option.some.inj ex421) (by decide) rfl ?_
                                                                                refine y_goto (tgt := 18) dL_law_1563 (by decide) ?_
                                                                                refine y_pick [1, 2, 3, 0] rfl ?_
                                                                                exact ih _ _ _ _ _ _ _ hE (by omega) (by omega) hm KR K
                                                                              · rw [if_neg hc422] at hE
                                                                                refine y_iconst (v := (0 : Int32)) dL_law_1351 (by decide) ?_
                                                                                obtain ⟨rfl, rfl, rfl⟩ := x_inj3 hE
                                                                                obtain ⟨rfl, rfl⟩ := KR _ rfl
                                                                                dsimp only
                                                                                exact y_ret dL_law_1352 (by omega) (by omega) ⟨_, rfl, rfl⟩
                                                                            · rw [if_neg hc423] at hE
                                                                              by_cases hc434 : (x13 &&& (63 : Int32)) = (36 : Int32)
                                                                              · rw [if_pos hc434] at hE
                                                                                have hk := hc434
                                                                                refine y_tabIn (tgt := 1353) dL_law_33 (by rw [hk]; decide) (by rw [hk]; decide) (by rw [hk]; rfl) (by decide) ?_
                                                                                refine y_aload_n dL_law_1353 1 rfl ?_
                                                                                refine y_aload_n dL_law_1354 0 rfl ?_
                                                                                refine y_iload_n dL_law_1355 3 rfl ?_
                                                                                refine y_iconst (v := (1 : Int32)) dL_law_1356 (by decide) ?_
                                                                                refine y_iadd dL_law_1357 ?_
                                                                                obtain ⟨x424, ex424, hE⟩ := Option.bind_eq_some_iff.mp hE
                                                                                refine y_sld' ex424 dL_law_1358 ?_
                                                                                obtain ⟨u425, eu425, hE⟩ := Option.bind_eq_some_iff.mp hE
                                                                                obtain ⟨q426, eq426, hE⟩ := Option.bind_eq_some_iff.mp hE
                                                                                refine y_cVi0 (st := []) (as := [.int x424]) (c_X6_boxes eq426) lk_L_167 in_X6_boxes se_X6_boxes rfl eu425 ⟨Nat.le_of_ble_eq_true rfl, Nat.le_of_ble_eq_true rfl⟩ (Nat.le_of_ble_eq_true rfl) dL_law_1359 ⟨by omega, by omega⟩ rfl ?_
                                                                                refine y_aload_n dL_law_1362 2 rfl ?_
                                                                                refine y_aload_n dL_law_1363 0 rfl ?_
                                                                                refine y_iload_n dL_law_1364 3 rfl ?_
                                                                                refine y_iconst (v := (1 : Int32)) dL_law_1365 (by decide) ?_
                                                                                refine y_iadd dL_law_1366 ?_
                                                                                obtain ⟨x427, ex427, hE⟩ := Option.bind_eq_some_iff.mp hE
                                                                                refine y_sld' ex427 dL_law_1367 ?_
                                                                                obtain ⟨u428, eu428, hE⟩ := Option.bind_eq_some_iff.mp hE
                                                                                obtain ⟨q429, eq429, hE⟩ := Option.bind_eq_some_iff.mp hE
                                                                                obtain ⟨c430, s431, hN, ecc430, ess431⟩ := x_add.spec hE
                                                                                clear hE; have hE := hN; clear hN
                                                                                refine y_cVi1 (st := [.int q426.1]) (as := [.int x427]) (c_X7_boxes (eq429.trans (show some q429 = some ((q429.1.1, q429.1.2), q429.2.1, q429.2.2) from rfl))) lk_L_170 in_X7_boxes se_X7_boxes rfl eu428 ⟨Nat.le_of_ble_eq_true rfl, Nat.le_of_ble_eq_true rfl⟩ (Nat.le_of_ble_eq_true rfl) dL_law_1368 ⟨by omega, by omega⟩ rfl ?_
                                                                                refine y_icmp_eq (tgt := 1560) dL_law_1371 (by decide) (fun hc433 => ?_) (fun hc433 => ?_)
                                                                                · rw [if_pos hc433] at hE
                                                                                  obtain ⟨x432, ex432, hE⟩ := Option.bind_eq_some_iff.mp hE
                                                                                  refine y_iinc (ls' := [(3, .int x432), (0, .ref 0), (1, .ref v1), (2, .ref v2)]) dL_law_1560 3 rfl (Option.some.inj ex432) (by decide) rfl ?_
                                                                                  refine y_goto (tgt := 18) dL_law_1563 (by decide) ?_
                                                                                  refine y_pick [1, 2, 3, 0] rfl ?_
                                                                                  exact ih _ _ _ _ _ _ _ hE (by omega) (by omega) hm KR K
                                                                                · rw [if_neg hc433] at hE
                                                                                  refine y_iconst (v := (0 : Int32)) dL_law_1374 (by decide) ?_
                                                                                  obtain ⟨rfl, rfl, rfl⟩ := x_inj3 hE
                                                                                  obtain ⟨rfl, rfl⟩ := KR _ rfl
                                                                                  dsimp only
                                                                                  exact y_ret dL_law_1375 (by omega) (by omega) ⟨_, rfl, rfl⟩
                                                                              · rw [if_neg hc434] at hE
                                                                                by_cases hc447 : (x13 &&& (63 : Int32)) = (37 : Int32)
                                                                                · rw [if_pos hc447] at hE
                                                                                  have hk := hc447
                                                                                  refine y_tabIn (tgt := 1376) dL_law_33 (by rw [hk]; decide) (by rw [hk]; decide) (by rw [hk]; rfl) (by decide) ?_
                                                                                  refine y_aload_n dL_law_1376 1 rfl ?_
                                                                                  refine y_aload_n dL_law_1377 0 rfl ?_
                                                                                  refine y_iload_n dL_law_1378 3 rfl ?_
                                                                                  refine y_iconst (v := (1 : Int32)) dL_law_1379 (by decide) ?_
                                                                                  refine y_iadd dL_law_1380 ?_
                                                                                  obtain ⟨x435, ex435, hE⟩ := Option.bind_eq_some_iff.mp hE
                                                                                  refine y_sld' ex435 dL_law_1381 ?_
                                                                                  refine y_aload_n dL_law_1382 0 rfl ?_
                                                                                  refine y_iload_n dL_law_1383 3 rfl ?_
                                                                                  refine y_iconst (v := (2 : Int32)) dL_law_1384 (by decide) ?_
                                                                                  refine y_iadd dL_law_1385 ?_
                                                                                  obtain ⟨x436, ex436, hE⟩ := Option.bind_eq_some_iff.mp hE
                                                                                  refine y_sld' ex436 dL_law_1386 ?_
                                                                                  obtain ⟨u437, eu437, hE⟩ := Option.bind_eq_some_iff.mp hE
                                                                                  obtain ⟨q438, eq438, hE⟩ := Option.bind_eq_some_iff.mp hE
                                                                                  refine y_cVi0 (st := []) (as := [.int x435, .int x436]) (c_X6_judge eq438) lk_L_171 in_X6_judge se_X6_judge rfl eu437 ⟨Nat.le_of_ble_eq_true rfl, Nat.le_of_ble_eq_true rfl⟩ (Nat.le_of_ble_eq_true rfl) dL_law_1387 ⟨by omega, by omega⟩ rfl ?_
                                                                                  refine y_aload_n dL_law_1390 2 rfl ?_
                                                                                  refine y_aload_n dL_law_1391 0 rfl ?_
                                                                                  refine y_iload_n dL_law_1392 3 rfl ?_
                                                                                  refine y_iconst (v := (1 : Int32)) dL_law_1393 (by decide) ?_
                                                                                  refine y_iadd dL_law_1394 ?_
                                                                                  obtain ⟨x439, ex439, hE⟩ := Option.bind_eq_some_iff.mp hE
                                                                                  refine y_sld' ex439 dL_law_1395 ?_
                                                                                  refine y_aload_n dL_law_1396 0 rfl ?_
                                                                                  refine y_iload_n dL_law_1397 3 rfl ?_
                                                                                  refine y_iconst (v := (2 : Int32)) dL_law_1398 (by decide) ?_
                                                                                  refine y_iadd dL_law_1399 ?_
                                                                                  obtain ⟨x440, ex440, hE⟩ := Option.bind_eq_some_iff.mp hE
                                                                                  refine y_sld' ex440 dL_law_1400 ?_
                                                                                  obtain ⟨u441, eu441, hE⟩ := Option.bind_eq_some_iff.mp hE
                                                                                  obtain ⟨q442, eq442, hE⟩ := Option.bind_eq_some_iff.mp hE
                                                                                  obtain ⟨c443, s444, hN, ecc443, ess444⟩ := x_add.spec hE
                                                                                  clear hE; have hE := hN; clear hN
                                                                                  refine y_cVi1 (st := [.int q438.1]) (as := [.int x439, .int x440]) (c_X7_judge (eq442.trans (show some q442 = some ((q442.1.1, q442.1.2), q442.2.1, q442.2.2) from rfl))) lk_L_174 in_X7_judge se_X7_judge rfl eu441 ⟨Nat.le_of_ble_eq_true rfl, Nat.le_of_ble_eq_true rfl⟩ (Nat.le_of_ble_eq_true rfl) dL_law_1401 ⟨by omega, by omega⟩ rfl ?_
                                                                                  refine y_icmp_eq (tgt := 1560) dL_law_1404 (by decide) (fun hc446 => ?_) (fun hc446 => ?_)
                                                                                  · rw [if_pos hc446] at hE
                                                                                    obtain ⟨x445, ex445, hE⟩ := Option.bind_eq_some_iff.mp hE
                                                                                    refine y_iinc (ls' := [(3, .int x445), (0, .ref 0), (1, .ref v1), (2, .ref v2)]) dL_law_1560 3 rfl (Option.some.inj ex445) (by decide) rfl ?_
                                                                                    refine y_goto (tgt := 18) dL_law_1563 (by decide) ?_
                                                                                    refine y_pick [1, 2, 3, 0] rfl ?_
                                                                                    exact ih _ _ _ _ _ _ _ hE (by omega) (by omega) hm KR K
                                                                                  · rw [if_neg hc446] at hE
                                                                                    refine y_iconst (v := (0 : Int32)) dL_law_1407 (by decide) ?_
                                                                                    obtain ⟨rfl, rfl, rfl⟩ := x_inj3 hE
                                                                                    obtain ⟨rfl, rfl⟩ := KR _ rfl
                                                                                    dsimp only
                                                                                    exact y_ret dL_law_1408 (by omega) (by omega) ⟨_, rfl, rfl⟩
                                                                                · rw [if_neg hc447] at hE
                                                                                  by_cases hc462 : (x13 &&& (63 : Int32)) = (38 : Int32)
                                                                                  · rw [if_pos hc462] at hE
                                                                                    have hk := hc462
                                                                                    refine y_tabIn (tgt := 1409) dL_law_33 (by rw [hk]; decide) (by rw [hk]; decide) (by rw [hk]; rfl) (by decide) ?_
                                                                                    refine y_aload_n dL_law_1409 1 rfl ?_
                                                                                    refine y_aload_n dL_law_1410 0 rfl ?_
                                                                                    refine y_iload_n dL_law_1411 3 rfl ?_
                                                                                    refine y_iconst (v := (1 : Int32)) dL_law_1412 (by decide) ?_
                                                                                    refine y_iadd dL_law_1413 ?_
                                                                                    obtain ⟨x448, ex448, hE⟩ := Option.bind_eq_some_iff.mp hE
                                                                                    refine y_sld' ex448 dL_law_1414 ?_
                                                                                    refine y_aload_n dL_law_1415 0 rfl ?_
                                                                                    refine y_iload_n dL_law_1416 3 rfl ?_
                                                                                    refine y_iconst (v := (2 : Int32)) dL_law_1417 (by decide) ?_
                                                                                    refine y_iadd dL_law_1418 ?_
                                                                                    obtain ⟨x449, ex449, hE⟩ := Option.bind_eq_some_iff.mp hE
                                                                                    refine y_sld' ex449 dL_law_1419 ?_
                                                                                    refine y_aload_n dL_law_1420 0 rfl ?_
                                                                                    refine y_iload_n dL_law_1421 3 rfl ?_
                                                                                    refine y_iconst (v := (3 : Int32)) dL_law_1422 (by decide) ?_
                                                                                    refine y_iadd dL_law_1423 ?_
                                                                                    obtain ⟨x450, ex450, hE⟩ := Option.bind_eq_some_iff.mp hE
                                                                                    refine y_sld' ex450 dL_law_1424 ?_
                                                                                    obtain ⟨u451, eu451, hE⟩ := Option.bind_eq_some_iff.mp hE
                                                                                    obtain ⟨q452, eq452, hE⟩ := Option.bind_eq_some_iff.mp hE
                                                                                    refine y_cVi0 (st := []) (as := [.int x448, .int x449, .int x450]) (c_X6_told eq452) lk_L_175 in_X6_told se_X6_told rfl eu451 ⟨Nat.le_of_ble_eq_true rfl, Nat.le_of_ble_eq_true rfl⟩ (Nat.le_of_ble_eq_true rfl) dL_law_1425 ⟨by omega, by omega⟩ rfl ?_
                                                                                    refine y_aload_n dL_law_1428 2 rfl ?_
                                                                                    refine y_aload_n dL_law_1429 0 rfl ?_
                                                                                    refine y_iload_n dL_law_1430 3 rfl ?_
                                                                                    refine y_iconst (v := (1 : Int32)) dL_law_1431 (by decide) ?_
                                                                                    refine y_iadd dL_law_1432 ?_
                                                                                    obtain ⟨x453, ex453, hE⟩ := Option.bind_eq_some_iff.mp hE
                                                                                    refine y_sld' ex453 dL_law_1433 ?_
                                                                                    refine y_aload_n dL_law_1434 0 rfl ?_
                                                                                    refine y_iload_n dL_law_1435 3 rfl ?_
                                                                                    refine y_iconst (v := (2 : Int32)) dL_law_1436 (by decide) ?_
                                                                                    refine y_iadd dL_law_1437 ?_
                                                                                    obtain ⟨x454, ex454, hE⟩ := Option.bind_eq_some_iff.mp hE
                                                                                    refine y_sld' ex454 dL_law_1438 ?_
                                                                                    refine y_aload_n dL_law_1439 0 rfl ?_
                                                                                    refine y_iload_n dL_law_1440 3 rfl ?_
                                                                                    refine y_iconst (v := (3 : Int32)) dL_law_1441 (by decide) ?_
                                                                                    refine y_iadd dL_law_1442 ?_
                                                                                    obtain ⟨x455, ex455, hE⟩ := Option.bind_eq_some_iff.mp hE
                                                                                    refine y_sld' ex455 dL_law_1443 ?_
                                                                                    obtain ⟨u456, eu456, hE⟩ := Option.bind_eq_some_iff.mp hE
                                                                                    obtain ⟨q457, eq457, hE⟩ := Option.bind_eq_some_iff.mp hE
                                                                                    obtain ⟨c458, s459, hN, ecc458, ess459⟩ := x_add.spec hE
                                                                                    clear hE; have hE := hN; clear hN
                                                                                    refine y_cVi1 (st := [.int q452.1]) (as := [.int x453, .int x454, .int x455]) (c_X7_told (eq457.trans (show some q457 = some ((q457.1.1, q457.1.2), q457.2.1, q457.2.2) from rfl))) lk_L_178 in_X7_told se_X7_told rfl eu456 ⟨Nat.le_of_ble_eq_true rfl, Nat.le_of_ble_eq_true rfl⟩ (Nat.le_of_ble_eq_true rfl) dL_law_1444 ⟨by omega, by omega⟩ rfl ?_
                                                                                    refine y_icmp_eq (tgt := 1560) dL_law_1447 (by decide) (fun hc461 => ?_) (fun hc461 => ?_)
                                                                                    · rw [if_pos hc461] at hE
                                                                                      obtain ⟨x460, ex460, hE⟩ := Option.bind_eq_some_iff.mp hE
                                                                                      refine y_iinc (ls' := [(3, .int x460), (0, .ref 0), (1, .ref v1), (2, .ref v2)]) dL_law_1560 3 rfl (Option.some.inj ex460) (by decide) rfl ?_
                                                                                      refine y_goto (tgt := 18) dL_law_1563 (by decide) ?_
                                                                                      refine y_pick [1, 2, 3, 0] rfl ?_
                                                                                      exact ih _ _ _ _ _ _ _ hE (by omega) (by omega) hm KR K
                                                                                    · rw [if_neg hc461] at hE
                                                                                      refine y_iconst (v := (0 : Int32)) dL_law_1450 (by decide) ?_
                                                                                      obtain ⟨rfl, rfl, rfl⟩ := x_inj3 hE
                                                                                      obtain ⟨rfl, rfl⟩ := KR _ rfl
                                                                                      dsimp only
                                                                                      exact y_ret dL_law_1451 (by omega) (by omega) ⟨_, rfl, rfl⟩
                                                                                  · rw [if_neg hc462] at hE
                                                                                    by_cases hc471 : (x13 &&& (63 : Int32)) = (39 : Int32)
                                                                                    · rw [if_pos hc471] at hE
                                                                                      have hk := hc471
                                                                                      refine y_tabIn (tgt := 1452) dL_law_33 (by rw [hk]; decide) (by rw [hk]; decide) (by rw [hk]; rfl) (by decide) ?_
                                                                                      refine y_aload_n dL_law_1452 1 rfl ?_
                                                                                      refine y_aload_n dL_law_1453 0 rfl ?_
                                                                                      refine y_iload_n dL_law_1454 3 rfl ?_
                                                                                      refine y_iconst (v := (1 : Int32)) dL_law_1455 (by decide) ?_
                                                                                      refine y_iadd dL_law_1456 ?_
                                                                                      obtain ⟨x463, ex463, hE⟩ := Option.bind_eq_some_iff.mp hE
                                                                                      refine y_sld' ex463 dL_law_1457 ?_
                                                                                      obtain ⟨u464, eu464, hE⟩ := Option.bind_eq_some_iff.mp hE
                                                                                      obtain ⟨q465, eq465, hE⟩ := Option.bind_eq_some_iff.mp hE
                                                                                      refine y_cVi0 (st := []) (as := [.int x463]) (c_X6_evening eq465) lk_L_179 in_X6_evening se_X6_evening rfl eu464 ⟨Nat.le_of_ble_eq_true rfl, Nat.le_of_ble_eq_true rfl⟩ (Nat.le_of_ble_eq_true rfl) dL_law_1458 ⟨by omega, by omega⟩ rfl ?_
                                                                                      refine y_aload_n dL_law_1461 2 rfl ?_
                                                                                      refine y_aload_n dL_law_1462 0 rfl ?_
                                                                                      refine y_iload_n dL_law_1463 3 rfl ?_
                                                                                      refine y_iconst (v := (1 : Int32)) dL_law_1464 (by decide) ?_
                                                                                      refine y_iadd dL_law_1465 ?_
                                                                                      obtain ⟨x466, ex466, hE⟩ := Option.bind_eq_some_iff.mp hE
                                                                                      refine y_sld' ex466 dL_law_1466 ?_
                                                                                      obtain ⟨u467, eu467, hE⟩ := Option.bind_eq_some_iff.mp hE
                                                                                      obtain ⟨q468, eq468, hE⟩ := Option.bind_eq_some_iff.mp hE
                                                                                      refine y_cVi0 (st := [.int q465.1]) (as := [.int x466]) (c_X7_evening eq468) lk_L_182 in_X7_evening se_X7_evening rfl eu467 ⟨Nat.le_of_ble_eq_true rfl, Nat.le_of_ble_eq_true rfl⟩ (Nat.le_of_ble_eq_true rfl) dL_law_1467 ⟨by omega, by omega⟩ rfl ?_
                                                                                      refine y_icmp_eq (tgt := 1560) dL_law_1470 (by decide) (fun hc470 => ?_) (fun hc470 => ?_)
                                                                                      · rw [if_pos hc470] at hE
                                                                                        obtain ⟨x469, ex469, hE⟩ := Option.bind_eq_some_iff.mp hE
                                                                                        refine y_iinc (ls' := [(3, .int x469), (0, .ref 0), (1, .ref v1), (2, .ref v2)]) dL_law_1560 3 rfl (Option.some.inj ex469) (by decide) rfl ?_
                                                                                        refine y_goto (tgt := 18) dL_law_1563 (by decide) ?_
                                                                                        refine y_pick [1, 2, 3, 0] rfl ?_
                                                                                        exact ih _ _ _ _ _ _ _ hE (by omega) (by omega) hm KR K
                                                                                      · rw [if_neg hc470] at hE
                                                                                        refine y_iconst (v := (0 : Int32)) dL_law_1473 (by decide) ?_
                                                                                        obtain ⟨rfl, rfl, rfl⟩ := x_inj3 hE
                                                                                        obtain ⟨rfl, rfl⟩ := KR _ rfl
                                                                                        dsimp only
                                                                                        exact y_ret dL_law_1474 (by omega) (by omega) ⟨_, rfl, rfl⟩
                                                                                    · rw [if_neg hc471] at hE
                                                                                      by_cases hc478 : (x13 &&& (63 : Int32)) = (40 : Int32)
                                                                                      · rw [if_pos hc478] at hE
                                                                                        have hk := hc478
                                                                                        refine y_tabIn (tgt := 1475) dL_law_33 (by rw [hk]; decide) (by rw [hk]; decide) (by rw [hk]; rfl) (by decide) ?_
                                                                                        refine y_aload_n dL_law_1475 1 rfl ?_
                                                                                        obtain ⟨u472, eu472, hE⟩ := Option.bind_eq_some_iff.mp hE
                                                                                        obtain ⟨q473, eq473, hE⟩ := Option.bind_eq_some_iff.mp hE
                                                                                        refine y_cVi0 (st := []) (as := []) (c_X6_night eq473) lk_L_183 in_X6_night se_X6_night rfl eu472 ⟨Nat.le_of_ble_eq_true rfl, Nat.le_of_ble_eq_true rfl⟩ (Nat.le_of_ble_eq_true rfl) dL_law_1476 ⟨by omega, by omega⟩ rfl ?_
                                                                                        refine y_aload_n dL_law_1479 2 rfl ?_
                                                                                        obtain ⟨u474, eu474, hE⟩ := Option.bind_eq_some_iff.mp hE
                                                                                        obtain ⟨q475, eq475, hE⟩ := Option.bind_eq_some_iff.mp hE
                                                                                        refine y_cVi0 (st := [.int q473.1]) (as := []) (c_X7_night eq475) lk_L_186 in_X7_night se_X7_night rfl eu474 ⟨Nat.le_of_ble_eq_true rfl, Nat.le_of_ble_eq_true rfl⟩ (Nat.le_of_ble_eq_true rfl) dL_law_1480 ⟨by omega, by omega⟩ rfl ?_
                                                                                        refine y_icmp_eq (tgt := 1560) dL_law_1483 (by decide) (fun hc477 => ?_) (fun hc477 => ?_)
                                                                                        · rw [if_pos hc477] at hE
                                                                                          obtain ⟨x476, ex476, hE⟩ := Option.bind_eq_some_iff.mp hE
                                                                                          refine y_iinc (ls' := [(3, .int x476), (0, .ref 0), (1, .ref v1), (2, .ref v2)]) dL_law_1560 3 rfl (Option.some.inj ex476) (by decide) rfl ?_
                                                                                          refine y_goto (tgt := 18) dL_law_1563 (by decide) ?_
                                                                                          refine y_pick [1, 2, 3, 0] rfl ?_
                                                                                          exact ih _ _ _ _ _ _ _ hE (by omega) (by omega) hm KR K
                                                                                        · rw [if_neg hc477] at hE
                                                                                          refine y_iconst (v := (0 : Int32)) dL_law_1486 (by decide) ?_
                                                                                          obtain ⟨rfl, rfl, rfl⟩ := x_inj3 hE
                                                                                          obtain ⟨rfl, rfl⟩ := KR _ rfl
                                                                                          dsimp only
                                                                                          exact y_ret dL_law_1487 (by omega) (by omega) ⟨_, rfl, rfl⟩
                                                                                      · rw [if_neg hc478] at hE
                                                                                        by_cases hc487 : (x13 &&& (63 : Int32)) = (41 : Int32)
                                                                                        · rw [if_pos hc487] at hE
                                                                                          have hk := hc487
                                                                                          refine y_tabIn (tgt := 1488) dL_law_33 (by rw [hk]; decide) (by rw [hk]; decide) (by rw [hk]; rfl) (by decide) ?_
                                                                                          refine y_aload_n dL_law_1488 1 rfl ?_
                                                                                          refine y_aload_n dL_law_1489 0 rfl ?_
                                                                                          refine y_iload_n dL_law_1490 3 rfl ?_
                                                                                          refine y_iconst (v := (1 : Int32)) dL_law_1491 (by decide) ?_
                                                                                          refine y_iadd dL_law_1492 ?_
                                                                                          obtain ⟨x479, ex479, hE⟩ := Option.bind_eq_some_iff.mp hE
                                                                                          refine y_sld' ex479 dL_law_1493 ?_
                                                                                          obtain ⟨u480, eu480, hE⟩ := Option.bind_eq_some_iff.mp hE
                                                                                          obtain ⟨q481, eq481, hE⟩ := Option.bind_eq_some_iff.mp hE
                                                                                          refine y_cVi0 (st := []) (as := [.int x479]) (c_X6_seed eq481) lk_L_187 in_X6_seed se_X6_seed rfl eu480 ⟨Nat.le_of_ble_eq_true rfl, Nat.le_of_ble_eq_true rfl⟩ (Nat.le_of_ble_eq_true rfl) dL_law_1494 ⟨by omega, by omega⟩ rfl ?_
                                                                                          refine y_aload_n dL_law_1497 2 rfl ?_
                                                                                          refine y_aload_n dL_law_1498 0 rfl ?_
                                                                                          refine y_iload_n dL_law_1499 3 rfl ?_
                                                                                          refine y_iconst (v := (1 : Int32)) dL_law_1500 (by decide) ?_
                                                                                          refine y_iadd dL_law_1501 ?_
                                                                                          obtain ⟨x482, ex482, hE⟩ := Option.bind_eq_some_iff.mp hE
                                                                                          refine y_sld' ex482 dL_law_1502 ?_
                                                                                          obtain ⟨u483, eu483, hE⟩ := Option.bind_eq_some_iff.mp hE
                                                                                          obtain ⟨q484, eq484, hE⟩ := Option.bind_eq_some_iff.mp hE
                                                                                          refine y_cVi0 (st := [.int q481.1]) (as := [.int x482]) (c_X7_seed eq484) lk_L_190 in_X7_seed se_X7_seed rfl eu483 ⟨Nat.le_of_ble_eq_true rfl, Nat.le_of_ble_eq_true rfl⟩ (Nat.le_of_ble_eq_true rfl) dL_law_1503 ⟨by omega, by omega⟩ rfl ?_
                                                                                          refine y_icmp_eq (tgt := 1560) dL_law_1506 (by decide) (fun hc486 => ?_) (fun hc486 => ?_)
                                                                                          · rw [if_pos hc486] at hE
                                                                                            obtain ⟨x485, ex485, hE⟩ := Option.bind_eq_some_iff.mp hE
                                                                                            refine y_iinc (ls' := [(3, .int x485), (0, .ref 0), (1, .ref v1), (2, .ref v2)]) dL_law_1560 3 rfl (Option.some.inj ex485) (by decide) rfl ?_
                                                                                            refine y_goto (tgt := 18) dL_law_1563 (by decide) ?_
                                                                                            refine y_pick [1, 2, 3, 0] rfl ?_
                                                                                            exact ih _ _ _ _ _ _ _ hE (by omega) (by omega) hm KR K
                                                                                          · rw [if_neg hc486] at hE
                                                                                            refine y_iconst (v := (0 : Int32)) dL_law_1509 (by decide) ?_
                                                                                            obtain ⟨rfl, rfl, rfl⟩ := x_inj3 hE
                                                                                            obtain ⟨rfl, rfl⟩ := KR _ rfl
                                                                                            dsimp only
                                                                                            exact y_ret dL_law_1510 (by omega) (by omega) ⟨_, rfl, rfl⟩
                                                                                        · rw [if_neg hc487] at hE
                                                                                          by_cases hc496 : (x13 &&& (63 : Int32)) = (42 : Int32)
                                                                                          · rw [if_pos hc496] at hE
                                                                                            have hk := hc496
                                                                                            refine y_tabIn (tgt := 1511) dL_law_33 (by rw [hk]; decide) (by rw [hk]; decide) (by rw [hk]; rfl) (by decide) ?_
                                                                                            refine y_aload_n dL_law_1511 1 rfl ?_
                                                                                            obtain ⟨u488, eu488, hE⟩ := Option.bind_eq_some_iff.mp hE
                                                                                            obtain ⟨q489, eq489, hE⟩ := Option.bind_eq_some_iff.mp hE
                                                                                            refine y_cVi0 (st := []) (as := []) (c_X6_image eq489) lk_L_191 in_X6_image se_X6_image rfl eu488 ⟨Nat.le_of_ble_eq_true rfl, Nat.le_of_ble_eq_true rfl⟩ (Nat.le_of_ble_eq_true rfl) dL_law_1512 ⟨by omega, by omega⟩ rfl ?_
                                                                                            refine y_aload_n dL_law_1515 2 rfl ?_
                                                                                            obtain ⟨u490, eu490, hE⟩ := Option.bind_eq_some_iff.mp hE
                                                                                            obtain ⟨q491, eq491, hE⟩ := Option.bind_eq_some_iff.mp hE
                                                                                            obtain ⟨c492, s493, hN, ecc492, ess493⟩ := x_add.spec hE
                                                                                            clear hE; have hE := hN; clear hN
                                                                                            refine y_cVi1 (st := [.int q489.1]) (as := []) (c_X7_image (eq491.trans (show some q491 = some ((q491.1.1, q491.1.2), q491.2.1, q491.2.2) from rfl))) lk_L_194 in_X7_image se_X7_image rfl eu490 ⟨Nat.le_of_ble_eq_true rfl, Nat.le_of_ble_eq_true rfl⟩ (Nat.le_of_ble_eq_true rfl) dL_law_1516 ⟨by omega, by omega⟩ rfl ?_
                                                                                            refine y_icmp_eq (tgt := 1560) dL_law_1519 (by decide) (fun hc495 => ?_) (fun hc495 => ?_)
                                                                                            · rw [if_pos hc495] at hE
                                                                                              obtain ⟨x494, ex494, hE⟩ := Option.bind_eq_some_iff.mp hE
                                                                                              refine y_iinc (ls' := [(3, .int x494), (0, .ref 0), (1, .ref v1), (2, .ref v2)]) dL_law_1560 3 rfl (Option.some.inj ex494) (by decide) rfl ?_
                                                                                              refine y_goto (tgt := 18) dL_law_1563 (by decide) ?_
                                                                                              refine y_pick [1, 2, 3, 0] rfl ?_
                                                                                              exact ih _ _ _ _ _ _ _ hE (by omega) (by omega) hm KR K
                                                                                            · rw [if_neg hc495] at hE
                                                                                              refine y_iconst (v := (0 : Int32)) dL_law_1522 (by decide) ?_
                                                                                              obtain ⟨rfl, rfl, rfl⟩ := x_inj3 hE
                                                                                              obtain ⟨rfl, rfl⟩ := KR _ rfl
                                                                                              dsimp only
                                                                                              exact y_ret dL_law_1523 (by omega) (by omega) ⟨_, rfl, rfl⟩
                                                                                          · rw [if_neg hc496] at hE
                                                                                            by_cases hc503 : (x13 &&& (63 : Int32)) = (43 : Int32)
                                                                                            · rw [if_pos hc503] at hE
                                                                                              have hk := hc503
                                                                                              refine y_tabIn (tgt := 1524) dL_law_33 (by rw [hk]; decide) (by rw [hk]; decide) (by rw [hk]; rfl) (by decide) ?_
                                                                                              refine y_aload_n dL_law_1524 1 rfl ?_
                                                                                              obtain ⟨u497, eu497, hE⟩ := Option.bind_eq_some_iff.mp hE
                                                                                              obtain ⟨q498, eq498, hE⟩ := Option.bind_eq_some_iff.mp hE
                                                                                              refine y_cVi0 (st := []) (as := []) (c_X6_back eq498) lk_L_195 in_X6_back se_X6_back rfl eu497 ⟨Nat.le_of_ble_eq_true rfl, Nat.le_of_ble_eq_true rfl⟩ (Nat.le_of_ble_eq_true rfl) dL_law_1525 ⟨by omega, by omega⟩ rfl ?_
                                                                                              refine y_aload_n dL_law_1528 2 rfl ?_
                                                                                              obtain ⟨u499, eu499, hE⟩ := Option.bind_eq_some_iff.mp hE
                                                                                              obtain ⟨q500, eq500, hE⟩ := Option.bind_eq_some_iff.mp hE
                                                                                              refine y_cVi0 (st := [.int q498.1]) (as := []) (c_X7_back eq500) lk_L_198 in_X7_back se_X7_back rfl eu499 ⟨Nat.le_of_ble_eq_true rfl, Nat.le_of_ble_eq_true rfl⟩ (Nat.le_of_ble_eq_true rfl) dL_law_1529 ⟨by omega, by omega⟩ rfl ?_
                                                                                              refine y_icmp_eq (tgt := 1560) dL_law_1532 (by decide) (fun hc502 => ?_) (fun hc502 => ?_)
                                                                                              · rw [if_pos hc502] at hE
                                                                                                obtain ⟨x501, ex501, hE⟩ := Option.bind_eq_some_iff.mp hE
                                                                                                refine y_iinc (ls' := [(3, .int x501), (0, .ref 0), (1, .ref v1), (2, .ref v2)]) dL_law_1560 3 rfl (Option.some.inj ex501) (by decide) rfl ?_
                                                                                                refine y_goto (tgt := 18) dL_law_1563 (by decide) ?_
                                                                                                refine y_pick [1, 2, 3, 0] rfl ?_
                                                                                                exact ih _ _ _ _ _ _ _ hE (by omega) (by omega) hm KR K
                                                                                              · rw [if_neg hc502] at hE
                                                                                                refine y_iconst (v := (0 : Int32)) dL_law_1535 (by decide) ?_
                                                                                                obtain ⟨rfl, rfl, rfl⟩ := x_inj3 hE
                                                                                                obtain ⟨rfl, rfl⟩ := KR _ rfl
                                                                                                dsimp only
                                                                                                exact y_ret dL_law_1536 (by omega) (by omega) ⟨_, rfl, rfl⟩
                                                                                            · rw [if_neg hc503] at hE
                                                                                              by_cases hc512 : (x13 &&& (63 : Int32)) = (44 : Int32)
                                                                                              · rw [if_pos hc512] at hE
                                                                                                have hk := hc512
                                                                                                refine y_tabIn (tgt := 1537) dL_law_33 (by rw [hk]; decide) (by rw [hk]; decide) (by rw [hk]; rfl) (by decide) ?_
                                                                                                refine y_aload_n dL_law_1537 1 rfl ?_
                                                                                                refine y_aload_n dL_law_1538 0 rfl ?_
                                                                                                refine y_iload_n dL_law_1539 3 rfl ?_
                                                                                                refine y_iconst (v := (1 : Int32)) dL_law_1540 (by decide) ?_
                                                                                                refine y_iadd dL_law_1541 ?_
                                                                                                obtain ⟨x504, ex504, hE⟩ := Option.bind_eq_some_iff.mp hE
                                                                                                refine y_sld' ex504 dL_law_1542 ?_
                                                                                                obtain ⟨u505, eu505, hE⟩ := Option.bind_eq_some_iff.mp hE
                                                                                                obtain ⟨q506, eq506, hE⟩ := Option.bind_eq_some_iff.mp hE
                                                                                                refine y_cVi0 (st := []) (as := [.int x504]) (c_X6_status eq506) lk_L_199 in_X6_status se_X6_status rfl eu505 ⟨Nat.le_of_ble_eq_true rfl, Nat.le_of_ble_eq_true rfl⟩ (Nat.le_of_ble_eq_true rfl) dL_law_1543 ⟨by omega, by omega⟩ rfl ?_
                                                                                                refine y_aload_n dL_law_1546 2 rfl ?_
                                                                                                refine y_aload_n dL_law_1547 0 rfl ?_
                                                                                                refine y_iload_n dL_law_1548 3 rfl ?_
                                                                                                refine y_iconst (v := (1 : Int32)) dL_law_1549 (by decide) ?_
                                                                                                refine y_iadd dL_law_1550 ?_
                                                                                                obtain ⟨x507, ex507, hE⟩ := Option.bind_eq_some_iff.mp hE
                                                                                                refine y_sld' ex507 dL_law_1551 ?_
                                                                                                obtain ⟨u508, eu508, hE⟩ := Option.bind_eq_some_iff.mp hE
                                                                                                obtain ⟨q509, eq509, hE⟩ := Option.bind_eq_some_iff.mp hE
                                                                                                refine y_cVi0 (st := [.int q506]) (as := [.int x507]) (c_X7_status eq509) lk_L_202 in_X7_status se_X7_status rfl eu508 ⟨Nat.le_of_ble_eq_true rfl, Nat.le_of_ble_eq_true rfl⟩ (Nat.le_of_ble_eq_true rfl) dL_law_1552 ⟨by omega, by omega⟩ rfl ?_
                                                                                                refine y_icmp_eq (tgt := 1560) dL_law_1555 (by decide) (fun hc511 => ?_) (fun hc511 => ?_)
                                                                                                · rw [if_pos hc511] at hE
                                                                                                  obtain ⟨x510, ex510, hE⟩ := Option.bind_eq_some_iff.mp hE
                                                                                                  refine y_iinc (ls' := [(3, .int x510), (0, .ref 0), (1, .ref v1), (2, .ref v2)]) dL_law_1560 3 rfl (Option.some.inj ex510) (by decide) rfl ?_
                                                                                                  refine y_goto (tgt := 18) dL_law_1563 (by decide) ?_
                                                                                                  refine y_pick [1, 2, 3, 0] rfl ?_
                                                                                                  exact ih _ _ _ _ _ _ _ hE (by omega) (by omega) hm KR K
                                                                                                · rw [if_neg hc511] at hE
                                                                                                  refine y_iconst (v := (0 : Int32)) dL_law_1558 (by decide) ?_
                                                                                                  obtain ⟨rfl, rfl, rfl⟩ := x_inj3 hE
                                                                                                  obtain ⟨rfl, rfl⟩ := KR _ rfl
                                                                                                  dsimp only
                                                                                                  exact y_ret dL_law_1559 (by omega) (by omega) ⟨_, rfl, rfl⟩
                                                                                              · rw [if_neg hc512] at hE
                                                                                                have hO : ((x13 &&& (63 : Int32))).toInt < 0 ∨ 44 < ((x13 &&& (63 : Int32))).toInt := by
                                                                                                  refine x_tabo (by decide) (by decide) (fun j g1 g2 => ?_)
                                                                                                  rcases (show j = 0 ∨ j = 1 ∨ j = 2 ∨ j = 3 ∨ j = 4 ∨ j = 5 ∨ j = 6 ∨ j = 7 ∨ j = 8 ∨ j = 9 ∨ j = 10 ∨ j = 11 ∨ j = 12 ∨ j = 13 ∨ j = 14 ∨ j = 15 ∨ j = 16 ∨ j = 17 ∨ j = 18 ∨ j = 19 ∨ j = 20 ∨ j = 21 ∨ j = 22 ∨ j = 23 ∨ j = 24 ∨ j = 25 ∨ j = 26 ∨ j = 27 ∨ j = 28 ∨ j = 29 ∨ j = 30 ∨ j = 31 ∨ j = 32 ∨ j = 33 ∨ j = 34 ∨ j = 35 ∨ j = 36 ∨ j = 37 ∨ j = 38 ∨ j = 39 ∨ j = 40 ∨ j = 41 ∨ j = 42 ∨ j = 43 ∨ j = 44 by omega) with rfl | rfl | rfl | rfl | rfl | rfl | rfl | rfl | rfl | rfl | rfl | rfl | rfl | rfl | rfl | rfl | rfl | rfl | rfl | rfl | rfl | rfl | rfl | rfl | rfl | rfl | rfl | rfl | rfl | rfl | rfl | rfl | rfl | rfl | rfl | rfl | rfl | rfl | rfl | rfl | rfl | rfl | rfl | rfl | rfl
                                                                                                  · exact hc26
                                                                                                  · exact hc41
                                                                                                  · exact hc58
                                                                                                  · exact hc69
                                                                                                  · exact hc78
                                                                                                  · exact hc89
                                                                                                  · exact hc100
                                                                                                  · exact hc113
                                                                                                  · exact hc122
                                                                                                  · exact hc133
                                                                                                  · exact hc148
                                                                                                  · exact hc159
                                                                                                  · exact hc170
                                                                                                  · exact hc177
                                                                                                  · exact hc186
                                                                                                  · exact hc197
                                                                                                  · exact hc206
                                                                                                  · exact hc217
                                                                                                  · exact hc230
                                                                                                  · exact hc243
                                                                                                  · exact hc256
                                                                                                  · exact hc267
                                                                                                  · exact hc278
                                                                                                  · exact hc291
                                                                                                  · exact hc300
                                                                                                  · exact hc307
                                                                                                  · exact hc322
                                                                                                  · exact hc335
                                                                                                  · exact hc350
                                                                                                  · exact hc367
                                                                                                  · exact hc378
                                                                                                  · exact hc385
                                                                                                  · exact hc394
                                                                                                  · exact hc405
                                                                                                  · exact hc414
                                                                                                  · exact hc423
                                                                                                  · exact hc434
                                                                                                  · exact hc447
                                                                                                  · exact hc462
                                                                                                  · exact hc471
                                                                                                  · exact hc478
                                                                                                  · exact hc487
                                                                                                  · exact hc496
                                                                                                  · exact hc503
                                                                                                  · exact hc512
                                                                                                refine y_tabOut (tgt := 1560) dL_law_33 hO (by decide) ?_
                                                                                                obtain ⟨x513, ex513, hE⟩ := Option.bind_eq_some_iff.mp hE
                                                                                                refine y_iinc (ls' := [(3, .int x513), (0, .ref 0), (1, .ref v1), (2, .ref v2)]) dL_law_1560 3 rfl (Option.some.inj ex513) (by decide) rfl ?_
                                                                                                refine y_goto (tgt := 18) dL_law_1563 (by decide) ?_
                                                                                                refine y_pick [1, 2, 3, 0] rfl ?_
                                                                                                exact ih _ _ _ _ _ _ _ hE (by omega) (by omega) hm KR K
def f_L_law (S : Nat × (Nat → Int32)) (n : Nat) (h : xH) : Option ((Int32 × xH) × Nat × Nat) :=
  x_add 1 9 <|
  (f_X6_init n (h ++ [.inr (6, [.null, .null, .null, .int 0, .null, .null, .null, .null, .null])]) (h.length + 16)).bind fun q3 =>
  x_add q3.2.1 q3.2.2 <|
  (some (h.length + 16)).bind fun x6 =>
  x_add 1 40 <|
  (f_X7_init (q3.1 ++ [.inr (7, [.null, .null, .null, .null, .null, .null, .null, .int 0, .null, .int 0, .null, .int 0, .int 0, .null, .int 0, .int 0, .int 0, .int 0, .null, .null, .int 0, .int 0, .int 0, .int 0, .int 0, .null, .int 0, .null, .null, .null, .int 0, .null, .int 0, .int 0, .null, .null, .int 0, .int 0, .int 0, .int 0])]) (q3.1.length + 16)).bind fun q9 =>
  x_add q9.2.1 q9.2.2 <|
  (some (q3.1.length + 16)).bind fun x12 =>
  (f_L_law_L18 S n x6 x12 n (0 : Int32) q9.1).bind fun q515 =>
  x_add q515.2.1 q515.2.2 <|
  match q515.1 with
  | .inl r518 => some (r518, 0, 0)
  | .inr e519 =>
    some (((1 : Int32), e519), 0, 0)
set_option maxRecDepth 100000 in
set_option maxHeartbeats 4000000 in
theorem c_L_law (S : Nat × (Nat → Int32)) (n : Nat) (h : xH) {r9 : Int32} {hz : xH} {c9 s9 : Nat} {mc ms : Nat} (hE : f_L_law S n h  = some ((r9, hz), c9, s9)) (hm : c9 ≤ mc ∧ s9 ≤ ms) : Y S M_L_law h (some (.int r9)) hz mc ms 0 [(0, .ref 0)] [] h 0 0 := by
  unfold f_L_law at hE
  obtain ⟨c1, s2, hN, ecc1, ess2⟩ := x_add.spec hE
  clear hE; have hE := hN; clear hN
  refine y_new (fs := [.null, .null, .null, .int 0, .null, .null, .null, .null, .null]) cl_X6 (x_wt (tb 16 (by decide +kernel)) rfl) (x_wt (tb 17 (by decide +kernel)) rfl) (x_wt (tb 1 (by decide +kernel)) rfl) (by decide) rfl ⟨by omega, by omega⟩ dL_law_0 ?_
  refine y_dup dL_law_3 rfl ?_
  obtain ⟨q3, eq3, hE⟩ := Option.bind_eq_some_iff.mp hE
  obtain ⟨c4, s5, hN, ecc4, ess5⟩ := x_add.spec hE
  clear hE; have hE := hN; clear hN
  refine y_cIv1 (st := [.ref (h.length + 16)]) (as := []) (c_X6_init (eq3.trans (show some q3 = some (q3.1, q3.2.1, q3.2.2) from rfl))) lk_L_9 in_X6_init rfl rfl (by omega) ⟨Nat.le_of_ble_eq_true rfl, Nat.le_of_ble_eq_true rfl⟩ (Nat.le_of_ble_eq_true rfl) dL_law_4 ⟨by omega, by omega⟩ rfl ?_
  obtain ⟨x6, ex6, hE⟩ := Option.bind_eq_some_iff.mp hE
  refine y_astore_n (ls' := [(1, .ref x6), (0, .ref 0)]) dL_law_7 (by decide) (Option.some.inj ex6) rfl ?_
  obtain ⟨c7, s8, hN, ecc7, ess8⟩ := x_add.spec hE
  clear hE; have hE := hN; clear hN
  refine y_new (fs := [.null, .null, .null, .null, .null, .null, .null, .int 0, .null, .int 0, .null, .int 0, .int 0, .null, .int 0, .int 0, .int 0, .int 0, .null, .null, .int 0, .int 0, .int 0, .int 0, .int 0, .null, .int 0, .null, .null, .null, .int 0, .null, .int 0, .int 0, .null, .null, .int 0, .int 0, .int 0, .int 0]) cl_X7 (x_wt (tb 916 (by decide +kernel)) rfl) (x_wt (tb 917 (by decide +kernel)) rfl) (x_wt (tb 8 (by decide +kernel)) rfl) (by decide) rfl ⟨by omega, by omega⟩ dL_law_8 ?_
  refine y_dup dL_law_11 rfl ?_
  obtain ⟨q9, eq9, hE⟩ := Option.bind_eq_some_iff.mp hE
  obtain ⟨c10, s11, hN, ecc10, ess11⟩ := x_add.spec hE
  clear hE; have hE := hN; clear hN
  refine y_cIv1 (st := [.ref (q3.1.length + 16)]) (as := []) (c_X7_init (eq9.trans (show some q9 = some (q9.1, q9.2.1, q9.2.2) from rfl))) lk_L_12 in_X7_init rfl rfl (by omega) ⟨Nat.le_of_ble_eq_true rfl, Nat.le_of_ble_eq_true rfl⟩ (Nat.le_of_ble_eq_true rfl) dL_law_12 ⟨by omega, by omega⟩ rfl ?_
  obtain ⟨x12, ex12, hE⟩ := Option.bind_eq_some_iff.mp hE
  refine y_astore_n (ls' := [(2, .ref x12), (1, .ref x6), (0, .ref 0)]) dL_law_15 (by decide) (Option.some.inj ex12) rfl ?_
  refine y_iconst (v := (0 : Int32)) dL_law_16 (by decide) ?_
  refine y_istore_n (ls' := [(3, .int (0 : Int32)), (2, .ref x12), (1, .ref x6), (0, .ref 0)]) dL_law_17 (by decide) rfl rfl ?_
  obtain ⟨⟨q515_1, q515_c, q515_s⟩, eq515, hE⟩ := Option.bind_eq_some_iff.mp hE
  dsimp only at hE
  obtain ⟨c516, s517, hN, ecc516, ess517⟩ := x_add.spec hE
  clear hE; have hE := hN; clear hN
  refine y_pick [3, 2, 1, 0] rfl ?_
  cases q515_1 with
  | inl r518 =>
    dsimp only at hE
    cases hE
    exact l_L_law_18 S n x6 x12 n (0 : Int32) q9.1 _ _ _ _ _ eq515 rfl rfl ⟨by omega, by omega⟩ (fun r8 hr8 => by cases hr8; exact ⟨rfl, rfl⟩) (fun r8 hr8 => by cases hr8)
  | inr e519 =>
    dsimp only at hE
    refine l_L_law_18 S n x6 x12 n (0 : Int32) q9.1 _ _ _ _ _ eq515 rfl rfl ⟨by omega, by omega⟩ (fun r8 hr8 => by cases hr8) (fun r8 hr8 => ?_)
    cases hr8
    refine y_iconst (v := (1 : Int32)) dL_law_1566 (by decide) ?_
    obtain ⟨rfl, rfl, rfl, rfl⟩ := x_inj4 hE
    exact y_ret dL_law_1567 (by omega) (by omega) ⟨_, rfl, rfl⟩
