theorem dL_law_0 : decode cL_law 0 = .ok (.new 7, 3) := by decide +kernel
theorem dL_law_3 : decode cL_law 3 = .ok (.dup, 1) := by decide +kernel
theorem dL_law_4 : decode cL_law 4 = .ok (.invokespecial 9, 3) := by decide +kernel
theorem dL_law_7 : decode cL_law 7 = .ok (.astore_n 1, 1) := by decide +kernel
theorem dL_law_8 : decode cL_law 8 = .ok (.new 10, 3) := by decide +kernel
theorem dL_law_11 : decode cL_law 11 = .ok (.dup, 1) := by decide +kernel
theorem dL_law_12 : decode cL_law 12 = .ok (.invokespecial 12, 3) := by decide +kernel
theorem dL_law_15 : decode cL_law 15 = .ok (.astore_n 2, 1) := by decide +kernel
theorem dL_law_16 : decode cL_law 16 = .ok (.iconst 0, 1) := by decide +kernel
theorem dL_law_17 : decode cL_law 17 = .ok (.istore_n 3, 1) := by decide +kernel
theorem dL_law_18 : decode cL_law 18 = .ok (.iload_n 3, 1) := by decide +kernel
theorem dL_law_19 : decode cL_law 19 = .ok (.aload_n 0, 1) := by decide +kernel
theorem dL_law_20 : decode cL_law 20 = .ok (.arraylength, 1) := by decide +kernel
theorem dL_law_21 : decode cL_law 21 = .ok (.bipush 6, 2) := by decide +kernel
theorem dL_law_23 : decode cL_law 23 = .ok (.isub, 1) := by decide +kernel
theorem dL_law_24 : decode cL_law 24 = .ok (.if_icmp .gt 1542, 3) := by decide +kernel
theorem dL_law_27 : decode cL_law 27 = .ok (.aload_n 0, 1) := by decide +kernel
theorem dL_law_28 : decode cL_law 28 = .ok (.iload_n 3, 1) := by decide +kernel
theorem dL_law_29 : decode cL_law 29 = .ok (.iaload, 1) := by decide +kernel
theorem dL_law_30 : decode cL_law 30 = .ok (.bipush 63, 2) := by decide +kernel
theorem dL_law_32 : decode cL_law 32 = .ok (.iand, 1) := by decide +kernel
theorem dL_law_33 : decode cL_law 33 = .ok (.tableswitch 1527 0 44 #[195, 238, 311, 374, 408, 431, 464, 497, 540, 563, 596, 645, 678, 711, 724, 737, 770, 793, 826, 869, 912, 955, 988, 1021, 1064, 1087, 1100, 1133, 1156, 1189, 1232, 1245, 1258, 1271, 1294, 1307, 1320, 1343, 1376, 1419, 1442, 1455, 1478, 1491, 1504], 195) := by decide +kernel
theorem dL_law_228 : decode cL_law 228 = .ok (.aload_n 1, 1) := by decide +kernel
theorem dL_law_229 : decode cL_law 229 = .ok (.aload_n 0, 1) := by decide +kernel
theorem dL_law_230 : decode cL_law 230 = .ok (.iload_n 3, 1) := by decide +kernel
theorem dL_law_231 : decode cL_law 231 = .ok (.iconst 1, 1) := by decide +kernel
theorem dL_law_232 : decode cL_law 232 = .ok (.iadd, 1) := by decide +kernel
theorem dL_law_233 : decode cL_law 233 = .ok (.iaload, 1) := by decide +kernel
theorem dL_law_234 : decode cL_law 234 = .ok (.aload_n 0, 1) := by decide +kernel
theorem dL_law_235 : decode cL_law 235 = .ok (.iload_n 3, 1) := by decide +kernel
theorem dL_law_236 : decode cL_law 236 = .ok (.iconst 2, 1) := by decide +kernel
theorem dL_law_237 : decode cL_law 237 = .ok (.iadd, 1) := by decide +kernel
theorem dL_law_238 : decode cL_law 238 = .ok (.iaload, 1) := by decide +kernel
theorem dL_law_239 : decode cL_law 239 = .ok (.aload_n 0, 1) := by decide +kernel
theorem dL_law_240 : decode cL_law 240 = .ok (.iload_n 3, 1) := by decide +kernel
theorem dL_law_241 : decode cL_law 241 = .ok (.iconst 3, 1) := by decide +kernel
theorem dL_law_242 : decode cL_law 242 = .ok (.iadd, 1) := by decide +kernel
theorem dL_law_243 : decode cL_law 243 = .ok (.iaload, 1) := by decide +kernel
theorem dL_law_244 : decode cL_law 244 = .ok (.invokevirtual 13, 3) := by decide +kernel
theorem dL_law_247 : decode cL_law 247 = .ok (.aload_n 2, 1) := by decide +kernel
theorem dL_law_248 : decode cL_law 248 = .ok (.aload_n 0, 1) := by decide +kernel
theorem dL_law_249 : decode cL_law 249 = .ok (.iload_n 3, 1) := by decide +kernel
theorem dL_law_250 : decode cL_law 250 = .ok (.iconst 1, 1) := by decide +kernel
theorem dL_law_251 : decode cL_law 251 = .ok (.iadd, 1) := by decide +kernel
theorem dL_law_252 : decode cL_law 252 = .ok (.iaload, 1) := by decide +kernel
theorem dL_law_253 : decode cL_law 253 = .ok (.aload_n 0, 1) := by decide +kernel
theorem dL_law_254 : decode cL_law 254 = .ok (.iload_n 3, 1) := by decide +kernel
theorem dL_law_255 : decode cL_law 255 = .ok (.iconst 2, 1) := by decide +kernel
theorem dL_law_256 : decode cL_law 256 = .ok (.iadd, 1) := by decide +kernel
theorem dL_law_257 : decode cL_law 257 = .ok (.iaload, 1) := by decide +kernel
theorem dL_law_258 : decode cL_law 258 = .ok (.aload_n 0, 1) := by decide +kernel
theorem dL_law_259 : decode cL_law 259 = .ok (.iload_n 3, 1) := by decide +kernel
theorem dL_law_260 : decode cL_law 260 = .ok (.iconst 3, 1) := by decide +kernel
theorem dL_law_261 : decode cL_law 261 = .ok (.iadd, 1) := by decide +kernel
theorem dL_law_262 : decode cL_law 262 = .ok (.iaload, 1) := by decide +kernel
theorem dL_law_263 : decode cL_law 263 = .ok (.invokevirtual 17, 3) := by decide +kernel
theorem dL_law_266 : decode cL_law 266 = .ok (.if_icmp .eq 1294, 3) := by decide +kernel
theorem dL_law_269 : decode cL_law 269 = .ok (.iconst 0, 1) := by decide +kernel
theorem dL_law_270 : decode cL_law 270 = .ok (.ireturn, 1) := by decide +kernel
theorem dL_law_271 : decode cL_law 271 = .ok (.aload_n 1, 1) := by decide +kernel
theorem dL_law_272 : decode cL_law 272 = .ok (.aload_n 0, 1) := by decide +kernel
theorem dL_law_273 : decode cL_law 273 = .ok (.iload_n 3, 1) := by decide +kernel
theorem dL_law_274 : decode cL_law 274 = .ok (.iconst 1, 1) := by decide +kernel
theorem dL_law_275 : decode cL_law 275 = .ok (.iadd, 1) := by decide +kernel
theorem dL_law_276 : decode cL_law 276 = .ok (.iaload, 1) := by decide +kernel
theorem dL_law_277 : decode cL_law 277 = .ok (.aload_n 0, 1) := by decide +kernel
theorem dL_law_278 : decode cL_law 278 = .ok (.iload_n 3, 1) := by decide +kernel
theorem dL_law_279 : decode cL_law 279 = .ok (.iconst 2, 1) := by decide +kernel
theorem dL_law_280 : decode cL_law 280 = .ok (.iadd, 1) := by decide +kernel
theorem dL_law_281 : decode cL_law 281 = .ok (.iaload, 1) := by decide +kernel
theorem dL_law_282 : decode cL_law 282 = .ok (.aload_n 0, 1) := by decide +kernel
theorem dL_law_283 : decode cL_law 283 = .ok (.iload_n 3, 1) := by decide +kernel
theorem dL_law_284 : decode cL_law 284 = .ok (.iconst 3, 1) := by decide +kernel
theorem dL_law_285 : decode cL_law 285 = .ok (.iadd, 1) := by decide +kernel
theorem dL_law_286 : decode cL_law 286 = .ok (.iaload, 1) := by decide +kernel
theorem dL_law_287 : decode cL_law 287 = .ok (.i2l, 1) := by decide +kernel
theorem dL_law_288 : decode cL_law 288 = .ok (.bipush 32, 2) := by decide +kernel
theorem dL_law_290 : decode cL_law 290 = .ok (.lshl, 1) := by decide +kernel
theorem dL_law_291 : decode cL_law 291 = .ok (.aload_n 0, 1) := by decide +kernel
theorem dL_law_292 : decode cL_law 292 = .ok (.iload_n 3, 1) := by decide +kernel
theorem dL_law_293 : decode cL_law 293 = .ok (.iconst 4, 1) := by decide +kernel
theorem dL_law_294 : decode cL_law 294 = .ok (.iadd, 1) := by decide +kernel
theorem dL_law_295 : decode cL_law 295 = .ok (.iaload, 1) := by decide +kernel
theorem dL_law_296 : decode cL_law 296 = .ok (.i2l, 1) := by decide +kernel
theorem dL_law_297 : decode cL_law 297 = .ok (.ldc2_w 18, 3) := by decide +kernel
theorem dL_law_300 : decode cL_law 300 = .ok (.land, 1) := by decide +kernel
theorem dL_law_301 : decode cL_law 301 = .ok (.lor, 1) := by decide +kernel
theorem dL_law_302 : decode cL_law 302 = .ok (.invokevirtual 20, 3) := by decide +kernel
theorem dL_law_305 : decode cL_law 305 = .ok (.aload_n 2, 1) := by decide +kernel
theorem dL_law_306 : decode cL_law 306 = .ok (.aload_n 0, 1) := by decide +kernel
theorem dL_law_307 : decode cL_law 307 = .ok (.iload_n 3, 1) := by decide +kernel
theorem dL_law_308 : decode cL_law 308 = .ok (.iconst 1, 1) := by decide +kernel
theorem dL_law_309 : decode cL_law 309 = .ok (.iadd, 1) := by decide +kernel
theorem dL_law_310 : decode cL_law 310 = .ok (.iaload, 1) := by decide +kernel
theorem dL_law_311 : decode cL_law 311 = .ok (.aload_n 0, 1) := by decide +kernel
theorem dL_law_312 : decode cL_law 312 = .ok (.iload_n 3, 1) := by decide +kernel
theorem dL_law_313 : decode cL_law 313 = .ok (.iconst 2, 1) := by decide +kernel
theorem dL_law_314 : decode cL_law 314 = .ok (.iadd, 1) := by decide +kernel
theorem dL_law_315 : decode cL_law 315 = .ok (.iaload, 1) := by decide +kernel
theorem dL_law_316 : decode cL_law 316 = .ok (.aload_n 0, 1) := by decide +kernel
theorem dL_law_317 : decode cL_law 317 = .ok (.iload_n 3, 1) := by decide +kernel
theorem dL_law_318 : decode cL_law 318 = .ok (.iconst 3, 1) := by decide +kernel
theorem dL_law_319 : decode cL_law 319 = .ok (.iadd, 1) := by decide +kernel
theorem dL_law_320 : decode cL_law 320 = .ok (.iaload, 1) := by decide +kernel
theorem dL_law_321 : decode cL_law 321 = .ok (.i2l, 1) := by decide +kernel
theorem dL_law_322 : decode cL_law 322 = .ok (.bipush 32, 2) := by decide +kernel
theorem dL_law_324 : decode cL_law 324 = .ok (.lshl, 1) := by decide +kernel
theorem dL_law_325 : decode cL_law 325 = .ok (.aload_n 0, 1) := by decide +kernel
theorem dL_law_326 : decode cL_law 326 = .ok (.iload_n 3, 1) := by decide +kernel
theorem dL_law_327 : decode cL_law 327 = .ok (.iconst 4, 1) := by decide +kernel
theorem dL_law_328 : decode cL_law 328 = .ok (.iadd, 1) := by decide +kernel
theorem dL_law_329 : decode cL_law 329 = .ok (.iaload, 1) := by decide +kernel
theorem dL_law_330 : decode cL_law 330 = .ok (.i2l, 1) := by decide +kernel
theorem dL_law_331 : decode cL_law 331 = .ok (.ldc2_w 18, 3) := by decide +kernel
theorem dL_law_334 : decode cL_law 334 = .ok (.land, 1) := by decide +kernel
theorem dL_law_335 : decode cL_law 335 = .ok (.lor, 1) := by decide +kernel
theorem dL_law_336 : decode cL_law 336 = .ok (.invokevirtual 24, 3) := by decide +kernel
theorem dL_law_339 : decode cL_law 339 = .ok (.if_icmp .eq 1221, 3) := by decide +kernel
theorem dL_law_342 : decode cL_law 342 = .ok (.iconst 0, 1) := by decide +kernel
theorem dL_law_343 : decode cL_law 343 = .ok (.ireturn, 1) := by decide +kernel
theorem dL_law_344 : decode cL_law 344 = .ok (.aload_n 1, 1) := by decide +kernel
theorem dL_law_345 : decode cL_law 345 = .ok (.aload_n 0, 1) := by decide +kernel
theorem dL_law_346 : decode cL_law 346 = .ok (.iload_n 3, 1) := by decide +kernel
theorem dL_law_347 : decode cL_law 347 = .ok (.iconst 1, 1) := by decide +kernel
theorem dL_law_348 : decode cL_law 348 = .ok (.iadd, 1) := by decide +kernel
theorem dL_law_349 : decode cL_law 349 = .ok (.iaload, 1) := by decide +kernel
theorem dL_law_350 : decode cL_law 350 = .ok (.aload_n 0, 1) := by decide +kernel
theorem dL_law_351 : decode cL_law 351 = .ok (.iload_n 3, 1) := by decide +kernel
theorem dL_law_352 : decode cL_law 352 = .ok (.iconst 2, 1) := by decide +kernel
theorem dL_law_353 : decode cL_law 353 = .ok (.iadd, 1) := by decide +kernel
theorem dL_law_354 : decode cL_law 354 = .ok (.iaload, 1) := by decide +kernel
theorem dL_law_355 : decode cL_law 355 = .ok (.aload_n 0, 1) := by decide +kernel
theorem dL_law_356 : decode cL_law 356 = .ok (.iload_n 3, 1) := by decide +kernel
theorem dL_law_357 : decode cL_law 357 = .ok (.iconst 3, 1) := by decide +kernel
theorem dL_law_358 : decode cL_law 358 = .ok (.iadd, 1) := by decide +kernel
theorem dL_law_359 : decode cL_law 359 = .ok (.iaload, 1) := by decide +kernel
theorem dL_law_360 : decode cL_law 360 = .ok (.aload_n 0, 1) := by decide +kernel
theorem dL_law_361 : decode cL_law 361 = .ok (.iload_n 3, 1) := by decide +kernel
theorem dL_law_362 : decode cL_law 362 = .ok (.iconst 4, 1) := by decide +kernel
theorem dL_law_363 : decode cL_law 363 = .ok (.iadd, 1) := by decide +kernel
theorem dL_law_364 : decode cL_law 364 = .ok (.iaload, 1) := by decide +kernel
theorem dL_law_365 : decode cL_law 365 = .ok (.aload_n 0, 1) := by decide +kernel
theorem dL_law_366 : decode cL_law 366 = .ok (.iload_n 3, 1) := by decide +kernel
theorem dL_law_367 : decode cL_law 367 = .ok (.iconst 5, 1) := by decide +kernel
theorem dL_law_368 : decode cL_law 368 = .ok (.iadd, 1) := by decide +kernel
theorem dL_law_369 : decode cL_law 369 = .ok (.iaload, 1) := by decide +kernel
theorem dL_law_370 : decode cL_law 370 = .ok (.invokevirtual 25, 3) := by decide +kernel
theorem dL_law_373 : decode cL_law 373 = .ok (.aload_n 2, 1) := by decide +kernel
theorem dL_law_374 : decode cL_law 374 = .ok (.aload_n 0, 1) := by decide +kernel
theorem dL_law_375 : decode cL_law 375 = .ok (.iload_n 3, 1) := by decide +kernel
theorem dL_law_376 : decode cL_law 376 = .ok (.iconst 1, 1) := by decide +kernel
theorem dL_law_377 : decode cL_law 377 = .ok (.iadd, 1) := by decide +kernel
theorem dL_law_378 : decode cL_law 378 = .ok (.iaload, 1) := by decide +kernel
theorem dL_law_379 : decode cL_law 379 = .ok (.aload_n 0, 1) := by decide +kernel
theorem dL_law_380 : decode cL_law 380 = .ok (.iload_n 3, 1) := by decide +kernel
theorem dL_law_381 : decode cL_law 381 = .ok (.iconst 2, 1) := by decide +kernel
theorem dL_law_382 : decode cL_law 382 = .ok (.iadd, 1) := by decide +kernel
theorem dL_law_383 : decode cL_law 383 = .ok (.iaload, 1) := by decide +kernel
theorem dL_law_384 : decode cL_law 384 = .ok (.aload_n 0, 1) := by decide +kernel
theorem dL_law_385 : decode cL_law 385 = .ok (.iload_n 3, 1) := by decide +kernel
theorem dL_law_386 : decode cL_law 386 = .ok (.iconst 3, 1) := by decide +kernel
theorem dL_law_387 : decode cL_law 387 = .ok (.iadd, 1) := by decide +kernel
theorem dL_law_388 : decode cL_law 388 = .ok (.iaload, 1) := by decide +kernel
theorem dL_law_389 : decode cL_law 389 = .ok (.aload_n 0, 1) := by decide +kernel
theorem dL_law_390 : decode cL_law 390 = .ok (.iload_n 3, 1) := by decide +kernel
theorem dL_law_391 : decode cL_law 391 = .ok (.iconst 4, 1) := by decide +kernel
theorem dL_law_392 : decode cL_law 392 = .ok (.iadd, 1) := by decide +kernel
theorem dL_law_393 : decode cL_law 393 = .ok (.iaload, 1) := by decide +kernel
theorem dL_law_394 : decode cL_law 394 = .ok (.aload_n 0, 1) := by decide +kernel
theorem dL_law_395 : decode cL_law 395 = .ok (.iload_n 3, 1) := by decide +kernel
theorem dL_law_396 : decode cL_law 396 = .ok (.iconst 5, 1) := by decide +kernel
theorem dL_law_397 : decode cL_law 397 = .ok (.iadd, 1) := by decide +kernel
theorem dL_law_398 : decode cL_law 398 = .ok (.iaload, 1) := by decide +kernel
theorem dL_law_399 : decode cL_law 399 = .ok (.invokevirtual 29, 3) := by decide +kernel
theorem dL_law_402 : decode cL_law 402 = .ok (.if_icmp .eq 1158, 3) := by decide +kernel
theorem dL_law_405 : decode cL_law 405 = .ok (.iconst 0, 1) := by decide +kernel
theorem dL_law_406 : decode cL_law 406 = .ok (.ireturn, 1) := by decide +kernel
theorem dL_law_407 : decode cL_law 407 = .ok (.aload_n 1, 1) := by decide +kernel
theorem dL_law_408 : decode cL_law 408 = .ok (.aload_n 0, 1) := by decide +kernel
theorem dL_law_409 : decode cL_law 409 = .ok (.iload_n 3, 1) := by decide +kernel
theorem dL_law_410 : decode cL_law 410 = .ok (.iconst 1, 1) := by decide +kernel
theorem dL_law_411 : decode cL_law 411 = .ok (.iadd, 1) := by decide +kernel
theorem dL_law_412 : decode cL_law 412 = .ok (.iaload, 1) := by decide +kernel
theorem dL_law_413 : decode cL_law 413 = .ok (.aload_n 0, 1) := by decide +kernel
theorem dL_law_414 : decode cL_law 414 = .ok (.iload_n 3, 1) := by decide +kernel
theorem dL_law_415 : decode cL_law 415 = .ok (.iconst 2, 1) := by decide +kernel
theorem dL_law_416 : decode cL_law 416 = .ok (.iadd, 1) := by decide +kernel
theorem dL_law_417 : decode cL_law 417 = .ok (.iaload, 1) := by decide +kernel
theorem dL_law_418 : decode cL_law 418 = .ok (.invokevirtual 30, 3) := by decide +kernel
theorem dL_law_421 : decode cL_law 421 = .ok (.aload_n 2, 1) := by decide +kernel
theorem dL_law_422 : decode cL_law 422 = .ok (.aload_n 0, 1) := by decide +kernel
theorem dL_law_423 : decode cL_law 423 = .ok (.iload_n 3, 1) := by decide +kernel
theorem dL_law_424 : decode cL_law 424 = .ok (.iconst 1, 1) := by decide +kernel
theorem dL_law_425 : decode cL_law 425 = .ok (.iadd, 1) := by decide +kernel
theorem dL_law_426 : decode cL_law 426 = .ok (.iaload, 1) := by decide +kernel
theorem dL_law_427 : decode cL_law 427 = .ok (.aload_n 0, 1) := by decide +kernel
theorem dL_law_428 : decode cL_law 428 = .ok (.iload_n 3, 1) := by decide +kernel
theorem dL_law_429 : decode cL_law 429 = .ok (.iconst 2, 1) := by decide +kernel
theorem dL_law_430 : decode cL_law 430 = .ok (.iadd, 1) := by decide +kernel
theorem dL_law_431 : decode cL_law 431 = .ok (.iaload, 1) := by decide +kernel
theorem dL_law_432 : decode cL_law 432 = .ok (.invokevirtual 34, 3) := by decide +kernel
theorem dL_law_435 : decode cL_law 435 = .ok (.lcmp, 1) := by decide +kernel
theorem dL_law_436 : decode cL_law 436 = .ok (.ifCond .eq 1124, 3) := by decide +kernel
theorem dL_law_439 : decode cL_law 439 = .ok (.iconst 0, 1) := by decide +kernel
theorem dL_law_440 : decode cL_law 440 = .ok (.ireturn, 1) := by decide +kernel
theorem dL_law_441 : decode cL_law 441 = .ok (.aload_n 1, 1) := by decide +kernel
theorem dL_law_442 : decode cL_law 442 = .ok (.aload_n 0, 1) := by decide +kernel
theorem dL_law_443 : decode cL_law 443 = .ok (.iload_n 3, 1) := by decide +kernel
theorem dL_law_444 : decode cL_law 444 = .ok (.iconst 1, 1) := by decide +kernel
theorem dL_law_445 : decode cL_law 445 = .ok (.iadd, 1) := by decide +kernel
theorem dL_law_446 : decode cL_law 446 = .ok (.iaload, 1) := by decide +kernel
theorem dL_law_447 : decode cL_law 447 = .ok (.invokevirtual 35, 3) := by decide +kernel
theorem dL_law_450 : decode cL_law 450 = .ok (.aload_n 2, 1) := by decide +kernel
theorem dL_law_451 : decode cL_law 451 = .ok (.aload_n 0, 1) := by decide +kernel
theorem dL_law_452 : decode cL_law 452 = .ok (.iload_n 3, 1) := by decide +kernel
theorem dL_law_453 : decode cL_law 453 = .ok (.iconst 1, 1) := by decide +kernel
theorem dL_law_454 : decode cL_law 454 = .ok (.iadd, 1) := by decide +kernel
theorem dL_law_455 : decode cL_law 455 = .ok (.iaload, 1) := by decide +kernel
theorem dL_law_456 : decode cL_law 456 = .ok (.invokevirtual 39, 3) := by decide +kernel
theorem dL_law_459 : decode cL_law 459 = .ok (.if_icmp .eq 1101, 3) := by decide +kernel
theorem dL_law_462 : decode cL_law 462 = .ok (.iconst 0, 1) := by decide +kernel
theorem dL_law_463 : decode cL_law 463 = .ok (.ireturn, 1) := by decide +kernel
theorem dL_law_464 : decode cL_law 464 = .ok (.aload_n 1, 1) := by decide +kernel
theorem dL_law_465 : decode cL_law 465 = .ok (.aload_n 0, 1) := by decide +kernel
theorem dL_law_466 : decode cL_law 466 = .ok (.iload_n 3, 1) := by decide +kernel
theorem dL_law_467 : decode cL_law 467 = .ok (.iconst 1, 1) := by decide +kernel
theorem dL_law_468 : decode cL_law 468 = .ok (.iadd, 1) := by decide +kernel
theorem dL_law_469 : decode cL_law 469 = .ok (.iaload, 1) := by decide +kernel
theorem dL_law_470 : decode cL_law 470 = .ok (.aload_n 0, 1) := by decide +kernel
theorem dL_law_471 : decode cL_law 471 = .ok (.iload_n 3, 1) := by decide +kernel
theorem dL_law_472 : decode cL_law 472 = .ok (.iconst 2, 1) := by decide +kernel
theorem dL_law_473 : decode cL_law 473 = .ok (.iadd, 1) := by decide +kernel
theorem dL_law_474 : decode cL_law 474 = .ok (.iaload, 1) := by decide +kernel
theorem dL_law_475 : decode cL_law 475 = .ok (.invokevirtual 40, 3) := by decide +kernel
theorem dL_law_478 : decode cL_law 478 = .ok (.aload_n 2, 1) := by decide +kernel
theorem dL_law_479 : decode cL_law 479 = .ok (.aload_n 0, 1) := by decide +kernel
theorem dL_law_480 : decode cL_law 480 = .ok (.iload_n 3, 1) := by decide +kernel
theorem dL_law_481 : decode cL_law 481 = .ok (.iconst 1, 1) := by decide +kernel
theorem dL_law_482 : decode cL_law 482 = .ok (.iadd, 1) := by decide +kernel
theorem dL_law_483 : decode cL_law 483 = .ok (.iaload, 1) := by decide +kernel
theorem dL_law_484 : decode cL_law 484 = .ok (.aload_n 0, 1) := by decide +kernel
theorem dL_law_485 : decode cL_law 485 = .ok (.iload_n 3, 1) := by decide +kernel
theorem dL_law_486 : decode cL_law 486 = .ok (.iconst 2, 1) := by decide +kernel
theorem dL_law_487 : decode cL_law 487 = .ok (.iadd, 1) := by decide +kernel
theorem dL_law_488 : decode cL_law 488 = .ok (.iaload, 1) := by decide +kernel
theorem dL_law_489 : decode cL_law 489 = .ok (.invokevirtual 44, 3) := by decide +kernel
theorem dL_law_492 : decode cL_law 492 = .ok (.if_icmp .eq 1068, 3) := by decide +kernel
theorem dL_law_495 : decode cL_law 495 = .ok (.iconst 0, 1) := by decide +kernel
theorem dL_law_496 : decode cL_law 496 = .ok (.ireturn, 1) := by decide +kernel
theorem dL_law_497 : decode cL_law 497 = .ok (.aload_n 1, 1) := by decide +kernel
theorem dL_law_498 : decode cL_law 498 = .ok (.aload_n 0, 1) := by decide +kernel
theorem dL_law_499 : decode cL_law 499 = .ok (.iload_n 3, 1) := by decide +kernel
theorem dL_law_500 : decode cL_law 500 = .ok (.iconst 1, 1) := by decide +kernel
theorem dL_law_501 : decode cL_law 501 = .ok (.iadd, 1) := by decide +kernel
theorem dL_law_502 : decode cL_law 502 = .ok (.iaload, 1) := by decide +kernel
theorem dL_law_503 : decode cL_law 503 = .ok (.aload_n 0, 1) := by decide +kernel
theorem dL_law_504 : decode cL_law 504 = .ok (.iload_n 3, 1) := by decide +kernel
theorem dL_law_505 : decode cL_law 505 = .ok (.iconst 2, 1) := by decide +kernel
theorem dL_law_506 : decode cL_law 506 = .ok (.iadd, 1) := by decide +kernel
theorem dL_law_507 : decode cL_law 507 = .ok (.iaload, 1) := by decide +kernel
theorem dL_law_508 : decode cL_law 508 = .ok (.invokevirtual 45, 3) := by decide +kernel
theorem dL_law_511 : decode cL_law 511 = .ok (.aload_n 2, 1) := by decide +kernel
theorem dL_law_512 : decode cL_law 512 = .ok (.aload_n 0, 1) := by decide +kernel
theorem dL_law_513 : decode cL_law 513 = .ok (.iload_n 3, 1) := by decide +kernel
theorem dL_law_514 : decode cL_law 514 = .ok (.iconst 1, 1) := by decide +kernel
theorem dL_law_515 : decode cL_law 515 = .ok (.iadd, 1) := by decide +kernel
theorem dL_law_516 : decode cL_law 516 = .ok (.iaload, 1) := by decide +kernel
theorem dL_law_517 : decode cL_law 517 = .ok (.aload_n 0, 1) := by decide +kernel
theorem dL_law_518 : decode cL_law 518 = .ok (.iload_n 3, 1) := by decide +kernel
theorem dL_law_519 : decode cL_law 519 = .ok (.iconst 2, 1) := by decide +kernel
theorem dL_law_520 : decode cL_law 520 = .ok (.iadd, 1) := by decide +kernel
theorem dL_law_521 : decode cL_law 521 = .ok (.iaload, 1) := by decide +kernel
theorem dL_law_522 : decode cL_law 522 = .ok (.invokevirtual 48, 3) := by decide +kernel
theorem dL_law_525 : decode cL_law 525 = .ok (.if_icmp .eq 1035, 3) := by decide +kernel
theorem dL_law_528 : decode cL_law 528 = .ok (.iconst 0, 1) := by decide +kernel
theorem dL_law_529 : decode cL_law 529 = .ok (.ireturn, 1) := by decide +kernel
theorem dL_law_530 : decode cL_law 530 = .ok (.aload_n 1, 1) := by decide +kernel
theorem dL_law_531 : decode cL_law 531 = .ok (.aload_n 0, 1) := by decide +kernel
theorem dL_law_532 : decode cL_law 532 = .ok (.iload_n 3, 1) := by decide +kernel
theorem dL_law_533 : decode cL_law 533 = .ok (.iconst 1, 1) := by decide +kernel
theorem dL_law_534 : decode cL_law 534 = .ok (.iadd, 1) := by decide +kernel
theorem dL_law_535 : decode cL_law 535 = .ok (.iaload, 1) := by decide +kernel
theorem dL_law_536 : decode cL_law 536 = .ok (.aload_n 0, 1) := by decide +kernel
theorem dL_law_537 : decode cL_law 537 = .ok (.iload_n 3, 1) := by decide +kernel
theorem dL_law_538 : decode cL_law 538 = .ok (.iconst 2, 1) := by decide +kernel
theorem dL_law_539 : decode cL_law 539 = .ok (.iadd, 1) := by decide +kernel
theorem dL_law_540 : decode cL_law 540 = .ok (.iaload, 1) := by decide +kernel
theorem dL_law_541 : decode cL_law 541 = .ok (.aload_n 0, 1) := by decide +kernel
theorem dL_law_542 : decode cL_law 542 = .ok (.iload_n 3, 1) := by decide +kernel
theorem dL_law_543 : decode cL_law 543 = .ok (.iconst 3, 1) := by decide +kernel
theorem dL_law_544 : decode cL_law 544 = .ok (.iadd, 1) := by decide +kernel
theorem dL_law_545 : decode cL_law 545 = .ok (.iaload, 1) := by decide +kernel
theorem dL_law_546 : decode cL_law 546 = .ok (.invokevirtual 49, 3) := by decide +kernel
theorem dL_law_549 : decode cL_law 549 = .ok (.aload_n 2, 1) := by decide +kernel
theorem dL_law_550 : decode cL_law 550 = .ok (.aload_n 0, 1) := by decide +kernel
theorem dL_law_551 : decode cL_law 551 = .ok (.iload_n 3, 1) := by decide +kernel
theorem dL_law_552 : decode cL_law 552 = .ok (.iconst 1, 1) := by decide +kernel
theorem dL_law_553 : decode cL_law 553 = .ok (.iadd, 1) := by decide +kernel
theorem dL_law_554 : decode cL_law 554 = .ok (.iaload, 1) := by decide +kernel
theorem dL_law_555 : decode cL_law 555 = .ok (.aload_n 0, 1) := by decide +kernel
theorem dL_law_556 : decode cL_law 556 = .ok (.iload_n 3, 1) := by decide +kernel
theorem dL_law_557 : decode cL_law 557 = .ok (.iconst 2, 1) := by decide +kernel
theorem dL_law_558 : decode cL_law 558 = .ok (.iadd, 1) := by decide +kernel
theorem dL_law_559 : decode cL_law 559 = .ok (.iaload, 1) := by decide +kernel
theorem dL_law_560 : decode cL_law 560 = .ok (.aload_n 0, 1) := by decide +kernel
theorem dL_law_561 : decode cL_law 561 = .ok (.iload_n 3, 1) := by decide +kernel
theorem dL_law_562 : decode cL_law 562 = .ok (.iconst 3, 1) := by decide +kernel
theorem dL_law_563 : decode cL_law 563 = .ok (.iadd, 1) := by decide +kernel
theorem dL_law_564 : decode cL_law 564 = .ok (.iaload, 1) := by decide +kernel
theorem dL_law_565 : decode cL_law 565 = .ok (.invokevirtual 52, 3) := by decide +kernel
theorem dL_law_568 : decode cL_law 568 = .ok (.if_icmp .eq 992, 3) := by decide +kernel
theorem dL_law_571 : decode cL_law 571 = .ok (.iconst 0, 1) := by decide +kernel
theorem dL_law_572 : decode cL_law 572 = .ok (.ireturn, 1) := by decide +kernel
theorem dL_law_573 : decode cL_law 573 = .ok (.aload_n 1, 1) := by decide +kernel
theorem dL_law_574 : decode cL_law 574 = .ok (.aload_n 0, 1) := by decide +kernel
theorem dL_law_575 : decode cL_law 575 = .ok (.iload_n 3, 1) := by decide +kernel
theorem dL_law_576 : decode cL_law 576 = .ok (.iconst 1, 1) := by decide +kernel
theorem dL_law_577 : decode cL_law 577 = .ok (.iadd, 1) := by decide +kernel
theorem dL_law_578 : decode cL_law 578 = .ok (.iaload, 1) := by decide +kernel
theorem dL_law_579 : decode cL_law 579 = .ok (.invokevirtual 53, 3) := by decide +kernel
theorem dL_law_582 : decode cL_law 582 = .ok (.aload_n 2, 1) := by decide +kernel
theorem dL_law_583 : decode cL_law 583 = .ok (.aload_n 0, 1) := by decide +kernel
theorem dL_law_584 : decode cL_law 584 = .ok (.iload_n 3, 1) := by decide +kernel
theorem dL_law_585 : decode cL_law 585 = .ok (.iconst 1, 1) := by decide +kernel
theorem dL_law_586 : decode cL_law 586 = .ok (.iadd, 1) := by decide +kernel
theorem dL_law_587 : decode cL_law 587 = .ok (.iaload, 1) := by decide +kernel
theorem dL_law_588 : decode cL_law 588 = .ok (.invokevirtual 56, 3) := by decide +kernel
theorem dL_law_591 : decode cL_law 591 = .ok (.if_icmp .eq 969, 3) := by decide +kernel
theorem dL_law_594 : decode cL_law 594 = .ok (.iconst 0, 1) := by decide +kernel
theorem dL_law_595 : decode cL_law 595 = .ok (.ireturn, 1) := by decide +kernel
theorem dL_law_596 : decode cL_law 596 = .ok (.aload_n 1, 1) := by decide +kernel
theorem dL_law_597 : decode cL_law 597 = .ok (.aload_n 0, 1) := by decide +kernel
theorem dL_law_598 : decode cL_law 598 = .ok (.iload_n 3, 1) := by decide +kernel
theorem dL_law_599 : decode cL_law 599 = .ok (.iconst 1, 1) := by decide +kernel
theorem dL_law_600 : decode cL_law 600 = .ok (.iadd, 1) := by decide +kernel
theorem dL_law_601 : decode cL_law 601 = .ok (.iaload, 1) := by decide +kernel
theorem dL_law_602 : decode cL_law 602 = .ok (.aload_n 0, 1) := by decide +kernel
theorem dL_law_603 : decode cL_law 603 = .ok (.iload_n 3, 1) := by decide +kernel
theorem dL_law_604 : decode cL_law 604 = .ok (.iconst 2, 1) := by decide +kernel
theorem dL_law_605 : decode cL_law 605 = .ok (.iadd, 1) := by decide +kernel
theorem dL_law_606 : decode cL_law 606 = .ok (.iaload, 1) := by decide +kernel
theorem dL_law_607 : decode cL_law 607 = .ok (.invokevirtual 57, 3) := by decide +kernel
theorem dL_law_610 : decode cL_law 610 = .ok (.aload_n 2, 1) := by decide +kernel
theorem dL_law_611 : decode cL_law 611 = .ok (.aload_n 0, 1) := by decide +kernel
theorem dL_law_612 : decode cL_law 612 = .ok (.iload_n 3, 1) := by decide +kernel
theorem dL_law_613 : decode cL_law 613 = .ok (.iconst 1, 1) := by decide +kernel
theorem dL_law_614 : decode cL_law 614 = .ok (.iadd, 1) := by decide +kernel
theorem dL_law_615 : decode cL_law 615 = .ok (.iaload, 1) := by decide +kernel
theorem dL_law_616 : decode cL_law 616 = .ok (.aload_n 0, 1) := by decide +kernel
theorem dL_law_617 : decode cL_law 617 = .ok (.iload_n 3, 1) := by decide +kernel
theorem dL_law_618 : decode cL_law 618 = .ok (.iconst 2, 1) := by decide +kernel
theorem dL_law_619 : decode cL_law 619 = .ok (.iadd, 1) := by decide +kernel
theorem dL_law_620 : decode cL_law 620 = .ok (.iaload, 1) := by decide +kernel
theorem dL_law_621 : decode cL_law 621 = .ok (.invokevirtual 60, 3) := by decide +kernel
theorem dL_law_624 : decode cL_law 624 = .ok (.if_icmp .eq 936, 3) := by decide +kernel
theorem dL_law_627 : decode cL_law 627 = .ok (.iconst 0, 1) := by decide +kernel
theorem dL_law_628 : decode cL_law 628 = .ok (.ireturn, 1) := by decide +kernel
theorem dL_law_629 : decode cL_law 629 = .ok (.aload_n 1, 1) := by decide +kernel
theorem dL_law_630 : decode cL_law 630 = .ok (.aload_n 0, 1) := by decide +kernel
theorem dL_law_631 : decode cL_law 631 = .ok (.iload_n 3, 1) := by decide +kernel
theorem dL_law_632 : decode cL_law 632 = .ok (.iconst 1, 1) := by decide +kernel
theorem dL_law_633 : decode cL_law 633 = .ok (.iadd, 1) := by decide +kernel
theorem dL_law_634 : decode cL_law 634 = .ok (.iaload, 1) := by decide +kernel
theorem dL_law_635 : decode cL_law 635 = .ok (.aload_n 0, 1) := by decide +kernel
theorem dL_law_636 : decode cL_law 636 = .ok (.iload_n 3, 1) := by decide +kernel
theorem dL_law_637 : decode cL_law 637 = .ok (.iconst 2, 1) := by decide +kernel
theorem dL_law_638 : decode cL_law 638 = .ok (.iadd, 1) := by decide +kernel
theorem dL_law_639 : decode cL_law 639 = .ok (.iaload, 1) := by decide +kernel
theorem dL_law_640 : decode cL_law 640 = .ok (.ifCond .eq 7, 3) := by decide +kernel
theorem dL_law_643 : decode cL_law 643 = .ok (.iconst 1, 1) := by decide +kernel
theorem dL_law_644 : decode cL_law 644 = .ok (.goto 4, 3) := by decide +kernel
theorem dL_law_647 : decode cL_law 647 = .ok (.iconst 0, 1) := by decide +kernel
theorem dL_law_648 : decode cL_law 648 = .ok (.invokevirtual 61, 3) := by decide +kernel
theorem dL_law_651 : decode cL_law 651 = .ok (.aload_n 2, 1) := by decide +kernel
theorem dL_law_652 : decode cL_law 652 = .ok (.aload_n 0, 1) := by decide +kernel
theorem dL_law_653 : decode cL_law 653 = .ok (.iload_n 3, 1) := by decide +kernel
theorem dL_law_654 : decode cL_law 654 = .ok (.iconst 1, 1) := by decide +kernel
theorem dL_law_655 : decode cL_law 655 = .ok (.iadd, 1) := by decide +kernel
theorem dL_law_656 : decode cL_law 656 = .ok (.iaload, 1) := by decide +kernel
theorem dL_law_657 : decode cL_law 657 = .ok (.aload_n 0, 1) := by decide +kernel
theorem dL_law_658 : decode cL_law 658 = .ok (.iload_n 3, 1) := by decide +kernel
theorem dL_law_659 : decode cL_law 659 = .ok (.iconst 2, 1) := by decide +kernel
theorem dL_law_660 : decode cL_law 660 = .ok (.iadd, 1) := by decide +kernel
theorem dL_law_661 : decode cL_law 661 = .ok (.iaload, 1) := by decide +kernel
theorem dL_law_662 : decode cL_law 662 = .ok (.ifCond .eq 7, 3) := by decide +kernel
theorem dL_law_665 : decode cL_law 665 = .ok (.iconst 1, 1) := by decide +kernel
theorem dL_law_666 : decode cL_law 666 = .ok (.goto 4, 3) := by decide +kernel
theorem dL_law_669 : decode cL_law 669 = .ok (.iconst 0, 1) := by decide +kernel
theorem dL_law_670 : decode cL_law 670 = .ok (.invokevirtual 65, 3) := by decide +kernel
theorem dL_law_673 : decode cL_law 673 = .ok (.if_icmp .eq 887, 3) := by decide +kernel
theorem dL_law_676 : decode cL_law 676 = .ok (.iconst 0, 1) := by decide +kernel
theorem dL_law_677 : decode cL_law 677 = .ok (.ireturn, 1) := by decide +kernel
theorem dL_law_678 : decode cL_law 678 = .ok (.aload_n 1, 1) := by decide +kernel
theorem dL_law_679 : decode cL_law 679 = .ok (.aload_n 0, 1) := by decide +kernel
theorem dL_law_680 : decode cL_law 680 = .ok (.iload_n 3, 1) := by decide +kernel
theorem dL_law_681 : decode cL_law 681 = .ok (.iconst 1, 1) := by decide +kernel
theorem dL_law_682 : decode cL_law 682 = .ok (.iadd, 1) := by decide +kernel
theorem dL_law_683 : decode cL_law 683 = .ok (.iaload, 1) := by decide +kernel
theorem dL_law_684 : decode cL_law 684 = .ok (.aload_n 0, 1) := by decide +kernel
theorem dL_law_685 : decode cL_law 685 = .ok (.iload_n 3, 1) := by decide +kernel
theorem dL_law_686 : decode cL_law 686 = .ok (.iconst 2, 1) := by decide +kernel
theorem dL_law_687 : decode cL_law 687 = .ok (.iadd, 1) := by decide +kernel
theorem dL_law_688 : decode cL_law 688 = .ok (.iaload, 1) := by decide +kernel
theorem dL_law_689 : decode cL_law 689 = .ok (.invokevirtual 66, 3) := by decide +kernel
theorem dL_law_692 : decode cL_law 692 = .ok (.aload_n 2, 1) := by decide +kernel
theorem dL_law_693 : decode cL_law 693 = .ok (.aload_n 0, 1) := by decide +kernel
theorem dL_law_694 : decode cL_law 694 = .ok (.iload_n 3, 1) := by decide +kernel
theorem dL_law_695 : decode cL_law 695 = .ok (.iconst 1, 1) := by decide +kernel
theorem dL_law_696 : decode cL_law 696 = .ok (.iadd, 1) := by decide +kernel
theorem dL_law_697 : decode cL_law 697 = .ok (.iaload, 1) := by decide +kernel
theorem dL_law_698 : decode cL_law 698 = .ok (.aload_n 0, 1) := by decide +kernel
theorem dL_law_699 : decode cL_law 699 = .ok (.iload_n 3, 1) := by decide +kernel
theorem dL_law_700 : decode cL_law 700 = .ok (.iconst 2, 1) := by decide +kernel
theorem dL_law_701 : decode cL_law 701 = .ok (.iadd, 1) := by decide +kernel
theorem dL_law_702 : decode cL_law 702 = .ok (.iaload, 1) := by decide +kernel
theorem dL_law_703 : decode cL_law 703 = .ok (.invokevirtual 69, 3) := by decide +kernel
theorem dL_law_706 : decode cL_law 706 = .ok (.if_icmp .eq 854, 3) := by decide +kernel
theorem dL_law_709 : decode cL_law 709 = .ok (.iconst 0, 1) := by decide +kernel
theorem dL_law_710 : decode cL_law 710 = .ok (.ireturn, 1) := by decide +kernel
theorem dL_law_711 : decode cL_law 711 = .ok (.aload_n 1, 1) := by decide +kernel
theorem dL_law_712 : decode cL_law 712 = .ok (.aload_n 0, 1) := by decide +kernel
theorem dL_law_713 : decode cL_law 713 = .ok (.iload_n 3, 1) := by decide +kernel
theorem dL_law_714 : decode cL_law 714 = .ok (.iconst 1, 1) := by decide +kernel
theorem dL_law_715 : decode cL_law 715 = .ok (.iadd, 1) := by decide +kernel
theorem dL_law_716 : decode cL_law 716 = .ok (.iaload, 1) := by decide +kernel
theorem dL_law_717 : decode cL_law 717 = .ok (.aload_n 0, 1) := by decide +kernel
theorem dL_law_718 : decode cL_law 718 = .ok (.iload_n 3, 1) := by decide +kernel
theorem dL_law_719 : decode cL_law 719 = .ok (.iconst 2, 1) := by decide +kernel
theorem dL_law_720 : decode cL_law 720 = .ok (.iadd, 1) := by decide +kernel
theorem dL_law_721 : decode cL_law 721 = .ok (.iaload, 1) := by decide +kernel
theorem dL_law_722 : decode cL_law 722 = .ok (.invokevirtual 70, 3) := by decide +kernel
theorem dL_law_725 : decode cL_law 725 = .ok (.aload_n 2, 1) := by decide +kernel
theorem dL_law_726 : decode cL_law 726 = .ok (.aload_n 0, 1) := by decide +kernel
theorem dL_law_727 : decode cL_law 727 = .ok (.iload_n 3, 1) := by decide +kernel
theorem dL_law_728 : decode cL_law 728 = .ok (.iconst 1, 1) := by decide +kernel
theorem dL_law_729 : decode cL_law 729 = .ok (.iadd, 1) := by decide +kernel
theorem dL_law_730 : decode cL_law 730 = .ok (.iaload, 1) := by decide +kernel
theorem dL_law_731 : decode cL_law 731 = .ok (.aload_n 0, 1) := by decide +kernel
theorem dL_law_732 : decode cL_law 732 = .ok (.iload_n 3, 1) := by decide +kernel
theorem dL_law_733 : decode cL_law 733 = .ok (.iconst 2, 1) := by decide +kernel
theorem dL_law_734 : decode cL_law 734 = .ok (.iadd, 1) := by decide +kernel
theorem dL_law_735 : decode cL_law 735 = .ok (.iaload, 1) := by decide +kernel
theorem dL_law_736 : decode cL_law 736 = .ok (.invokevirtual 73, 3) := by decide +kernel
theorem dL_law_739 : decode cL_law 739 = .ok (.if_icmp .eq 821, 3) := by decide +kernel
theorem dL_law_742 : decode cL_law 742 = .ok (.iconst 0, 1) := by decide +kernel
theorem dL_law_743 : decode cL_law 743 = .ok (.ireturn, 1) := by decide +kernel
theorem dL_law_744 : decode cL_law 744 = .ok (.aload_n 1, 1) := by decide +kernel
theorem dL_law_745 : decode cL_law 745 = .ok (.invokevirtual 74, 3) := by decide +kernel
theorem dL_law_748 : decode cL_law 748 = .ok (.aload_n 2, 1) := by decide +kernel
theorem dL_law_749 : decode cL_law 749 = .ok (.invokevirtual 78, 3) := by decide +kernel
theorem dL_law_752 : decode cL_law 752 = .ok (.if_icmp .eq 808, 3) := by decide +kernel
theorem dL_law_755 : decode cL_law 755 = .ok (.iconst 0, 1) := by decide +kernel
theorem dL_law_756 : decode cL_law 756 = .ok (.ireturn, 1) := by decide +kernel
theorem dL_law_757 : decode cL_law 757 = .ok (.aload_n 1, 1) := by decide +kernel
theorem dL_law_758 : decode cL_law 758 = .ok (.invokevirtual 79, 3) := by decide +kernel
theorem dL_law_761 : decode cL_law 761 = .ok (.aload_n 2, 1) := by decide +kernel
theorem dL_law_762 : decode cL_law 762 = .ok (.invokevirtual 82, 3) := by decide +kernel
theorem dL_law_765 : decode cL_law 765 = .ok (.if_icmp .eq 795, 3) := by decide +kernel
theorem dL_law_768 : decode cL_law 768 = .ok (.iconst 0, 1) := by decide +kernel
theorem dL_law_769 : decode cL_law 769 = .ok (.ireturn, 1) := by decide +kernel
theorem dL_law_770 : decode cL_law 770 = .ok (.aload_n 1, 1) := by decide +kernel
theorem dL_law_771 : decode cL_law 771 = .ok (.aload_n 0, 1) := by decide +kernel
theorem dL_law_772 : decode cL_law 772 = .ok (.iload_n 3, 1) := by decide +kernel
theorem dL_law_773 : decode cL_law 773 = .ok (.iconst 1, 1) := by decide +kernel
theorem dL_law_774 : decode cL_law 774 = .ok (.iadd, 1) := by decide +kernel
theorem dL_law_775 : decode cL_law 775 = .ok (.iaload, 1) := by decide +kernel
theorem dL_law_776 : decode cL_law 776 = .ok (.aload_n 0, 1) := by decide +kernel
theorem dL_law_777 : decode cL_law 777 = .ok (.iload_n 3, 1) := by decide +kernel
theorem dL_law_778 : decode cL_law 778 = .ok (.iconst 2, 1) := by decide +kernel
theorem dL_law_779 : decode cL_law 779 = .ok (.iadd, 1) := by decide +kernel
theorem dL_law_780 : decode cL_law 780 = .ok (.iaload, 1) := by decide +kernel
theorem dL_law_781 : decode cL_law 781 = .ok (.invokevirtual 83, 3) := by decide +kernel
theorem dL_law_784 : decode cL_law 784 = .ok (.aload_n 2, 1) := by decide +kernel
theorem dL_law_785 : decode cL_law 785 = .ok (.aload_n 0, 1) := by decide +kernel
theorem dL_law_786 : decode cL_law 786 = .ok (.iload_n 3, 1) := by decide +kernel
theorem dL_law_787 : decode cL_law 787 = .ok (.iconst 1, 1) := by decide +kernel
theorem dL_law_788 : decode cL_law 788 = .ok (.iadd, 1) := by decide +kernel
theorem dL_law_789 : decode cL_law 789 = .ok (.iaload, 1) := by decide +kernel
theorem dL_law_790 : decode cL_law 790 = .ok (.aload_n 0, 1) := by decide +kernel
theorem dL_law_791 : decode cL_law 791 = .ok (.iload_n 3, 1) := by decide +kernel
theorem dL_law_792 : decode cL_law 792 = .ok (.iconst 2, 1) := by decide +kernel
theorem dL_law_793 : decode cL_law 793 = .ok (.iadd, 1) := by decide +kernel
theorem dL_law_794 : decode cL_law 794 = .ok (.iaload, 1) := by decide +kernel
theorem dL_law_795 : decode cL_law 795 = .ok (.invokevirtual 86, 3) := by decide +kernel
theorem dL_law_798 : decode cL_law 798 = .ok (.if_icmp .eq 762, 3) := by decide +kernel
theorem dL_law_801 : decode cL_law 801 = .ok (.iconst 0, 1) := by decide +kernel
theorem dL_law_802 : decode cL_law 802 = .ok (.ireturn, 1) := by decide +kernel
theorem dL_law_803 : decode cL_law 803 = .ok (.aload_n 1, 1) := by decide +kernel
theorem dL_law_804 : decode cL_law 804 = .ok (.aload_n 0, 1) := by decide +kernel
theorem dL_law_805 : decode cL_law 805 = .ok (.iload_n 3, 1) := by decide +kernel
theorem dL_law_806 : decode cL_law 806 = .ok (.iconst 1, 1) := by decide +kernel
theorem dL_law_807 : decode cL_law 807 = .ok (.iadd, 1) := by decide +kernel
theorem dL_law_808 : decode cL_law 808 = .ok (.iaload, 1) := by decide +kernel
theorem dL_law_809 : decode cL_law 809 = .ok (.invokevirtual 87, 3) := by decide +kernel
theorem dL_law_812 : decode cL_law 812 = .ok (.aload_n 2, 1) := by decide +kernel
theorem dL_law_813 : decode cL_law 813 = .ok (.aload_n 0, 1) := by decide +kernel
theorem dL_law_814 : decode cL_law 814 = .ok (.iload_n 3, 1) := by decide +kernel
theorem dL_law_815 : decode cL_law 815 = .ok (.iconst 1, 1) := by decide +kernel
theorem dL_law_816 : decode cL_law 816 = .ok (.iadd, 1) := by decide +kernel
theorem dL_law_817 : decode cL_law 817 = .ok (.iaload, 1) := by decide +kernel
theorem dL_law_818 : decode cL_law 818 = .ok (.invokevirtual 90, 3) := by decide +kernel
theorem dL_law_821 : decode cL_law 821 = .ok (.if_icmp .eq 739, 3) := by decide +kernel
theorem dL_law_824 : decode cL_law 824 = .ok (.iconst 0, 1) := by decide +kernel
theorem dL_law_825 : decode cL_law 825 = .ok (.ireturn, 1) := by decide +kernel
theorem dL_law_826 : decode cL_law 826 = .ok (.aload_n 1, 1) := by decide +kernel
theorem dL_law_827 : decode cL_law 827 = .ok (.aload_n 0, 1) := by decide +kernel
theorem dL_law_828 : decode cL_law 828 = .ok (.iload_n 3, 1) := by decide +kernel
theorem dL_law_829 : decode cL_law 829 = .ok (.iconst 1, 1) := by decide +kernel
theorem dL_law_830 : decode cL_law 830 = .ok (.iadd, 1) := by decide +kernel
theorem dL_law_831 : decode cL_law 831 = .ok (.iaload, 1) := by decide +kernel
theorem dL_law_832 : decode cL_law 832 = .ok (.aload_n 0, 1) := by decide +kernel
theorem dL_law_833 : decode cL_law 833 = .ok (.iload_n 3, 1) := by decide +kernel
theorem dL_law_834 : decode cL_law 834 = .ok (.iconst 2, 1) := by decide +kernel
theorem dL_law_835 : decode cL_law 835 = .ok (.iadd, 1) := by decide +kernel
theorem dL_law_836 : decode cL_law 836 = .ok (.iaload, 1) := by decide +kernel
theorem dL_law_837 : decode cL_law 837 = .ok (.invokevirtual 91, 3) := by decide +kernel
theorem dL_law_840 : decode cL_law 840 = .ok (.aload_n 2, 1) := by decide +kernel
theorem dL_law_841 : decode cL_law 841 = .ok (.aload_n 0, 1) := by decide +kernel
theorem dL_law_842 : decode cL_law 842 = .ok (.iload_n 3, 1) := by decide +kernel
theorem dL_law_843 : decode cL_law 843 = .ok (.iconst 1, 1) := by decide +kernel
theorem dL_law_844 : decode cL_law 844 = .ok (.iadd, 1) := by decide +kernel
theorem dL_law_845 : decode cL_law 845 = .ok (.iaload, 1) := by decide +kernel
theorem dL_law_846 : decode cL_law 846 = .ok (.aload_n 0, 1) := by decide +kernel
theorem dL_law_847 : decode cL_law 847 = .ok (.iload_n 3, 1) := by decide +kernel
theorem dL_law_848 : decode cL_law 848 = .ok (.iconst 2, 1) := by decide +kernel
theorem dL_law_849 : decode cL_law 849 = .ok (.iadd, 1) := by decide +kernel
theorem dL_law_850 : decode cL_law 850 = .ok (.iaload, 1) := by decide +kernel
theorem dL_law_851 : decode cL_law 851 = .ok (.invokevirtual 94, 3) := by decide +kernel
theorem dL_law_854 : decode cL_law 854 = .ok (.if_icmp .eq 706, 3) := by decide +kernel
theorem dL_law_857 : decode cL_law 857 = .ok (.iconst 0, 1) := by decide +kernel
theorem dL_law_858 : decode cL_law 858 = .ok (.ireturn, 1) := by decide +kernel
theorem dL_law_859 : decode cL_law 859 = .ok (.aload_n 1, 1) := by decide +kernel
theorem dL_law_860 : decode cL_law 860 = .ok (.aload_n 0, 1) := by decide +kernel
theorem dL_law_861 : decode cL_law 861 = .ok (.iload_n 3, 1) := by decide +kernel
theorem dL_law_862 : decode cL_law 862 = .ok (.iconst 1, 1) := by decide +kernel
theorem dL_law_863 : decode cL_law 863 = .ok (.iadd, 1) := by decide +kernel
theorem dL_law_864 : decode cL_law 864 = .ok (.iaload, 1) := by decide +kernel
theorem dL_law_865 : decode cL_law 865 = .ok (.aload_n 0, 1) := by decide +kernel
theorem dL_law_866 : decode cL_law 866 = .ok (.iload_n 3, 1) := by decide +kernel
theorem dL_law_867 : decode cL_law 867 = .ok (.iconst 2, 1) := by decide +kernel
theorem dL_law_868 : decode cL_law 868 = .ok (.iadd, 1) := by decide +kernel
theorem dL_law_869 : decode cL_law 869 = .ok (.iaload, 1) := by decide +kernel
theorem dL_law_870 : decode cL_law 870 = .ok (.aload_n 0, 1) := by decide +kernel
theorem dL_law_871 : decode cL_law 871 = .ok (.iload_n 3, 1) := by decide +kernel
theorem dL_law_872 : decode cL_law 872 = .ok (.iconst 3, 1) := by decide +kernel
theorem dL_law_873 : decode cL_law 873 = .ok (.iadd, 1) := by decide +kernel
theorem dL_law_874 : decode cL_law 874 = .ok (.iaload, 1) := by decide +kernel
theorem dL_law_875 : decode cL_law 875 = .ok (.invokevirtual 95, 3) := by decide +kernel
theorem dL_law_878 : decode cL_law 878 = .ok (.aload_n 2, 1) := by decide +kernel
theorem dL_law_879 : decode cL_law 879 = .ok (.aload_n 0, 1) := by decide +kernel
theorem dL_law_880 : decode cL_law 880 = .ok (.iload_n 3, 1) := by decide +kernel
theorem dL_law_881 : decode cL_law 881 = .ok (.iconst 1, 1) := by decide +kernel
theorem dL_law_882 : decode cL_law 882 = .ok (.iadd, 1) := by decide +kernel
theorem dL_law_883 : decode cL_law 883 = .ok (.iaload, 1) := by decide +kernel
theorem dL_law_884 : decode cL_law 884 = .ok (.aload_n 0, 1) := by decide +kernel
theorem dL_law_885 : decode cL_law 885 = .ok (.iload_n 3, 1) := by decide +kernel
theorem dL_law_886 : decode cL_law 886 = .ok (.iconst 2, 1) := by decide +kernel
theorem dL_law_887 : decode cL_law 887 = .ok (.iadd, 1) := by decide +kernel
theorem dL_law_888 : decode cL_law 888 = .ok (.iaload, 1) := by decide +kernel
theorem dL_law_889 : decode cL_law 889 = .ok (.aload_n 0, 1) := by decide +kernel
theorem dL_law_890 : decode cL_law 890 = .ok (.iload_n 3, 1) := by decide +kernel
theorem dL_law_891 : decode cL_law 891 = .ok (.iconst 3, 1) := by decide +kernel
theorem dL_law_892 : decode cL_law 892 = .ok (.iadd, 1) := by decide +kernel
theorem dL_law_893 : decode cL_law 893 = .ok (.iaload, 1) := by decide +kernel
theorem dL_law_894 : decode cL_law 894 = .ok (.invokevirtual 98, 3) := by decide +kernel
theorem dL_law_897 : decode cL_law 897 = .ok (.if_icmp .eq 663, 3) := by decide +kernel
theorem dL_law_900 : decode cL_law 900 = .ok (.iconst 0, 1) := by decide +kernel
theorem dL_law_901 : decode cL_law 901 = .ok (.ireturn, 1) := by decide +kernel
theorem dL_law_902 : decode cL_law 902 = .ok (.aload_n 1, 1) := by decide +kernel
theorem dL_law_903 : decode cL_law 903 = .ok (.aload_n 0, 1) := by decide +kernel
theorem dL_law_904 : decode cL_law 904 = .ok (.iload_n 3, 1) := by decide +kernel
theorem dL_law_905 : decode cL_law 905 = .ok (.iconst 1, 1) := by decide +kernel
theorem dL_law_906 : decode cL_law 906 = .ok (.iadd, 1) := by decide +kernel
theorem dL_law_907 : decode cL_law 907 = .ok (.iaload, 1) := by decide +kernel
theorem dL_law_908 : decode cL_law 908 = .ok (.aload_n 0, 1) := by decide +kernel
theorem dL_law_909 : decode cL_law 909 = .ok (.iload_n 3, 1) := by decide +kernel
theorem dL_law_910 : decode cL_law 910 = .ok (.iconst 2, 1) := by decide +kernel
theorem dL_law_911 : decode cL_law 911 = .ok (.iadd, 1) := by decide +kernel
theorem dL_law_912 : decode cL_law 912 = .ok (.iaload, 1) := by decide +kernel
theorem dL_law_913 : decode cL_law 913 = .ok (.aload_n 0, 1) := by decide +kernel
theorem dL_law_914 : decode cL_law 914 = .ok (.iload_n 3, 1) := by decide +kernel
theorem dL_law_915 : decode cL_law 915 = .ok (.iconst 3, 1) := by decide +kernel
theorem dL_law_916 : decode cL_law 916 = .ok (.iadd, 1) := by decide +kernel
theorem dL_law_917 : decode cL_law 917 = .ok (.iaload, 1) := by decide +kernel
theorem dL_law_918 : decode cL_law 918 = .ok (.invokevirtual 99, 3) := by decide +kernel
theorem dL_law_921 : decode cL_law 921 = .ok (.aload_n 2, 1) := by decide +kernel
theorem dL_law_922 : decode cL_law 922 = .ok (.aload_n 0, 1) := by decide +kernel
theorem dL_law_923 : decode cL_law 923 = .ok (.iload_n 3, 1) := by decide +kernel
theorem dL_law_924 : decode cL_law 924 = .ok (.iconst 1, 1) := by decide +kernel
theorem dL_law_925 : decode cL_law 925 = .ok (.iadd, 1) := by decide +kernel
theorem dL_law_926 : decode cL_law 926 = .ok (.iaload, 1) := by decide +kernel
theorem dL_law_927 : decode cL_law 927 = .ok (.aload_n 0, 1) := by decide +kernel
theorem dL_law_928 : decode cL_law 928 = .ok (.iload_n 3, 1) := by decide +kernel
theorem dL_law_929 : decode cL_law 929 = .ok (.iconst 2, 1) := by decide +kernel
theorem dL_law_930 : decode cL_law 930 = .ok (.iadd, 1) := by decide +kernel
theorem dL_law_931 : decode cL_law 931 = .ok (.iaload, 1) := by decide +kernel
theorem dL_law_932 : decode cL_law 932 = .ok (.aload_n 0, 1) := by decide +kernel
theorem dL_law_933 : decode cL_law 933 = .ok (.iload_n 3, 1) := by decide +kernel
theorem dL_law_934 : decode cL_law 934 = .ok (.iconst 3, 1) := by decide +kernel
theorem dL_law_935 : decode cL_law 935 = .ok (.iadd, 1) := by decide +kernel
theorem dL_law_936 : decode cL_law 936 = .ok (.iaload, 1) := by decide +kernel
theorem dL_law_937 : decode cL_law 937 = .ok (.invokevirtual 102, 3) := by decide +kernel
theorem dL_law_940 : decode cL_law 940 = .ok (.if_icmp .eq 620, 3) := by decide +kernel
theorem dL_law_943 : decode cL_law 943 = .ok (.iconst 0, 1) := by decide +kernel
theorem dL_law_944 : decode cL_law 944 = .ok (.ireturn, 1) := by decide +kernel
theorem dL_law_945 : decode cL_law 945 = .ok (.aload_n 1, 1) := by decide +kernel
theorem dL_law_946 : decode cL_law 946 = .ok (.aload_n 0, 1) := by decide +kernel
theorem dL_law_947 : decode cL_law 947 = .ok (.iload_n 3, 1) := by decide +kernel
theorem dL_law_948 : decode cL_law 948 = .ok (.iconst 1, 1) := by decide +kernel
theorem dL_law_949 : decode cL_law 949 = .ok (.iadd, 1) := by decide +kernel
theorem dL_law_950 : decode cL_law 950 = .ok (.iaload, 1) := by decide +kernel
theorem dL_law_951 : decode cL_law 951 = .ok (.aload_n 0, 1) := by decide +kernel
theorem dL_law_952 : decode cL_law 952 = .ok (.iload_n 3, 1) := by decide +kernel
theorem dL_law_953 : decode cL_law 953 = .ok (.iconst 2, 1) := by decide +kernel
theorem dL_law_954 : decode cL_law 954 = .ok (.iadd, 1) := by decide +kernel
theorem dL_law_955 : decode cL_law 955 = .ok (.iaload, 1) := by decide +kernel
theorem dL_law_956 : decode cL_law 956 = .ok (.aload_n 0, 1) := by decide +kernel
theorem dL_law_957 : decode cL_law 957 = .ok (.iload_n 3, 1) := by decide +kernel
theorem dL_law_958 : decode cL_law 958 = .ok (.iconst 3, 1) := by decide +kernel
theorem dL_law_959 : decode cL_law 959 = .ok (.iadd, 1) := by decide +kernel
theorem dL_law_960 : decode cL_law 960 = .ok (.iaload, 1) := by decide +kernel
theorem dL_law_961 : decode cL_law 961 = .ok (.invokevirtual 103, 3) := by decide +kernel
theorem dL_law_964 : decode cL_law 964 = .ok (.aload_n 2, 1) := by decide +kernel
theorem dL_law_965 : decode cL_law 965 = .ok (.aload_n 0, 1) := by decide +kernel
theorem dL_law_966 : decode cL_law 966 = .ok (.iload_n 3, 1) := by decide +kernel
theorem dL_law_967 : decode cL_law 967 = .ok (.iconst 1, 1) := by decide +kernel
theorem dL_law_968 : decode cL_law 968 = .ok (.iadd, 1) := by decide +kernel
theorem dL_law_969 : decode cL_law 969 = .ok (.iaload, 1) := by decide +kernel
theorem dL_law_970 : decode cL_law 970 = .ok (.aload_n 0, 1) := by decide +kernel
theorem dL_law_971 : decode cL_law 971 = .ok (.iload_n 3, 1) := by decide +kernel
theorem dL_law_972 : decode cL_law 972 = .ok (.iconst 2, 1) := by decide +kernel
theorem dL_law_973 : decode cL_law 973 = .ok (.iadd, 1) := by decide +kernel
theorem dL_law_974 : decode cL_law 974 = .ok (.iaload, 1) := by decide +kernel
theorem dL_law_975 : decode cL_law 975 = .ok (.aload_n 0, 1) := by decide +kernel
theorem dL_law_976 : decode cL_law 976 = .ok (.iload_n 3, 1) := by decide +kernel
theorem dL_law_977 : decode cL_law 977 = .ok (.iconst 3, 1) := by decide +kernel
theorem dL_law_978 : decode cL_law 978 = .ok (.iadd, 1) := by decide +kernel
theorem dL_law_979 : decode cL_law 979 = .ok (.iaload, 1) := by decide +kernel
theorem dL_law_980 : decode cL_law 980 = .ok (.invokevirtual 106, 3) := by decide +kernel
theorem dL_law_983 : decode cL_law 983 = .ok (.if_icmp .eq 577, 3) := by decide +kernel
theorem dL_law_986 : decode cL_law 986 = .ok (.iconst 0, 1) := by decide +kernel
theorem dL_law_987 : decode cL_law 987 = .ok (.ireturn, 1) := by decide +kernel
theorem dL_law_988 : decode cL_law 988 = .ok (.aload_n 1, 1) := by decide +kernel
theorem dL_law_989 : decode cL_law 989 = .ok (.aload_n 0, 1) := by decide +kernel
theorem dL_law_990 : decode cL_law 990 = .ok (.iload_n 3, 1) := by decide +kernel
theorem dL_law_991 : decode cL_law 991 = .ok (.iconst 1, 1) := by decide +kernel
theorem dL_law_992 : decode cL_law 992 = .ok (.iadd, 1) := by decide +kernel
theorem dL_law_993 : decode cL_law 993 = .ok (.iaload, 1) := by decide +kernel
theorem dL_law_994 : decode cL_law 994 = .ok (.aload_n 0, 1) := by decide +kernel
theorem dL_law_995 : decode cL_law 995 = .ok (.iload_n 3, 1) := by decide +kernel
theorem dL_law_996 : decode cL_law 996 = .ok (.iconst 2, 1) := by decide +kernel
theorem dL_law_997 : decode cL_law 997 = .ok (.iadd, 1) := by decide +kernel
theorem dL_law_998 : decode cL_law 998 = .ok (.iaload, 1) := by decide +kernel
theorem dL_law_999 : decode cL_law 999 = .ok (.invokevirtual 107, 3) := by decide +kernel
theorem dL_law_1002 : decode cL_law 1002 = .ok (.aload_n 2, 1) := by decide +kernel
theorem dL_law_1003 : decode cL_law 1003 = .ok (.aload_n 0, 1) := by decide +kernel
theorem dL_law_1004 : decode cL_law 1004 = .ok (.iload_n 3, 1) := by decide +kernel
theorem dL_law_1005 : decode cL_law 1005 = .ok (.iconst 1, 1) := by decide +kernel
theorem dL_law_1006 : decode cL_law 1006 = .ok (.iadd, 1) := by decide +kernel
theorem dL_law_1007 : decode cL_law 1007 = .ok (.iaload, 1) := by decide +kernel
theorem dL_law_1008 : decode cL_law 1008 = .ok (.aload_n 0, 1) := by decide +kernel
theorem dL_law_1009 : decode cL_law 1009 = .ok (.iload_n 3, 1) := by decide +kernel
theorem dL_law_1010 : decode cL_law 1010 = .ok (.iconst 2, 1) := by decide +kernel
theorem dL_law_1011 : decode cL_law 1011 = .ok (.iadd, 1) := by decide +kernel
theorem dL_law_1012 : decode cL_law 1012 = .ok (.iaload, 1) := by decide +kernel
theorem dL_law_1013 : decode cL_law 1013 = .ok (.invokevirtual 110, 3) := by decide +kernel
theorem dL_law_1016 : decode cL_law 1016 = .ok (.if_icmp .eq 544, 3) := by decide +kernel
theorem dL_law_1019 : decode cL_law 1019 = .ok (.iconst 0, 1) := by decide +kernel
theorem dL_law_1020 : decode cL_law 1020 = .ok (.ireturn, 1) := by decide +kernel
theorem dL_law_1021 : decode cL_law 1021 = .ok (.aload_n 1, 1) := by decide +kernel
theorem dL_law_1022 : decode cL_law 1022 = .ok (.aload_n 0, 1) := by decide +kernel
theorem dL_law_1023 : decode cL_law 1023 = .ok (.iload_n 3, 1) := by decide +kernel
theorem dL_law_1024 : decode cL_law 1024 = .ok (.iconst 1, 1) := by decide +kernel
theorem dL_law_1025 : decode cL_law 1025 = .ok (.iadd, 1) := by decide +kernel
theorem dL_law_1026 : decode cL_law 1026 = .ok (.iaload, 1) := by decide +kernel
theorem dL_law_1027 : decode cL_law 1027 = .ok (.aload_n 0, 1) := by decide +kernel
theorem dL_law_1028 : decode cL_law 1028 = .ok (.iload_n 3, 1) := by decide +kernel
theorem dL_law_1029 : decode cL_law 1029 = .ok (.iconst 2, 1) := by decide +kernel
theorem dL_law_1030 : decode cL_law 1030 = .ok (.iadd, 1) := by decide +kernel
theorem dL_law_1031 : decode cL_law 1031 = .ok (.iaload, 1) := by decide +kernel
theorem dL_law_1032 : decode cL_law 1032 = .ok (.invokevirtual 111, 3) := by decide +kernel
theorem dL_law_1035 : decode cL_law 1035 = .ok (.aload_n 2, 1) := by decide +kernel
theorem dL_law_1036 : decode cL_law 1036 = .ok (.aload_n 0, 1) := by decide +kernel
theorem dL_law_1037 : decode cL_law 1037 = .ok (.iload_n 3, 1) := by decide +kernel
theorem dL_law_1038 : decode cL_law 1038 = .ok (.iconst 1, 1) := by decide +kernel
theorem dL_law_1039 : decode cL_law 1039 = .ok (.iadd, 1) := by decide +kernel
theorem dL_law_1040 : decode cL_law 1040 = .ok (.iaload, 1) := by decide +kernel
theorem dL_law_1041 : decode cL_law 1041 = .ok (.aload_n 0, 1) := by decide +kernel
theorem dL_law_1042 : decode cL_law 1042 = .ok (.iload_n 3, 1) := by decide +kernel
theorem dL_law_1043 : decode cL_law 1043 = .ok (.iconst 2, 1) := by decide +kernel
theorem dL_law_1044 : decode cL_law 1044 = .ok (.iadd, 1) := by decide +kernel
theorem dL_law_1045 : decode cL_law 1045 = .ok (.iaload, 1) := by decide +kernel
theorem dL_law_1046 : decode cL_law 1046 = .ok (.invokevirtual 114, 3) := by decide +kernel
theorem dL_law_1049 : decode cL_law 1049 = .ok (.if_icmp .eq 511, 3) := by decide +kernel
theorem dL_law_1052 : decode cL_law 1052 = .ok (.iconst 0, 1) := by decide +kernel
theorem dL_law_1053 : decode cL_law 1053 = .ok (.ireturn, 1) := by decide +kernel
theorem dL_law_1054 : decode cL_law 1054 = .ok (.aload_n 1, 1) := by decide +kernel
theorem dL_law_1055 : decode cL_law 1055 = .ok (.aload_n 0, 1) := by decide +kernel
theorem dL_law_1056 : decode cL_law 1056 = .ok (.iload_n 3, 1) := by decide +kernel
theorem dL_law_1057 : decode cL_law 1057 = .ok (.iconst 1, 1) := by decide +kernel
theorem dL_law_1058 : decode cL_law 1058 = .ok (.iadd, 1) := by decide +kernel
theorem dL_law_1059 : decode cL_law 1059 = .ok (.iaload, 1) := by decide +kernel
theorem dL_law_1060 : decode cL_law 1060 = .ok (.aload_n 0, 1) := by decide +kernel
theorem dL_law_1061 : decode cL_law 1061 = .ok (.iload_n 3, 1) := by decide +kernel
theorem dL_law_1062 : decode cL_law 1062 = .ok (.iconst 2, 1) := by decide +kernel
theorem dL_law_1063 : decode cL_law 1063 = .ok (.iadd, 1) := by decide +kernel
theorem dL_law_1064 : decode cL_law 1064 = .ok (.iaload, 1) := by decide +kernel
theorem dL_law_1065 : decode cL_law 1065 = .ok (.aload_n 0, 1) := by decide +kernel
theorem dL_law_1066 : decode cL_law 1066 = .ok (.iload_n 3, 1) := by decide +kernel
theorem dL_law_1067 : decode cL_law 1067 = .ok (.iconst 3, 1) := by decide +kernel
theorem dL_law_1068 : decode cL_law 1068 = .ok (.iadd, 1) := by decide +kernel
theorem dL_law_1069 : decode cL_law 1069 = .ok (.iaload, 1) := by decide +kernel
theorem dL_law_1070 : decode cL_law 1070 = .ok (.invokevirtual 115, 3) := by decide +kernel
theorem dL_law_1073 : decode cL_law 1073 = .ok (.aload_n 2, 1) := by decide +kernel
theorem dL_law_1074 : decode cL_law 1074 = .ok (.aload_n 0, 1) := by decide +kernel
theorem dL_law_1075 : decode cL_law 1075 = .ok (.iload_n 3, 1) := by decide +kernel
theorem dL_law_1076 : decode cL_law 1076 = .ok (.iconst 1, 1) := by decide +kernel
theorem dL_law_1077 : decode cL_law 1077 = .ok (.iadd, 1) := by decide +kernel
theorem dL_law_1078 : decode cL_law 1078 = .ok (.iaload, 1) := by decide +kernel
theorem dL_law_1079 : decode cL_law 1079 = .ok (.aload_n 0, 1) := by decide +kernel
theorem dL_law_1080 : decode cL_law 1080 = .ok (.iload_n 3, 1) := by decide +kernel
theorem dL_law_1081 : decode cL_law 1081 = .ok (.iconst 2, 1) := by decide +kernel
theorem dL_law_1082 : decode cL_law 1082 = .ok (.iadd, 1) := by decide +kernel
theorem dL_law_1083 : decode cL_law 1083 = .ok (.iaload, 1) := by decide +kernel
theorem dL_law_1084 : decode cL_law 1084 = .ok (.aload_n 0, 1) := by decide +kernel
theorem dL_law_1085 : decode cL_law 1085 = .ok (.iload_n 3, 1) := by decide +kernel
theorem dL_law_1086 : decode cL_law 1086 = .ok (.iconst 3, 1) := by decide +kernel
theorem dL_law_1087 : decode cL_law 1087 = .ok (.iadd, 1) := by decide +kernel
theorem dL_law_1088 : decode cL_law 1088 = .ok (.iaload, 1) := by decide +kernel
theorem dL_law_1089 : decode cL_law 1089 = .ok (.invokevirtual 118, 3) := by decide +kernel
theorem dL_law_1092 : decode cL_law 1092 = .ok (.if_icmp .eq 468, 3) := by decide +kernel
theorem dL_law_1095 : decode cL_law 1095 = .ok (.iconst 0, 1) := by decide +kernel
theorem dL_law_1096 : decode cL_law 1096 = .ok (.ireturn, 1) := by decide +kernel
theorem dL_law_1097 : decode cL_law 1097 = .ok (.aload_n 1, 1) := by decide +kernel
theorem dL_law_1098 : decode cL_law 1098 = .ok (.aload_n 0, 1) := by decide +kernel
theorem dL_law_1099 : decode cL_law 1099 = .ok (.iload_n 3, 1) := by decide +kernel
theorem dL_law_1100 : decode cL_law 1100 = .ok (.iconst 1, 1) := by decide +kernel
theorem dL_law_1101 : decode cL_law 1101 = .ok (.iadd, 1) := by decide +kernel
theorem dL_law_1102 : decode cL_law 1102 = .ok (.iaload, 1) := by decide +kernel
theorem dL_law_1103 : decode cL_law 1103 = .ok (.invokevirtual 119, 3) := by decide +kernel
theorem dL_law_1106 : decode cL_law 1106 = .ok (.aload_n 2, 1) := by decide +kernel
theorem dL_law_1107 : decode cL_law 1107 = .ok (.aload_n 0, 1) := by decide +kernel
theorem dL_law_1108 : decode cL_law 1108 = .ok (.iload_n 3, 1) := by decide +kernel
theorem dL_law_1109 : decode cL_law 1109 = .ok (.iconst 1, 1) := by decide +kernel
theorem dL_law_1110 : decode cL_law 1110 = .ok (.iadd, 1) := by decide +kernel
theorem dL_law_1111 : decode cL_law 1111 = .ok (.iaload, 1) := by decide +kernel
theorem dL_law_1112 : decode cL_law 1112 = .ok (.invokevirtual 122, 3) := by decide +kernel
theorem dL_law_1115 : decode cL_law 1115 = .ok (.if_icmp .eq 445, 3) := by decide +kernel
theorem dL_law_1118 : decode cL_law 1118 = .ok (.iconst 0, 1) := by decide +kernel
theorem dL_law_1119 : decode cL_law 1119 = .ok (.ireturn, 1) := by decide +kernel
theorem dL_law_1120 : decode cL_law 1120 = .ok (.aload_n 1, 1) := by decide +kernel
theorem dL_law_1121 : decode cL_law 1121 = .ok (.invokevirtual 123, 3) := by decide +kernel
theorem dL_law_1124 : decode cL_law 1124 = .ok (.aload_n 2, 1) := by decide +kernel
theorem dL_law_1125 : decode cL_law 1125 = .ok (.invokevirtual 126, 3) := by decide +kernel
theorem dL_law_1128 : decode cL_law 1128 = .ok (.if_icmp .eq 432, 3) := by decide +kernel
theorem dL_law_1131 : decode cL_law 1131 = .ok (.iconst 0, 1) := by decide +kernel
theorem dL_law_1132 : decode cL_law 1132 = .ok (.ireturn, 1) := by decide +kernel
theorem dL_law_1133 : decode cL_law 1133 = .ok (.aload_n 1, 1) := by decide +kernel
theorem dL_law_1134 : decode cL_law 1134 = .ok (.aload_n 0, 1) := by decide +kernel
theorem dL_law_1135 : decode cL_law 1135 = .ok (.iload_n 3, 1) := by decide +kernel
theorem dL_law_1136 : decode cL_law 1136 = .ok (.iconst 1, 1) := by decide +kernel
theorem dL_law_1137 : decode cL_law 1137 = .ok (.iadd, 1) := by decide +kernel
theorem dL_law_1138 : decode cL_law 1138 = .ok (.iaload, 1) := by decide +kernel
theorem dL_law_1139 : decode cL_law 1139 = .ok (.aload_n 0, 1) := by decide +kernel
theorem dL_law_1140 : decode cL_law 1140 = .ok (.iload_n 3, 1) := by decide +kernel
theorem dL_law_1141 : decode cL_law 1141 = .ok (.iconst 2, 1) := by decide +kernel
theorem dL_law_1142 : decode cL_law 1142 = .ok (.iadd, 1) := by decide +kernel
theorem dL_law_1143 : decode cL_law 1143 = .ok (.iaload, 1) := by decide +kernel
theorem dL_law_1144 : decode cL_law 1144 = .ok (.invokevirtual 127, 3) := by decide +kernel
theorem dL_law_1147 : decode cL_law 1147 = .ok (.aload_n 2, 1) := by decide +kernel
theorem dL_law_1148 : decode cL_law 1148 = .ok (.aload_n 0, 1) := by decide +kernel
theorem dL_law_1149 : decode cL_law 1149 = .ok (.iload_n 3, 1) := by decide +kernel
theorem dL_law_1150 : decode cL_law 1150 = .ok (.iconst 1, 1) := by decide +kernel
theorem dL_law_1151 : decode cL_law 1151 = .ok (.iadd, 1) := by decide +kernel
theorem dL_law_1152 : decode cL_law 1152 = .ok (.iaload, 1) := by decide +kernel
theorem dL_law_1153 : decode cL_law 1153 = .ok (.aload_n 0, 1) := by decide +kernel
theorem dL_law_1154 : decode cL_law 1154 = .ok (.iload_n 3, 1) := by decide +kernel
theorem dL_law_1155 : decode cL_law 1155 = .ok (.iconst 2, 1) := by decide +kernel
theorem dL_law_1156 : decode cL_law 1156 = .ok (.iadd, 1) := by decide +kernel
theorem dL_law_1157 : decode cL_law 1157 = .ok (.iaload, 1) := by decide +kernel
theorem dL_law_1158 : decode cL_law 1158 = .ok (.invokevirtual 130, 3) := by decide +kernel
theorem dL_law_1161 : decode cL_law 1161 = .ok (.if_icmp .eq 399, 3) := by decide +kernel
theorem dL_law_1164 : decode cL_law 1164 = .ok (.iconst 0, 1) := by decide +kernel
theorem dL_law_1165 : decode cL_law 1165 = .ok (.ireturn, 1) := by decide +kernel
theorem dL_law_1166 : decode cL_law 1166 = .ok (.aload_n 1, 1) := by decide +kernel
theorem dL_law_1167 : decode cL_law 1167 = .ok (.aload_n 0, 1) := by decide +kernel
theorem dL_law_1168 : decode cL_law 1168 = .ok (.iload_n 3, 1) := by decide +kernel
theorem dL_law_1169 : decode cL_law 1169 = .ok (.iconst 1, 1) := by decide +kernel
theorem dL_law_1170 : decode cL_law 1170 = .ok (.iadd, 1) := by decide +kernel
theorem dL_law_1171 : decode cL_law 1171 = .ok (.iaload, 1) := by decide +kernel
theorem dL_law_1172 : decode cL_law 1172 = .ok (.invokevirtual 131, 3) := by decide +kernel
theorem dL_law_1175 : decode cL_law 1175 = .ok (.aload_n 2, 1) := by decide +kernel
theorem dL_law_1176 : decode cL_law 1176 = .ok (.aload_n 0, 1) := by decide +kernel
theorem dL_law_1177 : decode cL_law 1177 = .ok (.iload_n 3, 1) := by decide +kernel
theorem dL_law_1178 : decode cL_law 1178 = .ok (.iconst 1, 1) := by decide +kernel
theorem dL_law_1179 : decode cL_law 1179 = .ok (.iadd, 1) := by decide +kernel
theorem dL_law_1180 : decode cL_law 1180 = .ok (.iaload, 1) := by decide +kernel
theorem dL_law_1181 : decode cL_law 1181 = .ok (.invokevirtual 134, 3) := by decide +kernel
theorem dL_law_1184 : decode cL_law 1184 = .ok (.if_icmp .eq 376, 3) := by decide +kernel
theorem dL_law_1187 : decode cL_law 1187 = .ok (.iconst 0, 1) := by decide +kernel
theorem dL_law_1188 : decode cL_law 1188 = .ok (.ireturn, 1) := by decide +kernel
theorem dL_law_1189 : decode cL_law 1189 = .ok (.aload_n 1, 1) := by decide +kernel
theorem dL_law_1190 : decode cL_law 1190 = .ok (.aload_n 0, 1) := by decide +kernel
theorem dL_law_1191 : decode cL_law 1191 = .ok (.iload_n 3, 1) := by decide +kernel
theorem dL_law_1192 : decode cL_law 1192 = .ok (.iconst 1, 1) := by decide +kernel
theorem dL_law_1193 : decode cL_law 1193 = .ok (.iadd, 1) := by decide +kernel
theorem dL_law_1194 : decode cL_law 1194 = .ok (.iaload, 1) := by decide +kernel
theorem dL_law_1195 : decode cL_law 1195 = .ok (.aload_n 0, 1) := by decide +kernel
theorem dL_law_1196 : decode cL_law 1196 = .ok (.iload_n 3, 1) := by decide +kernel
theorem dL_law_1197 : decode cL_law 1197 = .ok (.iconst 2, 1) := by decide +kernel
theorem dL_law_1198 : decode cL_law 1198 = .ok (.iadd, 1) := by decide +kernel
theorem dL_law_1199 : decode cL_law 1199 = .ok (.iaload, 1) := by decide +kernel
theorem dL_law_1200 : decode cL_law 1200 = .ok (.invokevirtual 135, 3) := by decide +kernel
theorem dL_law_1203 : decode cL_law 1203 = .ok (.aload_n 2, 1) := by decide +kernel
theorem dL_law_1204 : decode cL_law 1204 = .ok (.aload_n 0, 1) := by decide +kernel
theorem dL_law_1205 : decode cL_law 1205 = .ok (.iload_n 3, 1) := by decide +kernel
theorem dL_law_1206 : decode cL_law 1206 = .ok (.iconst 1, 1) := by decide +kernel
theorem dL_law_1207 : decode cL_law 1207 = .ok (.iadd, 1) := by decide +kernel
theorem dL_law_1208 : decode cL_law 1208 = .ok (.iaload, 1) := by decide +kernel
theorem dL_law_1209 : decode cL_law 1209 = .ok (.aload_n 0, 1) := by decide +kernel
theorem dL_law_1210 : decode cL_law 1210 = .ok (.iload_n 3, 1) := by decide +kernel
theorem dL_law_1211 : decode cL_law 1211 = .ok (.iconst 2, 1) := by decide +kernel
theorem dL_law_1212 : decode cL_law 1212 = .ok (.iadd, 1) := by decide +kernel
theorem dL_law_1213 : decode cL_law 1213 = .ok (.iaload, 1) := by decide +kernel
theorem dL_law_1214 : decode cL_law 1214 = .ok (.invokevirtual 138, 3) := by decide +kernel
theorem dL_law_1217 : decode cL_law 1217 = .ok (.if_icmp .eq 343, 3) := by decide +kernel
theorem dL_law_1220 : decode cL_law 1220 = .ok (.iconst 0, 1) := by decide +kernel
theorem dL_law_1221 : decode cL_law 1221 = .ok (.ireturn, 1) := by decide +kernel
theorem dL_law_1222 : decode cL_law 1222 = .ok (.aload_n 1, 1) := by decide +kernel
theorem dL_law_1223 : decode cL_law 1223 = .ok (.aload_n 0, 1) := by decide +kernel
theorem dL_law_1224 : decode cL_law 1224 = .ok (.iload_n 3, 1) := by decide +kernel
theorem dL_law_1225 : decode cL_law 1225 = .ok (.iconst 1, 1) := by decide +kernel
theorem dL_law_1226 : decode cL_law 1226 = .ok (.iadd, 1) := by decide +kernel
theorem dL_law_1227 : decode cL_law 1227 = .ok (.iaload, 1) := by decide +kernel
theorem dL_law_1228 : decode cL_law 1228 = .ok (.aload_n 0, 1) := by decide +kernel
theorem dL_law_1229 : decode cL_law 1229 = .ok (.iload_n 3, 1) := by decide +kernel
theorem dL_law_1230 : decode cL_law 1230 = .ok (.iconst 2, 1) := by decide +kernel
theorem dL_law_1231 : decode cL_law 1231 = .ok (.iadd, 1) := by decide +kernel
theorem dL_law_1232 : decode cL_law 1232 = .ok (.iaload, 1) := by decide +kernel
theorem dL_law_1233 : decode cL_law 1233 = .ok (.aload_n 0, 1) := by decide +kernel
theorem dL_law_1234 : decode cL_law 1234 = .ok (.iload_n 3, 1) := by decide +kernel
theorem dL_law_1235 : decode cL_law 1235 = .ok (.iconst 3, 1) := by decide +kernel
theorem dL_law_1236 : decode cL_law 1236 = .ok (.iadd, 1) := by decide +kernel
theorem dL_law_1237 : decode cL_law 1237 = .ok (.iaload, 1) := by decide +kernel
theorem dL_law_1238 : decode cL_law 1238 = .ok (.invokevirtual 139, 3) := by decide +kernel
theorem dL_law_1241 : decode cL_law 1241 = .ok (.aload_n 2, 1) := by decide +kernel
theorem dL_law_1242 : decode cL_law 1242 = .ok (.aload_n 0, 1) := by decide +kernel
theorem dL_law_1243 : decode cL_law 1243 = .ok (.iload_n 3, 1) := by decide +kernel
theorem dL_law_1244 : decode cL_law 1244 = .ok (.iconst 1, 1) := by decide +kernel
theorem dL_law_1245 : decode cL_law 1245 = .ok (.iadd, 1) := by decide +kernel
theorem dL_law_1246 : decode cL_law 1246 = .ok (.iaload, 1) := by decide +kernel
theorem dL_law_1247 : decode cL_law 1247 = .ok (.aload_n 0, 1) := by decide +kernel
theorem dL_law_1248 : decode cL_law 1248 = .ok (.iload_n 3, 1) := by decide +kernel
theorem dL_law_1249 : decode cL_law 1249 = .ok (.iconst 2, 1) := by decide +kernel
theorem dL_law_1250 : decode cL_law 1250 = .ok (.iadd, 1) := by decide +kernel
theorem dL_law_1251 : decode cL_law 1251 = .ok (.iaload, 1) := by decide +kernel
theorem dL_law_1252 : decode cL_law 1252 = .ok (.aload_n 0, 1) := by decide +kernel
theorem dL_law_1253 : decode cL_law 1253 = .ok (.iload_n 3, 1) := by decide +kernel
theorem dL_law_1254 : decode cL_law 1254 = .ok (.iconst 3, 1) := by decide +kernel
theorem dL_law_1255 : decode cL_law 1255 = .ok (.iadd, 1) := by decide +kernel
theorem dL_law_1256 : decode cL_law 1256 = .ok (.iaload, 1) := by decide +kernel
theorem dL_law_1257 : decode cL_law 1257 = .ok (.invokevirtual 142, 3) := by decide +kernel
theorem dL_law_1260 : decode cL_law 1260 = .ok (.if_icmp .eq 300, 3) := by decide +kernel
theorem dL_law_1263 : decode cL_law 1263 = .ok (.iconst 0, 1) := by decide +kernel
theorem dL_law_1264 : decode cL_law 1264 = .ok (.ireturn, 1) := by decide +kernel
theorem dL_law_1265 : decode cL_law 1265 = .ok (.aload_n 1, 1) := by decide +kernel
theorem dL_law_1266 : decode cL_law 1266 = .ok (.invokevirtual 143, 3) := by decide +kernel
theorem dL_law_1269 : decode cL_law 1269 = .ok (.aload_n 2, 1) := by decide +kernel
theorem dL_law_1270 : decode cL_law 1270 = .ok (.invokevirtual 146, 3) := by decide +kernel
theorem dL_law_1273 : decode cL_law 1273 = .ok (.if_icmp .eq 287, 3) := by decide +kernel
theorem dL_law_1276 : decode cL_law 1276 = .ok (.iconst 0, 1) := by decide +kernel
theorem dL_law_1277 : decode cL_law 1277 = .ok (.ireturn, 1) := by decide +kernel
theorem dL_law_1278 : decode cL_law 1278 = .ok (.aload_n 1, 1) := by decide +kernel
theorem dL_law_1279 : decode cL_law 1279 = .ok (.invokevirtual 147, 3) := by decide +kernel
theorem dL_law_1282 : decode cL_law 1282 = .ok (.aload_n 2, 1) := by decide +kernel
theorem dL_law_1283 : decode cL_law 1283 = .ok (.invokevirtual 150, 3) := by decide +kernel
theorem dL_law_1286 : decode cL_law 1286 = .ok (.if_icmp .eq 274, 3) := by decide +kernel
theorem dL_law_1289 : decode cL_law 1289 = .ok (.iconst 0, 1) := by decide +kernel
theorem dL_law_1290 : decode cL_law 1290 = .ok (.ireturn, 1) := by decide +kernel
theorem dL_law_1291 : decode cL_law 1291 = .ok (.aload_n 1, 1) := by decide +kernel
theorem dL_law_1292 : decode cL_law 1292 = .ok (.invokevirtual 151, 3) := by decide +kernel
theorem dL_law_1295 : decode cL_law 1295 = .ok (.aload_n 2, 1) := by decide +kernel
theorem dL_law_1296 : decode cL_law 1296 = .ok (.invokevirtual 154, 3) := by decide +kernel
theorem dL_law_1299 : decode cL_law 1299 = .ok (.if_icmp .eq 261, 3) := by decide +kernel
theorem dL_law_1302 : decode cL_law 1302 = .ok (.iconst 0, 1) := by decide +kernel
theorem dL_law_1303 : decode cL_law 1303 = .ok (.ireturn, 1) := by decide +kernel
theorem dL_law_1304 : decode cL_law 1304 = .ok (.aload_n 1, 1) := by decide +kernel
theorem dL_law_1305 : decode cL_law 1305 = .ok (.aload_n 0, 1) := by decide +kernel
theorem dL_law_1306 : decode cL_law 1306 = .ok (.iload_n 3, 1) := by decide +kernel
theorem dL_law_1307 : decode cL_law 1307 = .ok (.iconst 1, 1) := by decide +kernel
theorem dL_law_1308 : decode cL_law 1308 = .ok (.iadd, 1) := by decide +kernel
theorem dL_law_1309 : decode cL_law 1309 = .ok (.iaload, 1) := by decide +kernel
theorem dL_law_1310 : decode cL_law 1310 = .ok (.invokevirtual 155, 3) := by decide +kernel
theorem dL_law_1313 : decode cL_law 1313 = .ok (.aload_n 2, 1) := by decide +kernel
theorem dL_law_1314 : decode cL_law 1314 = .ok (.aload_n 0, 1) := by decide +kernel
theorem dL_law_1315 : decode cL_law 1315 = .ok (.iload_n 3, 1) := by decide +kernel
theorem dL_law_1316 : decode cL_law 1316 = .ok (.iconst 1, 1) := by decide +kernel
theorem dL_law_1317 : decode cL_law 1317 = .ok (.iadd, 1) := by decide +kernel
theorem dL_law_1318 : decode cL_law 1318 = .ok (.iaload, 1) := by decide +kernel
theorem dL_law_1319 : decode cL_law 1319 = .ok (.invokevirtual 158, 3) := by decide +kernel
theorem dL_law_1322 : decode cL_law 1322 = .ok (.if_icmp .eq 238, 3) := by decide +kernel
theorem dL_law_1325 : decode cL_law 1325 = .ok (.iconst 0, 1) := by decide +kernel
theorem dL_law_1326 : decode cL_law 1326 = .ok (.ireturn, 1) := by decide +kernel
theorem dL_law_1327 : decode cL_law 1327 = .ok (.aload_n 1, 1) := by decide +kernel
theorem dL_law_1328 : decode cL_law 1328 = .ok (.invokevirtual 159, 3) := by decide +kernel
theorem dL_law_1331 : decode cL_law 1331 = .ok (.aload_n 2, 1) := by decide +kernel
theorem dL_law_1332 : decode cL_law 1332 = .ok (.invokevirtual 162, 3) := by decide +kernel
theorem dL_law_1335 : decode cL_law 1335 = .ok (.if_icmp .eq 225, 3) := by decide +kernel
theorem dL_law_1338 : decode cL_law 1338 = .ok (.iconst 0, 1) := by decide +kernel
theorem dL_law_1339 : decode cL_law 1339 = .ok (.ireturn, 1) := by decide +kernel
theorem dL_law_1340 : decode cL_law 1340 = .ok (.aload_n 1, 1) := by decide +kernel
theorem dL_law_1341 : decode cL_law 1341 = .ok (.invokevirtual 163, 3) := by decide +kernel
theorem dL_law_1344 : decode cL_law 1344 = .ok (.aload_n 2, 1) := by decide +kernel
theorem dL_law_1345 : decode cL_law 1345 = .ok (.invokevirtual 166, 3) := by decide +kernel
theorem dL_law_1348 : decode cL_law 1348 = .ok (.if_icmp .eq 212, 3) := by decide +kernel
theorem dL_law_1351 : decode cL_law 1351 = .ok (.iconst 0, 1) := by decide +kernel
theorem dL_law_1352 : decode cL_law 1352 = .ok (.ireturn, 1) := by decide +kernel
theorem dL_law_1353 : decode cL_law 1353 = .ok (.aload_n 1, 1) := by decide +kernel
theorem dL_law_1354 : decode cL_law 1354 = .ok (.aload_n 0, 1) := by decide +kernel
theorem dL_law_1355 : decode cL_law 1355 = .ok (.iload_n 3, 1) := by decide +kernel
theorem dL_law_1356 : decode cL_law 1356 = .ok (.iconst 1, 1) := by decide +kernel
theorem dL_law_1357 : decode cL_law 1357 = .ok (.iadd, 1) := by decide +kernel
theorem dL_law_1358 : decode cL_law 1358 = .ok (.iaload, 1) := by decide +kernel
theorem dL_law_1359 : decode cL_law 1359 = .ok (.invokevirtual 167, 3) := by decide +kernel
theorem dL_law_1362 : decode cL_law 1362 = .ok (.aload_n 2, 1) := by decide +kernel
theorem dL_law_1363 : decode cL_law 1363 = .ok (.aload_n 0, 1) := by decide +kernel
theorem dL_law_1364 : decode cL_law 1364 = .ok (.iload_n 3, 1) := by decide +kernel
theorem dL_law_1365 : decode cL_law 1365 = .ok (.iconst 1, 1) := by decide +kernel
theorem dL_law_1366 : decode cL_law 1366 = .ok (.iadd, 1) := by decide +kernel
theorem dL_law_1367 : decode cL_law 1367 = .ok (.iaload, 1) := by decide +kernel
theorem dL_law_1368 : decode cL_law 1368 = .ok (.invokevirtual 170, 3) := by decide +kernel
theorem dL_law_1371 : decode cL_law 1371 = .ok (.if_icmp .eq 189, 3) := by decide +kernel
theorem dL_law_1374 : decode cL_law 1374 = .ok (.iconst 0, 1) := by decide +kernel
theorem dL_law_1375 : decode cL_law 1375 = .ok (.ireturn, 1) := by decide +kernel
theorem dL_law_1376 : decode cL_law 1376 = .ok (.aload_n 1, 1) := by decide +kernel
theorem dL_law_1377 : decode cL_law 1377 = .ok (.aload_n 0, 1) := by decide +kernel
theorem dL_law_1378 : decode cL_law 1378 = .ok (.iload_n 3, 1) := by decide +kernel
theorem dL_law_1379 : decode cL_law 1379 = .ok (.iconst 1, 1) := by decide +kernel
theorem dL_law_1380 : decode cL_law 1380 = .ok (.iadd, 1) := by decide +kernel
theorem dL_law_1381 : decode cL_law 1381 = .ok (.iaload, 1) := by decide +kernel
theorem dL_law_1382 : decode cL_law 1382 = .ok (.aload_n 0, 1) := by decide +kernel
theorem dL_law_1383 : decode cL_law 1383 = .ok (.iload_n 3, 1) := by decide +kernel
theorem dL_law_1384 : decode cL_law 1384 = .ok (.iconst 2, 1) := by decide +kernel
theorem dL_law_1385 : decode cL_law 1385 = .ok (.iadd, 1) := by decide +kernel
theorem dL_law_1386 : decode cL_law 1386 = .ok (.iaload, 1) := by decide +kernel
theorem dL_law_1387 : decode cL_law 1387 = .ok (.invokevirtual 171, 3) := by decide +kernel
theorem dL_law_1390 : decode cL_law 1390 = .ok (.aload_n 2, 1) := by decide +kernel
theorem dL_law_1391 : decode cL_law 1391 = .ok (.aload_n 0, 1) := by decide +kernel
theorem dL_law_1392 : decode cL_law 1392 = .ok (.iload_n 3, 1) := by decide +kernel
theorem dL_law_1393 : decode cL_law 1393 = .ok (.iconst 1, 1) := by decide +kernel
theorem dL_law_1394 : decode cL_law 1394 = .ok (.iadd, 1) := by decide +kernel
theorem dL_law_1395 : decode cL_law 1395 = .ok (.iaload, 1) := by decide +kernel
theorem dL_law_1396 : decode cL_law 1396 = .ok (.aload_n 0, 1) := by decide +kernel
theorem dL_law_1397 : decode cL_law 1397 = .ok (.iload_n 3, 1) := by decide +kernel
theorem dL_law_1398 : decode cL_law 1398 = .ok (.iconst 2, 1) := by decide +kernel
theorem dL_law_1399 : decode cL_law 1399 = .ok (.iadd, 1) := by decide +kernel
theorem dL_law_1400 : decode cL_law 1400 = .ok (.iaload, 1) := by decide +kernel
theorem dL_law_1401 : decode cL_law 1401 = .ok (.invokevirtual 174, 3) := by decide +kernel
theorem dL_law_1404 : decode cL_law 1404 = .ok (.if_icmp .eq 156, 3) := by decide +kernel
theorem dL_law_1407 : decode cL_law 1407 = .ok (.iconst 0, 1) := by decide +kernel
theorem dL_law_1408 : decode cL_law 1408 = .ok (.ireturn, 1) := by decide +kernel
theorem dL_law_1409 : decode cL_law 1409 = .ok (.aload_n 1, 1) := by decide +kernel
theorem dL_law_1410 : decode cL_law 1410 = .ok (.aload_n 0, 1) := by decide +kernel
theorem dL_law_1411 : decode cL_law 1411 = .ok (.iload_n 3, 1) := by decide +kernel
theorem dL_law_1412 : decode cL_law 1412 = .ok (.iconst 1, 1) := by decide +kernel
theorem dL_law_1413 : decode cL_law 1413 = .ok (.iadd, 1) := by decide +kernel
theorem dL_law_1414 : decode cL_law 1414 = .ok (.iaload, 1) := by decide +kernel
theorem dL_law_1415 : decode cL_law 1415 = .ok (.aload_n 0, 1) := by decide +kernel
theorem dL_law_1416 : decode cL_law 1416 = .ok (.iload_n 3, 1) := by decide +kernel
theorem dL_law_1417 : decode cL_law 1417 = .ok (.iconst 2, 1) := by decide +kernel
theorem dL_law_1418 : decode cL_law 1418 = .ok (.iadd, 1) := by decide +kernel
theorem dL_law_1419 : decode cL_law 1419 = .ok (.iaload, 1) := by decide +kernel
theorem dL_law_1420 : decode cL_law 1420 = .ok (.aload_n 0, 1) := by decide +kernel
theorem dL_law_1421 : decode cL_law 1421 = .ok (.iload_n 3, 1) := by decide +kernel
theorem dL_law_1422 : decode cL_law 1422 = .ok (.iconst 3, 1) := by decide +kernel
theorem dL_law_1423 : decode cL_law 1423 = .ok (.iadd, 1) := by decide +kernel
theorem dL_law_1424 : decode cL_law 1424 = .ok (.iaload, 1) := by decide +kernel
theorem dL_law_1425 : decode cL_law 1425 = .ok (.invokevirtual 175, 3) := by decide +kernel
theorem dL_law_1428 : decode cL_law 1428 = .ok (.aload_n 2, 1) := by decide +kernel
theorem dL_law_1429 : decode cL_law 1429 = .ok (.aload_n 0, 1) := by decide +kernel
theorem dL_law_1430 : decode cL_law 1430 = .ok (.iload_n 3, 1) := by decide +kernel
theorem dL_law_1431 : decode cL_law 1431 = .ok (.iconst 1, 1) := by decide +kernel
theorem dL_law_1432 : decode cL_law 1432 = .ok (.iadd, 1) := by decide +kernel
theorem dL_law_1433 : decode cL_law 1433 = .ok (.iaload, 1) := by decide +kernel
theorem dL_law_1434 : decode cL_law 1434 = .ok (.aload_n 0, 1) := by decide +kernel
theorem dL_law_1435 : decode cL_law 1435 = .ok (.iload_n 3, 1) := by decide +kernel
theorem dL_law_1436 : decode cL_law 1436 = .ok (.iconst 2, 1) := by decide +kernel
theorem dL_law_1437 : decode cL_law 1437 = .ok (.iadd, 1) := by decide +kernel
theorem dL_law_1438 : decode cL_law 1438 = .ok (.iaload, 1) := by decide +kernel
theorem dL_law_1439 : decode cL_law 1439 = .ok (.aload_n 0, 1) := by decide +kernel
theorem dL_law_1440 : decode cL_law 1440 = .ok (.iload_n 3, 1) := by decide +kernel
theorem dL_law_1441 : decode cL_law 1441 = .ok (.iconst 3, 1) := by decide +kernel
theorem dL_law_1442 : decode cL_law 1442 = .ok (.iadd, 1) := by decide +kernel
theorem dL_law_1443 : decode cL_law 1443 = .ok (.iaload, 1) := by decide +kernel
theorem dL_law_1444 : decode cL_law 1444 = .ok (.invokevirtual 178, 3) := by decide +kernel
theorem dL_law_1447 : decode cL_law 1447 = .ok (.if_icmp .eq 113, 3) := by decide +kernel
theorem dL_law_1450 : decode cL_law 1450 = .ok (.iconst 0, 1) := by decide +kernel
theorem dL_law_1451 : decode cL_law 1451 = .ok (.ireturn, 1) := by decide +kernel
theorem dL_law_1452 : decode cL_law 1452 = .ok (.aload_n 1, 1) := by decide +kernel
theorem dL_law_1453 : decode cL_law 1453 = .ok (.aload_n 0, 1) := by decide +kernel
theorem dL_law_1454 : decode cL_law 1454 = .ok (.iload_n 3, 1) := by decide +kernel
theorem dL_law_1455 : decode cL_law 1455 = .ok (.iconst 1, 1) := by decide +kernel
theorem dL_law_1456 : decode cL_law 1456 = .ok (.iadd, 1) := by decide +kernel
theorem dL_law_1457 : decode cL_law 1457 = .ok (.iaload, 1) := by decide +kernel
theorem dL_law_1458 : decode cL_law 1458 = .ok (.invokevirtual 179, 3) := by decide +kernel
theorem dL_law_1461 : decode cL_law 1461 = .ok (.aload_n 2, 1) := by decide +kernel
theorem dL_law_1462 : decode cL_law 1462 = .ok (.aload_n 0, 1) := by decide +kernel
theorem dL_law_1463 : decode cL_law 1463 = .ok (.iload_n 3, 1) := by decide +kernel
theorem dL_law_1464 : decode cL_law 1464 = .ok (.iconst 1, 1) := by decide +kernel
theorem dL_law_1465 : decode cL_law 1465 = .ok (.iadd, 1) := by decide +kernel
theorem dL_law_1466 : decode cL_law 1466 = .ok (.iaload, 1) := by decide +kernel
theorem dL_law_1467 : decode cL_law 1467 = .ok (.invokevirtual 182, 3) := by decide +kernel
theorem dL_law_1470 : decode cL_law 1470 = .ok (.if_icmp .eq 90, 3) := by decide +kernel
theorem dL_law_1473 : decode cL_law 1473 = .ok (.iconst 0, 1) := by decide +kernel
theorem dL_law_1474 : decode cL_law 1474 = .ok (.ireturn, 1) := by decide +kernel
theorem dL_law_1475 : decode cL_law 1475 = .ok (.aload_n 1, 1) := by decide +kernel
theorem dL_law_1476 : decode cL_law 1476 = .ok (.invokevirtual 183, 3) := by decide +kernel
theorem dL_law_1479 : decode cL_law 1479 = .ok (.aload_n 2, 1) := by decide +kernel
theorem dL_law_1480 : decode cL_law 1480 = .ok (.invokevirtual 186, 3) := by decide +kernel
theorem dL_law_1483 : decode cL_law 1483 = .ok (.if_icmp .eq 77, 3) := by decide +kernel
theorem dL_law_1486 : decode cL_law 1486 = .ok (.iconst 0, 1) := by decide +kernel
theorem dL_law_1487 : decode cL_law 1487 = .ok (.ireturn, 1) := by decide +kernel
theorem dL_law_1488 : decode cL_law 1488 = .ok (.aload_n 1, 1) := by decide +kernel
theorem dL_law_1489 : decode cL_law 1489 = .ok (.aload_n 0, 1) := by decide +kernel
theorem dL_law_1490 : decode cL_law 1490 = .ok (.iload_n 3, 1) := by decide +kernel
theorem dL_law_1491 : decode cL_law 1491 = .ok (.iconst 1, 1) := by decide +kernel
theorem dL_law_1492 : decode cL_law 1492 = .ok (.iadd, 1) := by decide +kernel
theorem dL_law_1493 : decode cL_law 1493 = .ok (.iaload, 1) := by decide +kernel
theorem dL_law_1494 : decode cL_law 1494 = .ok (.invokevirtual 187, 3) := by decide +kernel
theorem dL_law_1497 : decode cL_law 1497 = .ok (.aload_n 2, 1) := by decide +kernel
theorem dL_law_1498 : decode cL_law 1498 = .ok (.aload_n 0, 1) := by decide +kernel
theorem dL_law_1499 : decode cL_law 1499 = .ok (.iload_n 3, 1) := by decide +kernel
theorem dL_law_1500 : decode cL_law 1500 = .ok (.iconst 1, 1) := by decide +kernel
theorem dL_law_1501 : decode cL_law 1501 = .ok (.iadd, 1) := by decide +kernel
theorem dL_law_1502 : decode cL_law 1502 = .ok (.iaload, 1) := by decide +kernel
theorem dL_law_1503 : decode cL_law 1503 = .ok (.invokevirtual 190, 3) := by decide +kernel
theorem dL_law_1506 : decode cL_law 1506 = .ok (.if_icmp .eq 54, 3) := by decide +kernel
theorem dL_law_1509 : decode cL_law 1509 = .ok (.iconst 0, 1) := by decide +kernel
theorem dL_law_1510 : decode cL_law 1510 = .ok (.ireturn, 1) := by decide +kernel
theorem dL_law_1511 : decode cL_law 1511 = .ok (.aload_n 1, 1) := by decide +kernel
theorem dL_law_1512 : decode cL_law 1512 = .ok (.invokevirtual 191, 3) := by decide +kernel
theorem dL_law_1515 : decode cL_law 1515 = .ok (.aload_n 2, 1) := by decide +kernel
theorem dL_law_1516 : decode cL_law 1516 = .ok (.invokevirtual 194, 3) := by decide +kernel
theorem dL_law_1519 : decode cL_law 1519 = .ok (.if_icmp .eq 41, 3) := by decide +kernel
theorem dL_law_1522 : decode cL_law 1522 = .ok (.iconst 0, 1) := by decide +kernel
theorem dL_law_1523 : decode cL_law 1523 = .ok (.ireturn, 1) := by decide +kernel
theorem dL_law_1524 : decode cL_law 1524 = .ok (.aload_n 1, 1) := by decide +kernel
theorem dL_law_1525 : decode cL_law 1525 = .ok (.invokevirtual 195, 3) := by decide +kernel
theorem dL_law_1528 : decode cL_law 1528 = .ok (.aload_n 2, 1) := by decide +kernel
theorem dL_law_1529 : decode cL_law 1529 = .ok (.invokevirtual 198, 3) := by decide +kernel
theorem dL_law_1532 : decode cL_law 1532 = .ok (.if_icmp .eq 28, 3) := by decide +kernel
theorem dL_law_1535 : decode cL_law 1535 = .ok (.iconst 0, 1) := by decide +kernel
theorem dL_law_1536 : decode cL_law 1536 = .ok (.ireturn, 1) := by decide +kernel
theorem dL_law_1537 : decode cL_law 1537 = .ok (.aload_n 1, 1) := by decide +kernel
theorem dL_law_1538 : decode cL_law 1538 = .ok (.aload_n 0, 1) := by decide +kernel
theorem dL_law_1539 : decode cL_law 1539 = .ok (.iload_n 3, 1) := by decide +kernel
theorem dL_law_1540 : decode cL_law 1540 = .ok (.iconst 1, 1) := by decide +kernel
theorem dL_law_1541 : decode cL_law 1541 = .ok (.iadd, 1) := by decide +kernel
theorem dL_law_1542 : decode cL_law 1542 = .ok (.iaload, 1) := by decide +kernel
theorem dL_law_1543 : decode cL_law 1543 = .ok (.invokevirtual 199, 3) := by decide +kernel
theorem dL_law_1546 : decode cL_law 1546 = .ok (.aload_n 2, 1) := by decide +kernel
theorem dL_law_1547 : decode cL_law 1547 = .ok (.aload_n 0, 1) := by decide +kernel
theorem dL_law_1548 : decode cL_law 1548 = .ok (.iload_n 3, 1) := by decide +kernel
theorem dL_law_1549 : decode cL_law 1549 = .ok (.iconst 1, 1) := by decide +kernel
theorem dL_law_1550 : decode cL_law 1550 = .ok (.iadd, 1) := by decide +kernel
theorem dL_law_1551 : decode cL_law 1551 = .ok (.iaload, 1) := by decide +kernel
theorem dL_law_1552 : decode cL_law 1552 = .ok (.invokevirtual 202, 3) := by decide +kernel
theorem dL_law_1555 : decode cL_law 1555 = .ok (.if_icmp .eq 5, 3) := by decide +kernel
theorem dL_law_1558 : decode cL_law 1558 = .ok (.iconst 0, 1) := by decide +kernel
theorem dL_law_1559 : decode cL_law 1559 = .ok (.ireturn, 1) := by decide +kernel
theorem dL_law_1560 : decode cL_law 1560 = .ok (.iinc 3 6, 3) := by decide +kernel
theorem dL_law_1563 : decode cL_law 1563 = .ok (.goto (-1545), 3) := by decide +kernel
theorem dL_law_1566 : decode cL_law 1566 = .ok (.iconst 1, 1) := by decide +kernel
theorem dL_law_1567 : decode cL_law 1567 = .ok (.ireturn, 1) := by decide +kernel
def f_L_law_L18 (S : Nat × (Nat → Int32)) (n : Nat) (v0 : Nat) (v1 : Nat) (v2 : Nat) : Nat → Int32 → xH → Option ((Sum (Int32 × xH) (xH)) × Nat × Nat)
  | 0, _, _ => none
  | k + 1, v3, h =>
    (x_len h v0).bind fun x13 =>
    if (x13 - (6 : Int32)) < v3 then
      some ((.inr h), 0, 0)
    else
      (x_ld h v0 v3).bind fun x14 =>
      if (x14 &&& (63 : Int32)) = (0 : Int32) then
        (x_ld h v0 (v3 + (1 : Int32))).bind fun x15 =>
        (x_ld h v0 (v3 + (2 : Int32))).bind fun x16 =>
        (x_ld h v0 (v3 + (3 : Int32))).bind fun x17 =>
        (x_ob h v1 6).bind fun u18 =>
        (f_X6_row n h v1 x15 x16 x17).bind fun q19 =>
        (x_ld q19.2 v0 (v3 + (1 : Int32))).bind fun x20 =>
        (x_ld q19.2 v0 (v3 + (2 : Int32))).bind fun x21 =>
        (x_ld q19.2 v0 (v3 + (3 : Int32))).bind fun x22 =>
        (x_ob q19.2 v2 7).bind fun u23 =>
        (f_X7_row n q19.2 v2 x20 x21 x22).bind fun q24 =>
        if q19.1 = q24.1 then
          (some (v3 + (6 : Int32))).bind fun x25 =>
          f_L_law_L18 S n v0 v1 v2 k x25 q24.2
        else
          some ((.inl ((0 : Int32), q24.2)), 0, 0)
      else
      if (x14 &&& (63 : Int32)) = (1 : Int32) then
        (x_ld h v0 (v3 + (1 : Int32))).bind fun x28 =>
        (x_ld h v0 (v3 + (2 : Int32))).bind fun x29 =>
        (x_ld h v0 (v3 + (3 : Int32))).bind fun x30 =>
        (x_ld h v0 (v3 + (4 : Int32))).bind fun x31 =>
        (x_ob h v1 6).bind fun u32 =>
        (f_X6_set h v1 x28 x29 ((l_shl x30.toInt64 (32 : Int32)) ||| (x31.toInt64 &&& (4294967295 : Int64)))).bind fun q33 =>
        (x_ld q33.2 v0 (v3 + (1 : Int32))).bind fun x34 =>
        (x_ld q33.2 v0 (v3 + (2 : Int32))).bind fun x35 =>
        (x_ld q33.2 v0 (v3 + (3 : Int32))).bind fun x36 =>
        (x_ld q33.2 v0 (v3 + (4 : Int32))).bind fun x37 =>
        (x_ob q33.2 v2 7).bind fun u38 =>
        (f_X7_set q33.2 v2 x34 x35 ((l_shl x36.toInt64 (32 : Int32)) ||| (x37.toInt64 &&& (4294967295 : Int64)))).bind fun q39 =>
        if q33.1 = q39.1 then
          (some (v3 + (6 : Int32))).bind fun x40 =>
          f_L_law_L18 S n v0 v1 v2 k x40 q39.2
        else
          some ((.inl ((0 : Int32), q39.2)), 0, 0)
      else
      if (x14 &&& (63 : Int32)) = (2 : Int32) then
        (x_ld h v0 (v3 + (1 : Int32))).bind fun x43 =>
        (x_ld h v0 (v3 + (2 : Int32))).bind fun x44 =>
        (x_ld h v0 (v3 + (3 : Int32))).bind fun x45 =>
        (x_ld h v0 (v3 + (4 : Int32))).bind fun x46 =>
        (x_ld h v0 (v3 + (5 : Int32))).bind fun x47 =>
        (x_ob h v1 6).bind fun u48 =>
        (f_X6_copy h v1 x43 x44 x45 x46 x47).bind fun q49 =>
        (x_ld q49.2 v0 (v3 + (1 : Int32))).bind fun x50 =>
        (x_ld q49.2 v0 (v3 + (2 : Int32))).bind fun x51 =>
        (x_ld q49.2 v0 (v3 + (3 : Int32))).bind fun x52 =>
        (x_ld q49.2 v0 (v3 + (4 : Int32))).bind fun x53 =>
        (x_ld q49.2 v0 (v3 + (5 : Int32))).bind fun x54 =>
        (x_ob q49.2 v2 7).bind fun u55 =>
        (f_X7_copy n q49.2 v2 x50 x51 x52 x53 x54).bind fun q56 =>
        if q49.1 = q56.1 then
          (some (v3 + (6 : Int32))).bind fun x57 =>
          f_L_law_L18 S n v0 v1 v2 k x57 q56.2
        else
          some ((.inl ((0 : Int32), q56.2)), 0, 0)
      else
      if (x14 &&& (63 : Int32)) = (3 : Int32) then
        (x_ld h v0 (v3 + (1 : Int32))).bind fun x60 =>
        (x_ld h v0 (v3 + (2 : Int32))).bind fun x61 =>
        (x_ob h v1 6).bind fun u62 =>
        (f_X6_element h v1 x60 x61).bind fun q63 =>
        (x_ld h v0 (v3 + (1 : Int32))).bind fun x64 =>
        (x_ld h v0 (v3 + (2 : Int32))).bind fun x65 =>
        (x_ob h v2 7).bind fun u66 =>
        (f_X7_element h v2 x64 x65).bind fun q67 =>
        if (lg_cmp q63 q67) = 0 then
          (some (v3 + (6 : Int32))).bind fun x68 =>
          f_L_law_L18 S n v0 v1 v2 k x68 h
        else
          some ((.inl ((0 : Int32), h)), 0, 0)
      else
      if (x14 &&& (63 : Int32)) = (4 : Int32) then
        (x_ld h v0 (v3 + (1 : Int32))).bind fun x71 =>
        (x_ob h v1 6).bind fun u72 =>
        (f_X6_holds h v1 x71).bind fun q73 =>
        (x_ld h v0 (v3 + (1 : Int32))).bind fun x74 =>
        (x_ob h v2 7).bind fun u75 =>
        (f_X7_holds h v2 x74).bind fun q76 =>
        if q73 = q76 then
          (some (v3 + (6 : Int32))).bind fun x77 =>
          f_L_law_L18 S n v0 v1 v2 k x77 h
        else
          some ((.inl ((0 : Int32), h)), 0, 0)
      else
      if (x14 &&& (63 : Int32)) = (5 : Int32) then
        (x_ld h v0 (v3 + (1 : Int32))).bind fun x80 =>
        (x_ld h v0 (v3 + (2 : Int32))).bind fun x81 =>
        (x_ob h v1 6).bind fun u82 =>
        (f_X6_show h v1 x80 x81).bind fun q83 =>
        (x_ld q83.2 v0 (v3 + (1 : Int32))).bind fun x84 =>
        (x_ld q83.2 v0 (v3 + (2 : Int32))).bind fun x85 =>
        (x_ob q83.2 v2 7).bind fun u86 =>
        (f_X7_show q83.2 v2 x84 x85).bind fun q87 =>
        if q83.1 = q87.1 then
          (some (v3 + (6 : Int32))).bind fun x88 =>
          f_L_law_L18 S n v0 v1 v2 k x88 q87.2
        else
          some ((.inl ((0 : Int32), q87.2)), 0, 0)
      else
      if (x14 &&& (63 : Int32)) = (6 : Int32) then
        (x_ld h v0 (v3 + (1 : Int32))).bind fun x91 =>
        (x_ld h v0 (v3 + (2 : Int32))).bind fun x92 =>
        (x_ob h v1 6).bind fun u93 =>
        (f_X6_says n h v1 x91 x92).bind fun q94 =>
        (x_ld q94.2 v0 (v3 + (1 : Int32))).bind fun x95 =>
        (x_ld q94.2 v0 (v3 + (2 : Int32))).bind fun x96 =>
        (x_ob q94.2 v2 7).bind fun u97 =>
        (f_X7_says n q94.2 v2 x95 x96).bind fun q98 =>
        if q94.1 = q98.1 then
          (some (v3 + (6 : Int32))).bind fun x99 =>
          f_L_law_L18 S n v0 v1 v2 k x99 q98.2
        else
          some ((.inl ((0 : Int32), q98.2)), 0, 0)
      else
      if (x14 &&& (63 : Int32)) = (7 : Int32) then
        (x_ld h v0 (v3 + (1 : Int32))).bind fun x102 =>
        (x_ld h v0 (v3 + (2 : Int32))).bind fun x103 =>
        (x_ld h v0 (v3 + (3 : Int32))).bind fun x104 =>
        (x_ob h v1 6).bind fun u105 =>
        (f_X6_door h v1 x102 x103 x104).bind fun q106 =>
        (x_ld q106.2 v0 (v3 + (1 : Int32))).bind fun x107 =>
        (x_ld q106.2 v0 (v3 + (2 : Int32))).bind fun x108 =>
        (x_ld q106.2 v0 (v3 + (3 : Int32))).bind fun x109 =>
        (x_ob q106.2 v2 7).bind fun u110 =>
        (f_X7_door q106.2 v2 x107 x108 x109).bind fun q111 =>
        if q106.1 = q111.1 then
          (some (v3 + (6 : Int32))).bind fun x112 =>
          f_L_law_L18 S n v0 v1 v2 k x112 q111.2
        else
          some ((.inl ((0 : Int32), q111.2)), 0, 0)
      else
      if (x14 &&& (63 : Int32)) = (8 : Int32) then
        (x_ld h v0 (v3 + (1 : Int32))).bind fun x115 =>
        (x_ob h v1 6).bind fun u116 =>
        (f_X6_one h v1 x115).bind fun q117 =>
        (x_ld q117.2 v0 (v3 + (1 : Int32))).bind fun x118 =>
        (x_ob q117.2 v2 7).bind fun u119 =>
        (f_X7_one q117.2 v2 x118).bind fun q120 =>
        if q117.1 = q120.1 then
          (some (v3 + (6 : Int32))).bind fun x121 =>
          f_L_law_L18 S n v0 v1 v2 k x121 q120.2
        else
          some ((.inl ((0 : Int32), q120.2)), 0, 0)
      else
      if (x14 &&& (63 : Int32)) = (9 : Int32) then
        (x_ld h v0 (v3 + (1 : Int32))).bind fun x124 =>
        (x_ld h v0 (v3 + (2 : Int32))).bind fun x125 =>
        (x_ob h v1 6).bind fun u126 =>
        (f_X6_ask h v1 x124 x125).bind fun q127 =>
        (x_ld q127.2 v0 (v3 + (1 : Int32))).bind fun x128 =>
        (x_ld q127.2 v0 (v3 + (2 : Int32))).bind fun x129 =>
        (x_ob q127.2 v2 7).bind fun u130 =>
        (f_X7_ask q127.2 v2 x128 x129).bind fun q131 =>
        if q127.1 = q131.1 then
          (some (v3 + (6 : Int32))).bind fun x132 =>
          f_L_law_L18 S n v0 v1 v2 k x132 q131.2
        else
          some ((.inl ((0 : Int32), q131.2)), 0, 0)
      else
      if (x14 &&& (63 : Int32)) = (10 : Int32) then
        (x_ld h v0 (v3 + (1 : Int32))).bind fun x135 =>
        (x_ld h v0 (v3 + (2 : Int32))).bind fun x136 =>
        (
          if x136 = 0 then
            some (0 : Int32)
          else
            some (1 : Int32)
        ).bind fun q137 =>
        (x_ob h v1 6).bind fun u139 =>
        (f_X6_stand h v1 x135 q137).bind fun q140 =>
        (x_ld q140.2 v0 (v3 + (1 : Int32))).bind fun x141 =>
        (x_ld q140.2 v0 (v3 + (2 : Int32))).bind fun x142 =>
        (
          if x142 = 0 then
            some (0 : Int32)
          else
            some (1 : Int32)
        ).bind fun q143 =>
        (x_ob q140.2 v2 7).bind fun u145 =>
        (f_X7_stand q140.2 v2 x141 q143).bind fun q146 =>
        if q140.1 = q146.1 then
          (some (v3 + (6 : Int32))).bind fun x147 =>
          f_L_law_L18 S n v0 v1 v2 k x147 q146.2
        else
          some ((.inl ((0 : Int32), q146.2)), 0, 0)
      else
      if (x14 &&& (63 : Int32)) = (11 : Int32) then
        (x_ld h v0 (v3 + (1 : Int32))).bind fun x150 =>
        (x_ld h v0 (v3 + (2 : Int32))).bind fun x151 =>
        (x_ob h v1 6).bind fun u152 =>
        (f_X6_move h v1 x150 x151).bind fun q153 =>
        (x_ld q153.2 v0 (v3 + (1 : Int32))).bind fun x154 =>
        (x_ld q153.2 v0 (v3 + (2 : Int32))).bind fun x155 =>
        (x_ob q153.2 v2 7).bind fun u156 =>
        (f_X7_move q153.2 v2 x154 x155).bind fun q157 =>
        if q153.1 = q157.1 then
          (some (v3 + (6 : Int32))).bind fun x158 =>
          f_L_law_L18 S n v0 v1 v2 k x158 q157.2
        else
          some ((.inl ((0 : Int32), q157.2)), 0, 0)
      else
      if (x14 &&& (63 : Int32)) = (12 : Int32) then
        (x_ld h v0 (v3 + (1 : Int32))).bind fun x161 =>
        (x_ld h v0 (v3 + (2 : Int32))).bind fun x162 =>
        (x_ob h v1 6).bind fun u163 =>
        (f_X6_feed n h v1 x161 x162).bind fun q164 =>
        (x_ld q164.2 v0 (v3 + (1 : Int32))).bind fun x165 =>
        (x_ld q164.2 v0 (v3 + (2 : Int32))).bind fun x166 =>
        (x_ob q164.2 v2 7).bind fun u167 =>
        (f_X7_feed n q164.2 v2 x165 x166).bind fun q168 =>
        if q164.1 = q168.1 then
          (some (v3 + (6 : Int32))).bind fun x169 =>
          f_L_law_L18 S n v0 v1 v2 k x169 q168.2
        else
          some ((.inl ((0 : Int32), q168.2)), 0, 0)
      else
      if (x14 &&& (63 : Int32)) = (13 : Int32) then
        (x_ob h v1 6).bind fun u172 =>
        (f_X6_wipe h v1).bind fun q173 =>
        (x_ob q173.2 v2 7).bind fun u174 =>
        (f_X7_wipe q173.2 v2).bind fun q175 =>
        if q173.1 = q175.1 then
          (some (v3 + (6 : Int32))).bind fun x176 =>
          f_L_law_L18 S n v0 v1 v2 k x176 q175.2
        else
          some ((.inl ((0 : Int32), q175.2)), 0, 0)
      else
      if (x14 &&& (63 : Int32)) = (14 : Int32) then
        (x_ob h v1 6).bind fun u179 =>
        (f_X6_house n h v1).bind fun q180 =>
        (x_ob q180.2 v2 7).bind fun u181 =>
        (f_X7_house n q180.2 v2).bind fun q182 =>
        x_add q182.2.1 q182.2.2 <|
        if q180.1 = q182.1.1 then
          (some (v3 + (6 : Int32))).bind fun x185 =>
          f_L_law_L18 S n v0 v1 v2 k x185 q182.1.2
        else
          some ((.inl ((0 : Int32), q182.1.2)), 0, 0)
      else
      if (x14 &&& (63 : Int32)) = (15 : Int32) then
        (x_ld h v0 (v3 + (1 : Int32))).bind fun x188 =>
        (x_ld h v0 (v3 + (2 : Int32))).bind fun x189 =>
        (x_ob h v1 6).bind fun u190 =>
        (f_X6_doorOf h v1 x188 x189).bind fun q191 =>
        (x_ld q191.2 v0 (v3 + (1 : Int32))).bind fun x192 =>
        (x_ld q191.2 v0 (v3 + (2 : Int32))).bind fun x193 =>
        (x_ob q191.2 v2 7).bind fun u194 =>
        (f_X7_doorOf q191.2 v2 x192 x193).bind fun q195 =>
        if q191.1 = q195.1 then
          (some (v3 + (6 : Int32))).bind fun x196 =>
          f_L_law_L18 S n v0 v1 v2 k x196 q195.2
        else
          some ((.inl ((0 : Int32), q195.2)), 0, 0)
      else
      if (x14 &&& (63 : Int32)) = (16 : Int32) then
        (x_ld h v0 (v3 + (1 : Int32))).bind fun x199 =>
        (x_ob h v1 6).bind fun u200 =>
        (f_X6_where h v1 x199).bind fun q201 =>
        (x_ld q201.2 v0 (v3 + (1 : Int32))).bind fun x202 =>
        (x_ob q201.2 v2 7).bind fun u203 =>
        (f_X7_where q201.2 v2 x202).bind fun q204 =>
        if q201.1 = q204.1 then
          (some (v3 + (6 : Int32))).bind fun x205 =>
          f_L_law_L18 S n v0 v1 v2 k x205 q204.2
        else
          some ((.inl ((0 : Int32), q204.2)), 0, 0)
      else
      if (x14 &&& (63 : Int32)) = (17 : Int32) then
        (x_ld h v0 (v3 + (1 : Int32))).bind fun x208 =>
        (x_ld h v0 (v3 + (2 : Int32))).bind fun x209 =>
        (x_ob h v1 6).bind fun u210 =>
        (f_X6_doors n h v1 x208 x209).bind fun q211 =>
        (x_ld q211.2 v0 (v3 + (1 : Int32))).bind fun x212 =>
        (x_ld q211.2 v0 (v3 + (2 : Int32))).bind fun x213 =>
        (x_ob q211.2 v2 7).bind fun u214 =>
        (f_X7_doors n q211.2 v2 x212 x213).bind fun q215 =>
        if q211.1 = q215.1 then
          (some (v3 + (6 : Int32))).bind fun x216 =>
          f_L_law_L18 S n v0 v1 v2 k x216 q215.2
        else
          some ((.inl ((0 : Int32), q215.2)), 0, 0)
      else
      if (x14 &&& (63 : Int32)) = (18 : Int32) then
        (x_ld h v0 (v3 + (1 : Int32))).bind fun x219 =>
        (x_ld h v0 (v3 + (2 : Int32))).bind fun x220 =>
        (x_ld h v0 (v3 + (3 : Int32))).bind fun x221 =>
        (x_ob h v1 6).bind fun u222 =>
        (f_X6_may n h v1 x219 x220 x221).bind fun q223 =>
        (x_ld q223.2 v0 (v3 + (1 : Int32))).bind fun x224 =>
        (x_ld q223.2 v0 (v3 + (2 : Int32))).bind fun x225 =>
        (x_ld q223.2 v0 (v3 + (3 : Int32))).bind fun x226 =>
        (x_ob q223.2 v2 7).bind fun u227 =>
        (f_X7_may n q223.2 v2 x224 x225 x226).bind fun q228 =>
        if q223.1 = q228.1 then
          (some (v3 + (6 : Int32))).bind fun x229 =>
          f_L_law_L18 S n v0 v1 v2 k x229 q228.2
        else
          some ((.inl ((0 : Int32), q228.2)), 0, 0)
      else
      if (x14 &&& (63 : Int32)) = (19 : Int32) then
        (x_ld h v0 (v3 + (1 : Int32))).bind fun x232 =>
        (x_ld h v0 (v3 + (2 : Int32))).bind fun x233 =>
        (x_ld h v0 (v3 + (3 : Int32))).bind fun x234 =>
        (x_ob h v1 6).bind fun u235 =>
        (f_X6_by n h v1 x232 x233 x234).bind fun q236 =>
        (x_ld q236.2 v0 (v3 + (1 : Int32))).bind fun x237 =>
        (x_ld q236.2 v0 (v3 + (2 : Int32))).bind fun x238 =>
        (x_ld q236.2 v0 (v3 + (3 : Int32))).bind fun x239 =>
        (x_ob q236.2 v2 7).bind fun u240 =>
        (f_X7_by n q236.2 v2 x237 x238 x239).bind fun q241 =>
        if q236.1 = q241.1 then
          (some (v3 + (6 : Int32))).bind fun x242 =>
          f_L_law_L18 S n v0 v1 v2 k x242 q241.2
        else
          some ((.inl ((0 : Int32), q241.2)), 0, 0)
      else
      if (x14 &&& (63 : Int32)) = (20 : Int32) then
        (x_ld h v0 (v3 + (1 : Int32))).bind fun x245 =>
        (x_ld h v0 (v3 + (2 : Int32))).bind fun x246 =>
        (x_ld h v0 (v3 + (3 : Int32))).bind fun x247 =>
        (x_ob h v1 6).bind fun u248 =>
        (f_X6_ways n h v1 x245 x246 x247).bind fun q249 =>
        (x_ld q249.2 v0 (v3 + (1 : Int32))).bind fun x250 =>
        (x_ld q249.2 v0 (v3 + (2 : Int32))).bind fun x251 =>
        (x_ld q249.2 v0 (v3 + (3 : Int32))).bind fun x252 =>
        (x_ob q249.2 v2 7).bind fun u253 =>
        (f_X7_ways n q249.2 v2 x250 x251 x252).bind fun q254 =>
        if q249.1 = q254.1 then
          (some (v3 + (6 : Int32))).bind fun x255 =>
          f_L_law_L18 S n v0 v1 v2 k x255 q254.2
        else
          some ((.inl ((0 : Int32), q254.2)), 0, 0)
      else
      if (x14 &&& (63 : Int32)) = (21 : Int32) then
        (x_ld h v0 (v3 + (1 : Int32))).bind fun x258 =>
        (x_ld h v0 (v3 + (2 : Int32))).bind fun x259 =>
        (x_ob h v1 6).bind fun u260 =>
        (f_X6_walk h v1 x258 x259).bind fun q261 =>
        (x_ld q261.2 v0 (v3 + (1 : Int32))).bind fun x262 =>
        (x_ld q261.2 v0 (v3 + (2 : Int32))).bind fun x263 =>
        (x_ob q261.2 v2 7).bind fun u264 =>
        (f_X7_walk q261.2 v2 x262 x263).bind fun q265 =>
        if q261.1 = q265.1 then
          (some (v3 + (6 : Int32))).bind fun x266 =>
          f_L_law_L18 S n v0 v1 v2 k x266 q265.2
        else
          some ((.inl ((0 : Int32), q265.2)), 0, 0)
      else
      if (x14 &&& (63 : Int32)) = (22 : Int32) then
        (x_ld h v0 (v3 + (1 : Int32))).bind fun x269 =>
        (x_ld h v0 (v3 + (2 : Int32))).bind fun x270 =>
        (x_ob h v1 6).bind fun u271 =>
        (f_X6_shut n h v1 x269 x270).bind fun q272 =>
        (x_ld q272.2 v0 (v3 + (1 : Int32))).bind fun x273 =>
        (x_ld q272.2 v0 (v3 + (2 : Int32))).bind fun x274 =>
        (x_ob q272.2 v2 7).bind fun u275 =>
        (f_X7_shut n q272.2 v2 x273 x274).bind fun q276 =>
        if q272.1 = q276.1 then
          (some (v3 + (6 : Int32))).bind fun x277 =>
          f_L_law_L18 S n v0 v1 v2 k x277 q276.2
        else
          some ((.inl ((0 : Int32), q276.2)), 0, 0)
      else
      if (x14 &&& (63 : Int32)) = (23 : Int32) then
        (x_ld h v0 (v3 + (1 : Int32))).bind fun x280 =>
        (x_ld h v0 (v3 + (2 : Int32))).bind fun x281 =>
        (x_ld h v0 (v3 + (3 : Int32))).bind fun x282 =>
        (x_ob h v1 6).bind fun u283 =>
        (f_X6_open n h v1 x280 x281 x282).bind fun q284 =>
        (x_ld q284.2 v0 (v3 + (1 : Int32))).bind fun x285 =>
        (x_ld q284.2 v0 (v3 + (2 : Int32))).bind fun x286 =>
        (x_ld q284.2 v0 (v3 + (3 : Int32))).bind fun x287 =>
        (x_ob q284.2 v2 7).bind fun u288 =>
        (f_X7_open n q284.2 v2 x285 x286 x287).bind fun q289 =>
        if q284.1 = q289.1 then
          (some (v3 + (6 : Int32))).bind fun x290 =>
          f_L_law_L18 S n v0 v1 v2 k x290 q289.2
        else
          some ((.inl ((0 : Int32), q289.2)), 0, 0)
      else
      if (x14 &&& (63 : Int32)) = (24 : Int32) then
        (x_ld h v0 (v3 + (1 : Int32))).bind fun x293 =>
        (x_ob h v1 6).bind fun u294 =>
        (f_X6_reach n h v1 x293).bind fun q295 =>
        (x_ld q295.2 v0 (v3 + (1 : Int32))).bind fun x296 =>
        (x_ob q295.2 v2 7).bind fun u297 =>
        (f_X7_reach n q295.2 v2 x296).bind fun q298 =>
        if q295.1 = q298.1 then
          (some (v3 + (6 : Int32))).bind fun x299 =>
          f_L_law_L18 S n v0 v1 v2 k x299 q298.2
        else
          some ((.inl ((0 : Int32), q298.2)), 0, 0)
      else
      if (x14 &&& (63 : Int32)) = (25 : Int32) then
        (x_ob h v1 6).bind fun u302 =>
        (f_X6_shutIn n h v1).bind fun q303 =>
        (x_ob h v2 7).bind fun u304 =>
        (f_X7_shutIn n h v2).bind fun q305 =>
        if q303 = q305 then
          (some (v3 + (6 : Int32))).bind fun x306 =>
          f_L_law_L18 S n v0 v1 v2 k x306 h
        else
          some ((.inl ((0 : Int32), h)), 0, 0)
      else
      if (x14 &&& (63 : Int32)) = (26 : Int32) then
        (x_ld h v0 (v3 + (1 : Int32))).bind fun x309 =>
        (x_ld h v0 (v3 + (2 : Int32))).bind fun x310 =>
        (x_ob h v1 6).bind fun u311 =>
        (f_X6_coming n h v1 x309 x310).bind fun q312 =>
        x_add q312.2.1 q312.2.2 <|
        (x_ld q312.1.2 v0 (v3 + (1 : Int32))).bind fun x315 =>
        (x_ld q312.1.2 v0 (v3 + (2 : Int32))).bind fun x316 =>
        (x_ob q312.1.2 v2 7).bind fun u317 =>
        (f_X7_coming n q312.1.2 v2 x315 x316).bind fun q318 =>
        x_add q318.2.1 q318.2.2 <|
        if q312.1.1 = q318.1.1 then
          (some (v3 + (6 : Int32))).bind fun x321 =>
          f_L_law_L18 S n v0 v1 v2 k x321 q318.1.2
        else
          some ((.inl ((0 : Int32), q318.1.2)), 0, 0)
      else
      if (x14 &&& (63 : Int32)) = (27 : Int32) then
        (x_ld h v0 (v3 + (1 : Int32))).bind fun x324 =>
        (x_ob h v1 6).bind fun u325 =>
        (f_X6_all n h v1 x324).bind fun q326 =>
        x_add q326.2.1 q326.2.2 <|
        (x_ld q326.1.2 v0 (v3 + (1 : Int32))).bind fun x329 =>
        (x_ob q326.1.2 v2 7).bind fun u330 =>
        (f_X7_all n q326.1.2 v2 x329).bind fun q331 =>
        x_add q331.2.1 q331.2.2 <|
        if q326.1.1 = q331.1.1 then
          (some (v3 + (6 : Int32))).bind fun x334 =>
          f_L_law_L18 S n v0 v1 v2 k x334 q331.1.2
        else
          some ((.inl ((0 : Int32), q331.1.2)), 0, 0)
      else
      if (x14 &&& (63 : Int32)) = (28 : Int32) then
        (x_ld h v0 (v3 + (1 : Int32))).bind fun x337 =>
        (x_ld h v0 (v3 + (2 : Int32))).bind fun x338 =>
        (x_ob h v1 6).bind fun u339 =>
        (f_X6_first n h v1 x337 x338).bind fun q340 =>
        x_add q340.2.1 q340.2.2 <|
        (x_ld q340.1.2 v0 (v3 + (1 : Int32))).bind fun x343 =>
        (x_ld q340.1.2 v0 (v3 + (2 : Int32))).bind fun x344 =>
        (x_ob q340.1.2 v2 7).bind fun u345 =>
        (f_X7_first n q340.1.2 v2 x343 x344).bind fun q346 =>
        x_add q346.2.1 q346.2.2 <|
        if q340.1.1 = q346.1.1 then
          (some (v3 + (6 : Int32))).bind fun x349 =>
          f_L_law_L18 S n v0 v1 v2 k x349 q346.1.2
        else
          some ((.inl ((0 : Int32), q346.1.2)), 0, 0)
      else
      if (x14 &&& (63 : Int32)) = (29 : Int32) then
        (x_ld h v0 (v3 + (1 : Int32))).bind fun x352 =>
        (x_ld h v0 (v3 + (2 : Int32))).bind fun x353 =>
        (x_ld h v0 (v3 + (3 : Int32))).bind fun x354 =>
        (x_ob h v1 6).bind fun u355 =>
        (f_X6_errands n h v1 x352 x353 x354).bind fun q356 =>
        x_add q356.2.1 q356.2.2 <|
        (x_ld q356.1.2 v0 (v3 + (1 : Int32))).bind fun x359 =>
        (x_ld q356.1.2 v0 (v3 + (2 : Int32))).bind fun x360 =>
        (x_ld q356.1.2 v0 (v3 + (3 : Int32))).bind fun x361 =>
        (x_ob q356.1.2 v2 7).bind fun u362 =>
        (f_X7_errands n q356.1.2 v2 x359 x360 x361).bind fun q363 =>
        x_add q363.2.1 q363.2.2 <|
        if q356.1.1 = q363.1.1 then
          (some (v3 + (6 : Int32))).bind fun x366 =>
          f_L_law_L18 S n v0 v1 v2 k x366 q363.1.2
        else
          some ((.inl ((0 : Int32), q363.1.2)), 0, 0)
      else
      if (x14 &&& (63 : Int32)) = (30 : Int32) then
        (x_ob h v1 6).bind fun u369 =>
        (f_X6_lost n h v1).bind fun q370 =>
        x_add q370.2.1 q370.2.2 <|
        (x_ob q370.1.2 v2 7).bind fun u373 =>
        (f_X7_lost n q370.1.2 v2).bind fun q374 =>
        x_add q374.2.1 q374.2.2 <|
        if q370.1.1 = q374.1.1 then
          (some (v3 + (6 : Int32))).bind fun x377 =>
          f_L_law_L18 S n v0 v1 v2 k x377 q374.1.2
        else
          some ((.inl ((0 : Int32), q374.1.2)), 0, 0)
      else
      if (x14 &&& (63 : Int32)) = (31 : Int32) then
        (x_ob h v1 6).bind fun u380 =>
        (f_X6_stock n h v1).bind fun q381 =>
        (x_ob h v2 7).bind fun u382 =>
        (f_X7_stock n h v2).bind fun q383 =>
        if q381 = q383 then
          (some (v3 + (6 : Int32))).bind fun x384 =>
          f_L_law_L18 S n v0 v1 v2 k x384 h
        else
          some ((.inl ((0 : Int32), h)), 0, 0)
      else
      if (x14 &&& (63 : Int32)) = (32 : Int32) then
        (x_ob h v1 6).bind fun u387 =>
        (f_X6_lasts n h v1).bind fun q388 =>
        (x_ob q388.2 v2 7).bind fun u389 =>
        (f_X7_lasts n q388.2 v2).bind fun q390 =>
        x_add q390.2.1 q390.2.2 <|
        if q388.1 = q390.1.1 then
          (some (v3 + (6 : Int32))).bind fun x393 =>
          f_L_law_L18 S n v0 v1 v2 k x393 q390.1.2
        else
          some ((.inl ((0 : Int32), q390.1.2)), 0, 0)
      else
      if (x14 &&& (63 : Int32)) = (33 : Int32) then
        (x_ld h v0 (v3 + (1 : Int32))).bind fun x396 =>
        (x_ob h v1 6).bind fun u397 =>
        (f_X6_worth n h v1 x396).bind fun q398 =>
        (x_ld q398.2 v0 (v3 + (1 : Int32))).bind fun x399 =>
        (x_ob q398.2 v2 7).bind fun u400 =>
        (f_X7_worth n q398.2 v2 x399).bind fun q401 =>
        x_add q401.2.1 q401.2.2 <|
        if q398.1 = q401.1.1 then
          (some (v3 + (6 : Int32))).bind fun x404 =>
          f_L_law_L18 S n v0 v1 v2 k x404 q401.1.2
        else
          some ((.inl ((0 : Int32), q401.1.2)), 0, 0)
      else
      if (x14 &&& (63 : Int32)) = (34 : Int32) then
        (x_ob h v1 6).bind fun u407 =>
        (f_X6_spare n h v1).bind fun q408 =>
        (x_ob q408.2 v2 7).bind fun u409 =>
        (f_X7_spare n q408.2 v2).bind fun q410 =>
        x_add q410.2.1 q410.2.2 <|
        if q408.1 = q410.1.1 then
          (some (v3 + (6 : Int32))).bind fun x413 =>
          f_L_law_L18 S n v0 v1 v2 k x413 q410.1.2
        else
          some ((.inl ((0 : Int32), q410.1.2)), 0, 0)
      else
      if (x14 &&& (63 : Int32)) = (35 : Int32) then
        (x_ob h v1 6).bind fun u416 =>
        (f_X6_endless n h v1).bind fun q417 =>
        (x_ob q417.2 v2 7).bind fun u418 =>
        (f_X7_endless n q417.2 v2).bind fun q419 =>
        x_add q419.2.1 q419.2.2 <|
        if q417.1 = q419.1.1 then
          (some (v3 + (6 : Int32))).bind fun x422 =>
          f_L_law_L18 S n v0 v1 v2 k x422 q419.1.2
        else
          some ((.inl ((0 : Int32), q419.1.2)), 0, 0)
      else
      if (x14 &&& (63 : Int32)) = (36 : Int32) then
        (x_ld h v0 (v3 + (1 : Int32))).bind fun x425 =>
        (x_ob h v1 6).bind fun u426 =>
        (f_X6_boxes n h v1 x425).bind fun q427 =>
        (x_ld q427.2 v0 (v3 + (1 : Int32))).bind fun x428 =>
        (x_ob q427.2 v2 7).bind fun u429 =>
        (f_X7_boxes n q427.2 v2 x428).bind fun q430 =>
        x_add q430.2.1 q430.2.2 <|
        if q427.1 = q430.1.1 then
          (some (v3 + (6 : Int32))).bind fun x433 =>
          f_L_law_L18 S n v0 v1 v2 k x433 q430.1.2
        else
          some ((.inl ((0 : Int32), q430.1.2)), 0, 0)
      else
      if (x14 &&& (63 : Int32)) = (37 : Int32) then
        (x_ld h v0 (v3 + (1 : Int32))).bind fun x436 =>
        (x_ld h v0 (v3 + (2 : Int32))).bind fun x437 =>
        (x_ob h v1 6).bind fun u438 =>
        (f_X6_judge n h v1 x436 x437).bind fun q439 =>
        (x_ld q439.2 v0 (v3 + (1 : Int32))).bind fun x440 =>
        (x_ld q439.2 v0 (v3 + (2 : Int32))).bind fun x441 =>
        (x_ob q439.2 v2 7).bind fun u442 =>
        (f_X7_judge n q439.2 v2 x440 x441).bind fun q443 =>
        x_add q443.2.1 q443.2.2 <|
        if q439.1 = q443.1.1 then
          (some (v3 + (6 : Int32))).bind fun x446 =>
          f_L_law_L18 S n v0 v1 v2 k x446 q443.1.2
        else
          some ((.inl ((0 : Int32), q443.1.2)), 0, 0)
      else
      if (x14 &&& (63 : Int32)) = (38 : Int32) then
        (x_ld h v0 (v3 + (1 : Int32))).bind fun x449 =>
        (x_ld h v0 (v3 + (2 : Int32))).bind fun x450 =>
        (x_ld h v0 (v3 + (3 : Int32))).bind fun x451 =>
        (x_ob h v1 6).bind fun u452 =>
        (f_X6_told n h v1 x449 x450 x451).bind fun q453 =>
        (x_ld q453.2 v0 (v3 + (1 : Int32))).bind fun x454 =>
        (x_ld q453.2 v0 (v3 + (2 : Int32))).bind fun x455 =>
        (x_ld q453.2 v0 (v3 + (3 : Int32))).bind fun x456 =>
        (x_ob q453.2 v2 7).bind fun u457 =>
        (f_X7_told n q453.2 v2 x454 x455 x456).bind fun q458 =>
        x_add q458.2.1 q458.2.2 <|
        if q453.1 = q458.1.1 then
          (some (v3 + (6 : Int32))).bind fun x461 =>
          f_L_law_L18 S n v0 v1 v2 k x461 q458.1.2
        else
          some ((.inl ((0 : Int32), q458.1.2)), 0, 0)
      else
      if (x14 &&& (63 : Int32)) = (39 : Int32) then
        (x_ld h v0 (v3 + (1 : Int32))).bind fun x464 =>
        (x_ob h v1 6).bind fun u465 =>
        (f_X6_evening n h v1 x464).bind fun q466 =>
        (x_ld q466.2 v0 (v3 + (1 : Int32))).bind fun x467 =>
        (x_ob q466.2 v2 7).bind fun u468 =>
        (f_X7_evening n q466.2 v2 x467).bind fun q469 =>
        if q466.1 = q469.1 then
          (some (v3 + (6 : Int32))).bind fun x470 =>
          f_L_law_L18 S n v0 v1 v2 k x470 q469.2
        else
          some ((.inl ((0 : Int32), q469.2)), 0, 0)
      else
      if (x14 &&& (63 : Int32)) = (40 : Int32) then
        (x_ob h v1 6).bind fun u473 =>
        (f_X6_night n h v1).bind fun q474 =>
        (x_ob q474.2 v2 7).bind fun u475 =>
        (f_X7_night n q474.2 v2).bind fun q476 =>
        if q474.1 = q476.1 then
          (some (v3 + (6 : Int32))).bind fun x477 =>
          f_L_law_L18 S n v0 v1 v2 k x477 q476.2
        else
          some ((.inl ((0 : Int32), q476.2)), 0, 0)
      else
      if (x14 &&& (63 : Int32)) = (41 : Int32) then
        (x_ld h v0 (v3 + (1 : Int32))).bind fun x480 =>
        (x_ob h v1 6).bind fun u481 =>
        (f_X6_seed h v1 x480).bind fun q482 =>
        (x_ld q482.2 v0 (v3 + (1 : Int32))).bind fun x483 =>
        (x_ob q482.2 v2 7).bind fun u484 =>
        (f_X7_seed q482.2 v2 x483).bind fun q485 =>
        if q482.1 = q485.1 then
          (some (v3 + (6 : Int32))).bind fun x486 =>
          f_L_law_L18 S n v0 v1 v2 k x486 q485.2
        else
          some ((.inl ((0 : Int32), q485.2)), 0, 0)
      else
      if (x14 &&& (63 : Int32)) = (42 : Int32) then
        (x_ob h v1 6).bind fun u489 =>
        (f_X6_image n h v1).bind fun q490 =>
        (x_ob q490.2 v2 7).bind fun u491 =>
        (f_X7_image n q490.2 v2).bind fun q492 =>
        x_add q492.2.1 q492.2.2 <|
        if q490.1 = q492.1.1 then
          (some (v3 + (6 : Int32))).bind fun x495 =>
          f_L_law_L18 S n v0 v1 v2 k x495 q492.1.2
        else
          some ((.inl ((0 : Int32), q492.1.2)), 0, 0)
      else
      if (x14 &&& (63 : Int32)) = (43 : Int32) then
        (x_ob h v1 6).bind fun u498 =>
        (f_X6_back n h v1).bind fun q499 =>
        (x_ob q499.2 v2 7).bind fun u500 =>
        (f_X7_back n q499.2 v2).bind fun q501 =>
        if q499.1 = q501.1 then
          (some (v3 + (6 : Int32))).bind fun x502 =>
          f_L_law_L18 S n v0 v1 v2 k x502 q501.2
        else
          some ((.inl ((0 : Int32), q501.2)), 0, 0)
      else
      if (x14 &&& (63 : Int32)) = (44 : Int32) then
        (x_ld h v0 (v3 + (1 : Int32))).bind fun x505 =>
        (x_ob h v1 6).bind fun u506 =>
        (f_X6_status n h v1 x505).bind fun q507 =>
        (x_ld h v0 (v3 + (1 : Int32))).bind fun x508 =>
        (x_ob h v2 7).bind fun u509 =>
        (f_X7_status n h v2 x508).bind fun q510 =>
        if q507 = q510 then
          (some (v3 + (6 : Int32))).bind fun x511 =>
          f_L_law_L18 S n v0 v1 v2 k x511 h
        else
          some ((.inl ((0 : Int32), h)), 0, 0)
      else
      (some (v3 + (6 : Int32))).bind fun x514 =>
      f_L_law_L18 S n v0 v1 v2 k x514 h
set_option maxRecDepth 100000 in
set_option maxHeartbeats 4000000 in
theorem l_L_law_18 {rv : Option Value} {h0 h1 : xH} {mc ms : Nat} {tc ts : Nat} (S : Nat × (Nat → Int32)) (n : Nat) (v0 : Nat) (v1 : Nat) (v2 : Nat) : ∀ (k : Nat) (v3 : Int32) (h : xH) (res : Sum (Int32 × xH) (xH)) (c9 s9 cells slots : Nat), f_L_law_L18 S n v0 v1 v2 k v3 h = some (res, c9, s9) → cells + c9 = tc → slots + s9 = ts → (tc ≤ mc ∧ ts ≤ ms) → (∀ r9, res = .inl r9 → rv = some (.int r9.1) ∧ h1 = r9.2) → (∀ r9, res = .inr r9 → Y S M_L_law h0 rv h1 mc ms 1566 [] [] r9 tc ts) → Y S M_L_law h0 rv h1 mc ms 18 [(0, .ref v0), (1, .ref v1), (2, .ref v2), (3, .int v3)] [] h cells slots := by
  intro k
  induction k with
  | zero =>
    intro _ _ _ _ _ _ _ hE
    cases hE
  | succ k ih =>
    intro v3 h res c9 s9 cells slots hE hc9 hs9 hm KR K
    unfold f_L_law_L18 at hE
    refine y_iload_n dL_law_18 3 rfl ?_
    refine y_aload_n dL_law_19 0 rfl ?_
    obtain ⟨x13, ex13, hE⟩ := Option.bind_eq_some_iff.mp hE
    refine y_alen ex13 dL_law_20 ?_
    refine y_bipush (v := (6 : Int32)) dL_law_21 (by decide) ?_
    refine y_isub dL_law_23 ?_
    refine y_icmp_gt (tgt := 1566) dL_law_24 (by decide) (fun hc515 => ?_) (fun hc515 => ?_)
    · rw [if_pos hc515] at hE
      obtain ⟨rfl, rfl, rfl⟩ := x_inj3 hE
      refine y_cnt (c2 := tc) (s2 := ts) (by omega) (by omega) ?_
      exact y_pick [] rfl (K _ rfl)
    · rw [if_neg hc515] at hE
      refine y_aload_n dL_law_27 0 rfl ?_
      refine y_iload_n dL_law_28 3 rfl ?_
      obtain ⟨x14, ex14, hE⟩ := Option.bind_eq_some_iff.mp hE
      refine y_iald ex14 dL_law_29 ?_
      refine y_bipush (v := (63 : Int32)) dL_law_30 (by decide) ?_
      refine y_iand dL_law_32 ?_
      by_cases hc27 : (x14 &&& (63 : Int32)) = (0 : Int32)
      · rw [if_pos hc27] at hE
        have hk := hc27
        refine y_tabIn (tgt := 228) dL_law_33 (by rw [hk]; decide) (by rw [hk]; decide) (by rw [hk]; rfl) (by decide) ?_
        refine y_aload_n dL_law_228 1 rfl ?_
        refine y_aload_n dL_law_229 0 rfl ?_
        refine y_iload_n dL_law_230 3 rfl ?_
        refine y_iconst (v := (1 : Int32)) dL_law_231 (by decide) ?_
        refine y_iadd dL_law_232 ?_
        obtain ⟨x15, ex15, hE⟩ := Option.bind_eq_some_iff.mp hE
        refine y_iald ex15 dL_law_233 ?_
        refine y_aload_n dL_law_234 0 rfl ?_
        refine y_iload_n dL_law_235 3 rfl ?_
        refine y_iconst (v := (2 : Int32)) dL_law_236 (by decide) ?_
        refine y_iadd dL_law_237 ?_
        obtain ⟨x16, ex16, hE⟩ := Option.bind_eq_some_iff.mp hE
        refine y_iald ex16 dL_law_238 ?_
        refine y_aload_n dL_law_239 0 rfl ?_
        refine y_iload_n dL_law_240 3 rfl ?_
        refine y_iconst (v := (3 : Int32)) dL_law_241 (by decide) ?_
        refine y_iadd dL_law_242 ?_
        obtain ⟨x17, ex17, hE⟩ := Option.bind_eq_some_iff.mp hE
        refine y_iald ex17 dL_law_243 ?_
        obtain ⟨u18, eu18, hE⟩ := Option.bind_eq_some_iff.mp hE
        obtain ⟨q19, eq19, hE⟩ := Option.bind_eq_some_iff.mp hE
        refine y_cVi0 (st := []) (as := [.int x15, .int x16, .int x17]) (c_X6_row eq19) lk_L_13 in_X6_row se_X6_row rfl eu18 ⟨Nat.le_of_ble_eq_true rfl, Nat.le_of_ble_eq_true rfl⟩ (Nat.le_of_ble_eq_true rfl) dL_law_244 ⟨by omega, by omega⟩ rfl ?_
        refine y_aload_n dL_law_247 2 rfl ?_
        refine y_aload_n dL_law_248 0 rfl ?_
        refine y_iload_n dL_law_249 3 rfl ?_
        refine y_iconst (v := (1 : Int32)) dL_law_250 (by decide) ?_
        refine y_iadd dL_law_251 ?_
        obtain ⟨x20, ex20, hE⟩ := Option.bind_eq_some_iff.mp hE
        refine y_iald ex20 dL_law_252 ?_
        refine y_aload_n dL_law_253 0 rfl ?_
        refine y_iload_n dL_law_254 3 rfl ?_
        refine y_iconst (v := (2 : Int32)) dL_law_255 (by decide) ?_
        refine y_iadd dL_law_256 ?_
        obtain ⟨x21, ex21, hE⟩ := Option.bind_eq_some_iff.mp hE
        refine y_iald ex21 dL_law_257 ?_
        refine y_aload_n dL_law_258 0 rfl ?_
        refine y_iload_n dL_law_259 3 rfl ?_
        refine y_iconst (v := (3 : Int32)) dL_law_260 (by decide) ?_
        refine y_iadd dL_law_261 ?_
        obtain ⟨x22, ex22, hE⟩ := Option.bind_eq_some_iff.mp hE
        refine y_iald ex22 dL_law_262 ?_
        obtain ⟨u23, eu23, hE⟩ := Option.bind_eq_some_iff.mp hE
        obtain ⟨q24, eq24, hE⟩ := Option.bind_eq_some_iff.mp hE
        refine y_cVi0 (st := [.int q19.1]) (as := [.int x20, .int x21, .int x22]) (c_X7_row eq24) lk_L_17 in_X7_row se_X7_row rfl eu23 ⟨Nat.le_of_ble_eq_true rfl, Nat.le_of_ble_eq_true rfl⟩ (Nat.le_of_ble_eq_true rfl) dL_law_263 ⟨by omega, by omega⟩ rfl ?_
        refine y_icmp_eq (tgt := 1560) dL_law_266 (by decide) (fun hc26 => ?_) (fun hc26 => ?_)
        · rw [if_pos hc26] at hE
          obtain ⟨x25, ex25, hE⟩ := Option.bind_eq_some_iff.mp hE
          refine y_iinc (ls' := [(3, .int x25), (0, .ref v0), (1, .ref v1), (2, .ref v2)]) dL_law_1560 3 rfl (Option.some.inj ex25) (by decide) rfl ?_
          refine y_goto (tgt := 18) dL_law_1563 (by decide) ?_
          refine y_pick [1, 2, 3, 0] rfl ?_
          exact ih _ _ _ _ _ _ _ hE (by omega) (by omega) hm KR K
        · rw [if_neg hc26] at hE
          refine y_iconst (v := (0 : Int32)) dL_law_269 (by decide) ?_
          obtain ⟨rfl, rfl, rfl⟩ := x_inj3 hE
          obtain ⟨rfl, rfl⟩ := KR _ rfl
          dsimp only
          exact y_ret dL_law_270 (by omega) (by omega) ⟨_, rfl, rfl⟩
      · rw [if_neg hc27] at hE
        by_cases hc42 : (x14 &&& (63 : Int32)) = (1 : Int32)
        · rw [if_pos hc42] at hE
          have hk := hc42
          refine y_tabIn (tgt := 271) dL_law_33 (by rw [hk]; decide) (by rw [hk]; decide) (by rw [hk]; rfl) (by decide) ?_
          refine y_aload_n dL_law_271 1 rfl ?_
          refine y_aload_n dL_law_272 0 rfl ?_
          refine y_iload_n dL_law_273 3 rfl ?_
          refine y_iconst (v := (1 : Int32)) dL_law_274 (by decide) ?_
          refine y_iadd dL_law_275 ?_
          obtain ⟨x28, ex28, hE⟩ := Option.bind_eq_some_iff.mp hE
          refine y_iald ex28 dL_law_276 ?_
          refine y_aload_n dL_law_277 0 rfl ?_
          refine y_iload_n dL_law_278 3 rfl ?_
          refine y_iconst (v := (2 : Int32)) dL_law_279 (by decide) ?_
          refine y_iadd dL_law_280 ?_
          obtain ⟨x29, ex29, hE⟩ := Option.bind_eq_some_iff.mp hE
          refine y_iald ex29 dL_law_281 ?_
          refine y_aload_n dL_law_282 0 rfl ?_
          refine y_iload_n dL_law_283 3 rfl ?_
          refine y_iconst (v := (3 : Int32)) dL_law_284 (by decide) ?_
          refine y_iadd dL_law_285 ?_
          obtain ⟨x30, ex30, hE⟩ := Option.bind_eq_some_iff.mp hE
          refine y_iald ex30 dL_law_286 ?_
          refine y_i2l dL_law_287 ?_
          refine y_bipush (v := (32 : Int32)) dL_law_288 (by decide) ?_
          refine y_lshl dL_law_290 ?_
          refine y_aload_n dL_law_291 0 rfl ?_
          refine y_iload_n dL_law_292 3 rfl ?_
          refine y_iconst (v := (4 : Int32)) dL_law_293 (by decide) ?_
          refine y_iadd dL_law_294 ?_
          obtain ⟨x31, ex31, hE⟩ := Option.bind_eq_some_iff.mp hE
          refine y_iald ex31 dL_law_295 ?_
          refine y_i2l dL_law_296 ?_
          refine y_ldc2 (v := (4294967295 : Int64)) (x_wt (tb 1463 (by decide +kernel)) rfl) dL_law_297 ?_
          refine y_land dL_law_300 ?_
          refine y_lor dL_law_301 ?_
          obtain ⟨u32, eu32, hE⟩ := Option.bind_eq_some_iff.mp hE
          obtain ⟨q33, eq33, hE⟩ := Option.bind_eq_some_iff.mp hE
          refine y_cVi0 (st := []) (as := [.int x28, .int x29, .long ((l_shl x30.toInt64 (32 : Int32)) ||| (x31.toInt64 &&& (4294967295 : Int64)))]) (c_X6_set eq33) lk_L_20 in_X6_set se_X6_set rfl eu32 ⟨Nat.le_of_ble_eq_true rfl, Nat.le_of_ble_eq_true rfl⟩ (Nat.le_of_ble_eq_true rfl) dL_law_302 ⟨by omega, by omega⟩ rfl ?_
          refine y_aload_n dL_law_305 2 rfl ?_
          refine y_aload_n dL_law_306 0 rfl ?_
          refine y_iload_n dL_law_307 3 rfl ?_
          refine y_iconst (v := (1 : Int32)) dL_law_308 (by decide) ?_
          refine y_iadd dL_law_309 ?_
          obtain ⟨x34, ex34, hE⟩ := Option.bind_eq_some_iff.mp hE
          refine y_iald ex34 dL_law_310 ?_
          refine y_aload_n dL_law_311 0 rfl ?_
          refine y_iload_n dL_law_312 3 rfl ?_
          refine y_iconst (v := (2 : Int32)) dL_law_313 (by decide) ?_
          refine y_iadd dL_law_314 ?_
          obtain ⟨x35, ex35, hE⟩ := Option.bind_eq_some_iff.mp hE
          refine y_iald ex35 dL_law_315 ?_
          refine y_aload_n dL_law_316 0 rfl ?_
          refine y_iload_n dL_law_317 3 rfl ?_
          refine y_iconst (v := (3 : Int32)) dL_law_318 (by decide) ?_
          refine y_iadd dL_law_319 ?_
          obtain ⟨x36, ex36, hE⟩ := Option.bind_eq_some_iff.mp hE
          refine y_iald ex36 dL_law_320 ?_
          refine y_i2l dL_law_321 ?_
          refine y_bipush (v := (32 : Int32)) dL_law_322 (by decide) ?_
          refine y_lshl dL_law_324 ?_
          refine y_aload_n dL_law_325 0 rfl ?_
          refine y_iload_n dL_law_326 3 rfl ?_
          refine y_iconst (v := (4 : Int32)) dL_law_327 (by decide) ?_
          refine y_iadd dL_law_328 ?_
          obtain ⟨x37, ex37, hE⟩ := Option.bind_eq_some_iff.mp hE
          refine y_iald ex37 dL_law_329 ?_
          refine y_i2l dL_law_330 ?_
          refine y_ldc2 (v := (4294967295 : Int64)) (x_wt (tb 1463 (by decide +kernel)) rfl) dL_law_331 ?_
          refine y_land dL_law_334 ?_
          refine y_lor dL_law_335 ?_
          obtain ⟨u38, eu38, hE⟩ := Option.bind_eq_some_iff.mp hE
          obtain ⟨q39, eq39, hE⟩ := Option.bind_eq_some_iff.mp hE
          refine y_cVi0 (st := [.int q33.1]) (as := [.int x34, .int x35, .long ((l_shl x36.toInt64 (32 : Int32)) ||| (x37.toInt64 &&& (4294967295 : Int64)))]) (c_X7_set eq39) lk_L_24 in_X7_set se_X7_set rfl eu38 ⟨Nat.le_of_ble_eq_true rfl, Nat.le_of_ble_eq_true rfl⟩ (Nat.le_of_ble_eq_true rfl) dL_law_336 ⟨by omega, by omega⟩ rfl ?_
          refine y_icmp_eq (tgt := 1560) dL_law_339 (by decide) (fun hc41 => ?_) (fun hc41 => ?_)
          · rw [if_pos hc41] at hE
            obtain ⟨x40, ex40, hE⟩ := Option.bind_eq_some_iff.mp hE
            refine y_iinc (ls' := [(3, .int x40), (0, .ref v0), (1, .ref v1), (2, .ref v2)]) dL_law_1560 3 rfl (Option.some.inj ex40) (by decide) rfl ?_
            refine y_goto (tgt := 18) dL_law_1563 (by decide) ?_
            refine y_pick [1, 2, 3, 0] rfl ?_
            exact ih _ _ _ _ _ _ _ hE (by omega) (by omega) hm KR K
          · rw [if_neg hc41] at hE
            refine y_iconst (v := (0 : Int32)) dL_law_342 (by decide) ?_
            obtain ⟨rfl, rfl, rfl⟩ := x_inj3 hE
            obtain ⟨rfl, rfl⟩ := KR _ rfl
            dsimp only
            exact y_ret dL_law_343 (by omega) (by omega) ⟨_, rfl, rfl⟩
        · rw [if_neg hc42] at hE
          by_cases hc59 : (x14 &&& (63 : Int32)) = (2 : Int32)
          · rw [if_pos hc59] at hE
            have hk := hc59
            refine y_tabIn (tgt := 344) dL_law_33 (by rw [hk]; decide) (by rw [hk]; decide) (by rw [hk]; rfl) (by decide) ?_
            refine y_aload_n dL_law_344 1 rfl ?_
            refine y_aload_n dL_law_345 0 rfl ?_
            refine y_iload_n dL_law_346 3 rfl ?_
            refine y_iconst (v := (1 : Int32)) dL_law_347 (by decide) ?_
            refine y_iadd dL_law_348 ?_
            obtain ⟨x43, ex43, hE⟩ := Option.bind_eq_some_iff.mp hE
            refine y_iald ex43 dL_law_349 ?_
            refine y_aload_n dL_law_350 0 rfl ?_
            refine y_iload_n dL_law_351 3 rfl ?_
            refine y_iconst (v := (2 : Int32)) dL_law_352 (by decide) ?_
            refine y_iadd dL_law_353 ?_
            obtain ⟨x44, ex44, hE⟩ := Option.bind_eq_some_iff.mp hE
            refine y_iald ex44 dL_law_354 ?_
            refine y_aload_n dL_law_355 0 rfl ?_
            refine y_iload_n dL_law_356 3 rfl ?_
            refine y_iconst (v := (3 : Int32)) dL_law_357 (by decide) ?_
            refine y_iadd dL_law_358 ?_
            obtain ⟨x45, ex45, hE⟩ := Option.bind_eq_some_iff.mp hE
            refine y_iald ex45 dL_law_359 ?_
            refine y_aload_n dL_law_360 0 rfl ?_
            refine y_iload_n dL_law_361 3 rfl ?_
            refine y_iconst (v := (4 : Int32)) dL_law_362 (by decide) ?_
            refine y_iadd dL_law_363 ?_
            obtain ⟨x46, ex46, hE⟩ := Option.bind_eq_some_iff.mp hE
            refine y_iald ex46 dL_law_364 ?_
            refine y_aload_n dL_law_365 0 rfl ?_
            refine y_iload_n dL_law_366 3 rfl ?_
            refine y_iconst (v := (5 : Int32)) dL_law_367 (by decide) ?_
            refine y_iadd dL_law_368 ?_
            obtain ⟨x47, ex47, hE⟩ := Option.bind_eq_some_iff.mp hE
            refine y_iald ex47 dL_law_369 ?_
            obtain ⟨u48, eu48, hE⟩ := Option.bind_eq_some_iff.mp hE
            obtain ⟨q49, eq49, hE⟩ := Option.bind_eq_some_iff.mp hE
            refine y_cVi0 (st := []) (as := [.int x43, .int x44, .int x45, .int x46, .int x47]) (c_X6_copy eq49) lk_L_25 in_X6_copy se_X6_copy rfl eu48 ⟨Nat.le_of_ble_eq_true rfl, Nat.le_of_ble_eq_true rfl⟩ (Nat.le_of_ble_eq_true rfl) dL_law_370 ⟨by omega, by omega⟩ rfl ?_
            refine y_aload_n dL_law_373 2 rfl ?_
            refine y_aload_n dL_law_374 0 rfl ?_
            refine y_iload_n dL_law_375 3 rfl ?_
            refine y_iconst (v := (1 : Int32)) dL_law_376 (by decide) ?_
            refine y_iadd dL_law_377 ?_
            obtain ⟨x50, ex50, hE⟩ := Option.bind_eq_some_iff.mp hE
            refine y_iald ex50 dL_law_378 ?_
            refine y_aload_n dL_law_379 0 rfl ?_
            refine y_iload_n dL_law_380 3 rfl ?_
            refine y_iconst (v := (2 : Int32)) dL_law_381 (by decide) ?_
            refine y_iadd dL_law_382 ?_
            obtain ⟨x51, ex51, hE⟩ := Option.bind_eq_some_iff.mp hE
            refine y_iald ex51 dL_law_383 ?_
            refine y_aload_n dL_law_384 0 rfl ?_
            refine y_iload_n dL_law_385 3 rfl ?_
            refine y_iconst (v := (3 : Int32)) dL_law_386 (by decide) ?_
            refine y_iadd dL_law_387 ?_
            obtain ⟨x52, ex52, hE⟩ := Option.bind_eq_some_iff.mp hE
            refine y_iald ex52 dL_law_388 ?_
            refine y_aload_n dL_law_389 0 rfl ?_
            refine y_iload_n dL_law_390 3 rfl ?_
            refine y_iconst (v := (4 : Int32)) dL_law_391 (by decide) ?_
            refine y_iadd dL_law_392 ?_
            obtain ⟨x53, ex53, hE⟩ := Option.bind_eq_some_iff.mp hE
            refine y_iald ex53 dL_law_393 ?_
            refine y_aload_n dL_law_394 0 rfl ?_
            refine y_iload_n dL_law_395 3 rfl ?_
            refine y_iconst (v := (5 : Int32)) dL_law_396 (by decide) ?_
            refine y_iadd dL_law_397 ?_
            obtain ⟨x54, ex54, hE⟩ := Option.bind_eq_some_iff.mp hE
            refine y_iald ex54 dL_law_398 ?_
            obtain ⟨u55, eu55, hE⟩ := Option.bind_eq_some_iff.mp hE
            obtain ⟨q56, eq56, hE⟩ := Option.bind_eq_some_iff.mp hE
            refine y_cVi0 (st := [.int q49.1]) (as := [.int x50, .int x51, .int x52, .int x53, .int x54]) (c_X7_copy eq56) lk_L_29 in_X7_copy se_X7_copy rfl eu55 ⟨Nat.le_of_ble_eq_true rfl, Nat.le_of_ble_eq_true rfl⟩ (Nat.le_of_ble_eq_true rfl) dL_law_399 ⟨by omega, by omega⟩ rfl ?_
            refine y_icmp_eq (tgt := 1560) dL_law_402 (by decide) (fun hc58 => ?_) (fun hc58 => ?_)
            · rw [if_pos hc58] at hE
              obtain ⟨x57, ex57, hE⟩ := Option.bind_eq_some_iff.mp hE
              refine y_iinc (ls' := [(3, .int x57), (0, .ref v0), (1, .ref v1), (2, .ref v2)]) dL_law_1560 3 rfl (Option.some.inj ex57) (by decide) rfl ?_
              refine y_goto (tgt := 18) dL_law_1563 (by decide) ?_
              refine y_pick [1, 2, 3, 0] rfl ?_
              exact ih _ _ _ _ _ _ _ hE (by omega) (by omega) hm KR K
            · rw [if_neg hc58] at hE
              refine y_iconst (v := (0 : Int32)) dL_law_405 (by decide) ?_
              obtain ⟨rfl, rfl, rfl⟩ := x_inj3 hE
              obtain ⟨rfl, rfl⟩ := KR _ rfl
              dsimp only
              exact y_ret dL_law_406 (by omega) (by omega) ⟨_, rfl, rfl⟩
          · rw [if_neg hc59] at hE
            by_cases hc70 : (x14 &&& (63 : Int32)) = (3 : Int32)
            · rw [if_pos hc70] at hE
              have hk := hc70
              refine y_tabIn (tgt := 407) dL_law_33 (by rw [hk]; decide) (by rw [hk]; decide) (by rw [hk]; rfl) (by decide) ?_
              refine y_aload_n dL_law_407 1 rfl ?_
              refine y_aload_n dL_law_408 0 rfl ?_
              refine y_iload_n dL_law_409 3 rfl ?_
              refine y_iconst (v := (1 : Int32)) dL_law_410 (by decide) ?_
              refine y_iadd dL_law_411 ?_
              obtain ⟨x60, ex60, hE⟩ := Option.bind_eq_some_iff.mp hE
              refine y_iald ex60 dL_law_412 ?_
              refine y_aload_n dL_law_413 0 rfl ?_
              refine y_iload_n dL_law_414 3 rfl ?_
              refine y_iconst (v := (2 : Int32)) dL_law_415 (by decide) ?_
              refine y_iadd dL_law_416 ?_
              obtain ⟨x61, ex61, hE⟩ := Option.bind_eq_some_iff.mp hE
              refine y_iald ex61 dL_law_417 ?_
              obtain ⟨u62, eu62, hE⟩ := Option.bind_eq_some_iff.mp hE
              obtain ⟨q63, eq63, hE⟩ := Option.bind_eq_some_iff.mp hE
              refine y_cVl0 (st := []) (as := [.int x60, .int x61]) (c_X6_element eq63) lk_L_30 in_X6_element se_X6_element rfl eu62 ⟨Nat.le_of_ble_eq_true rfl, Nat.le_of_ble_eq_true rfl⟩ (Nat.le_of_ble_eq_true rfl) dL_law_418 ⟨by omega, by omega⟩ rfl ?_
              refine y_aload_n dL_law_421 2 rfl ?_
              refine y_aload_n dL_law_422 0 rfl ?_
              refine y_iload_n dL_law_423 3 rfl ?_
              refine y_iconst (v := (1 : Int32)) dL_law_424 (by decide) ?_
              refine y_iadd dL_law_425 ?_
              obtain ⟨x64, ex64, hE⟩ := Option.bind_eq_some_iff.mp hE
              refine y_iald ex64 dL_law_426 ?_
              refine y_aload_n dL_law_427 0 rfl ?_
              refine y_iload_n dL_law_428 3 rfl ?_
              refine y_iconst (v := (2 : Int32)) dL_law_429 (by decide) ?_
              refine y_iadd dL_law_430 ?_
              obtain ⟨x65, ex65, hE⟩ := Option.bind_eq_some_iff.mp hE
              refine y_iald ex65 dL_law_431 ?_
              obtain ⟨u66, eu66, hE⟩ := Option.bind_eq_some_iff.mp hE
              obtain ⟨q67, eq67, hE⟩ := Option.bind_eq_some_iff.mp hE
              refine y_cVl0 (st := [.long q63]) (as := [.int x64, .int x65]) (c_X7_element eq67) lk_L_34 in_X7_element se_X7_element rfl eu66 ⟨Nat.le_of_ble_eq_true rfl, Nat.le_of_ble_eq_true rfl⟩ (Nat.le_of_ble_eq_true rfl) dL_law_432 ⟨by omega, by omega⟩ rfl ?_
              refine y_lcmp dL_law_435 ?_
              refine y_if_eq (tgt := 1560) dL_law_436 (by decide) (fun hc69 => ?_) (fun hc69 => ?_)
              · rw [if_pos hc69] at hE
                obtain ⟨x68, ex68, hE⟩ := Option.bind_eq_some_iff.mp hE
                refine y_iinc (ls' := [(3, .int x68), (0, .ref v0), (1, .ref v1), (2, .ref v2)]) dL_law_1560 3 rfl (Option.some.inj ex68) (by decide) rfl ?_
                refine y_goto (tgt := 18) dL_law_1563 (by decide) ?_
                refine y_pick [1, 2, 3, 0] rfl ?_
                exact ih _ _ _ _ _ _ _ hE (by omega) (by omega) hm KR K
              · rw [if_neg hc69] at hE
                refine y_iconst (v := (0 : Int32)) dL_law_439 (by decide) ?_
                obtain ⟨rfl, rfl, rfl⟩ := x_inj3 hE
                obtain ⟨rfl, rfl⟩ := KR _ rfl
                dsimp only
                exact y_ret dL_law_440 (by omega) (by omega) ⟨_, rfl, rfl⟩
            · rw [if_neg hc70] at hE
              by_cases hc79 : (x14 &&& (63 : Int32)) = (4 : Int32)
              · rw [if_pos hc79] at hE
                have hk := hc79
                refine y_tabIn (tgt := 441) dL_law_33 (by rw [hk]; decide) (by rw [hk]; decide) (by rw [hk]; rfl) (by decide) ?_
                refine y_aload_n dL_law_441 1 rfl ?_
                refine y_aload_n dL_law_442 0 rfl ?_
                refine y_iload_n dL_law_443 3 rfl ?_
                refine y_iconst (v := (1 : Int32)) dL_law_444 (by decide) ?_
                refine y_iadd dL_law_445 ?_
                obtain ⟨x71, ex71, hE⟩ := Option.bind_eq_some_iff.mp hE
                refine y_iald ex71 dL_law_446 ?_
                obtain ⟨u72, eu72, hE⟩ := Option.bind_eq_some_iff.mp hE
                obtain ⟨q73, eq73, hE⟩ := Option.bind_eq_some_iff.mp hE
                refine y_cVi0 (st := []) (as := [.int x71]) (c_X6_holds eq73) lk_L_35 in_X6_holds se_X6_holds rfl eu72 ⟨Nat.le_of_ble_eq_true rfl, Nat.le_of_ble_eq_true rfl⟩ (Nat.le_of_ble_eq_true rfl) dL_law_447 ⟨by omega, by omega⟩ rfl ?_
                refine y_aload_n dL_law_450 2 rfl ?_
                refine y_aload_n dL_law_451 0 rfl ?_
                refine y_iload_n dL_law_452 3 rfl ?_
                refine y_iconst (v := (1 : Int32)) dL_law_453 (by decide) ?_
                refine y_iadd dL_law_454 ?_
                obtain ⟨x74, ex74, hE⟩ := Option.bind_eq_some_iff.mp hE
                refine y_iald ex74 dL_law_455 ?_
                obtain ⟨u75, eu75, hE⟩ := Option.bind_eq_some_iff.mp hE
                obtain ⟨q76, eq76, hE⟩ := Option.bind_eq_some_iff.mp hE
                refine y_cVi0 (st := [.int q73]) (as := [.int x74]) (c_X7_holds eq76) lk_L_39 in_X7_holds se_X7_holds rfl eu75 ⟨Nat.le_of_ble_eq_true rfl, Nat.le_of_ble_eq_true rfl⟩ (Nat.le_of_ble_eq_true rfl) dL_law_456 ⟨by omega, by omega⟩ rfl ?_
                refine y_icmp_eq (tgt := 1560) dL_law_459 (by decide) (fun hc78 => ?_) (fun hc78 => ?_)
                · rw [if_pos hc78] at hE
                  obtain ⟨x77, ex77, hE⟩ := Option.bind_eq_some_iff.mp hE
                  refine y_iinc (ls' := [(3, .int x77), (0, .ref v0), (1, .ref v1), (2, .ref v2)]) dL_law_1560 3 rfl (Option.some.inj ex77) (by decide) rfl ?_
                  refine y_goto (tgt := 18) dL_law_1563 (by decide) ?_
                  refine y_pick [1, 2, 3, 0] rfl ?_
                  exact ih _ _ _ _ _ _ _ hE (by omega) (by omega) hm KR K
                · rw [if_neg hc78] at hE
                  refine y_iconst (v := (0 : Int32)) dL_law_462 (by decide) ?_
                  obtain ⟨rfl, rfl, rfl⟩ := x_inj3 hE
                  obtain ⟨rfl, rfl⟩ := KR _ rfl
                  dsimp only
                  exact y_ret dL_law_463 (by omega) (by omega) ⟨_, rfl, rfl⟩
              · rw [if_neg hc79] at hE
                by_cases hc90 : (x14 &&& (63 : Int32)) = (5 : Int32)
                · rw [if_pos hc90] at hE
                  have hk := hc90
                  refine y_tabIn (tgt := 464) dL_law_33 (by rw [hk]; decide) (by rw [hk]; decide) (by rw [hk]; rfl) (by decide) ?_
                  refine y_aload_n dL_law_464 1 rfl ?_
                  refine y_aload_n dL_law_465 0 rfl ?_
                  refine y_iload_n dL_law_466 3 rfl ?_
                  refine y_iconst (v := (1 : Int32)) dL_law_467 (by decide) ?_
                  refine y_iadd dL_law_468 ?_
                  obtain ⟨x80, ex80, hE⟩ := Option.bind_eq_some_iff.mp hE
                  refine y_iald ex80 dL_law_469 ?_
                  refine y_aload_n dL_law_470 0 rfl ?_
                  refine y_iload_n dL_law_471 3 rfl ?_
                  refine y_iconst (v := (2 : Int32)) dL_law_472 (by decide) ?_
                  refine y_iadd dL_law_473 ?_
                  obtain ⟨x81, ex81, hE⟩ := Option.bind_eq_some_iff.mp hE
                  refine y_iald ex81 dL_law_474 ?_
                  obtain ⟨u82, eu82, hE⟩ := Option.bind_eq_some_iff.mp hE
                  obtain ⟨q83, eq83, hE⟩ := Option.bind_eq_some_iff.mp hE
                  refine y_cVi0 (st := []) (as := [.int x80, .int x81]) (c_X6_show eq83) lk_L_40 in_X6_show se_X6_show rfl eu82 ⟨Nat.le_of_ble_eq_true rfl, Nat.le_of_ble_eq_true rfl⟩ (Nat.le_of_ble_eq_true rfl) dL_law_475 ⟨by omega, by omega⟩ rfl ?_
                  refine y_aload_n dL_law_478 2 rfl ?_
                  refine y_aload_n dL_law_479 0 rfl ?_
                  refine y_iload_n dL_law_480 3 rfl ?_
                  refine y_iconst (v := (1 : Int32)) dL_law_481 (by decide) ?_
                  refine y_iadd dL_law_482 ?_
                  obtain ⟨x84, ex84, hE⟩ := Option.bind_eq_some_iff.mp hE
                  refine y_iald ex84 dL_law_483 ?_
                  refine y_aload_n dL_law_484 0 rfl ?_
                  refine y_iload_n dL_law_485 3 rfl ?_
                  refine y_iconst (v := (2 : Int32)) dL_law_486 (by decide) ?_
                  refine y_iadd dL_law_487 ?_
                  obtain ⟨x85, ex85, hE⟩ := Option.bind_eq_some_iff.mp hE
                  refine y_iald ex85 dL_law_488 ?_
                  obtain ⟨u86, eu86, hE⟩ := Option.bind_eq_some_iff.mp hE
                  obtain ⟨q87, eq87, hE⟩ := Option.bind_eq_some_iff.mp hE
                  refine y_cVi0 (st := [.int q83.1]) (as := [.int x84, .int x85]) (c_X7_show eq87) lk_L_44 in_X7_show se_X7_show rfl eu86 ⟨Nat.le_of_ble_eq_true rfl, Nat.le_of_ble_eq_true rfl⟩ (Nat.le_of_ble_eq_true rfl) dL_law_489 ⟨by omega, by omega⟩ rfl ?_
                  refine y_icmp_eq (tgt := 1560) dL_law_492 (by decide) (fun hc89 => ?_) (fun hc89 => ?_)
                  · rw [if_pos hc89] at hE
                    obtain ⟨x88, ex88, hE⟩ := Option.bind_eq_some_iff.mp hE
                    refine y_iinc (ls' := [(3, .int x88), (0, .ref v0), (1, .ref v1), (2, .ref v2)]) dL_law_1560 3 rfl (Option.some.inj ex88) (by decide) rfl ?_
                    refine y_goto (tgt := 18) dL_law_1563 (by decide) ?_
                    refine y_pick [1, 2, 3, 0] rfl ?_
                    exact ih _ _ _ _ _ _ _ hE (by omega) (by omega) hm KR K
                  · rw [if_neg hc89] at hE
                    refine y_iconst (v := (0 : Int32)) dL_law_495 (by decide) ?_
                    obtain ⟨rfl, rfl, rfl⟩ := x_inj3 hE
                    obtain ⟨rfl, rfl⟩ := KR _ rfl
                    dsimp only
                    exact y_ret dL_law_496 (by omega) (by omega) ⟨_, rfl, rfl⟩
                · rw [if_neg hc90] at hE
                  by_cases hc101 : (x14 &&& (63 : Int32)) = (6 : Int32)
                  · rw [if_pos hc101] at hE
                    have hk := hc101
                    refine y_tabIn (tgt := 497) dL_law_33 (by rw [hk]; decide) (by rw [hk]; decide) (by rw [hk]; rfl) (by decide) ?_
                    refine y_aload_n dL_law_497 1 rfl ?_
                    refine y_aload_n dL_law_498 0 rfl ?_
                    refine y_iload_n dL_law_499 3 rfl ?_
                    refine y_iconst (v := (1 : Int32)) dL_law_500 (by decide) ?_
                    refine y_iadd dL_law_501 ?_
                    obtain ⟨x91, ex91, hE⟩ := Option.bind_eq_some_iff.mp hE
                    refine y_iald ex91 dL_law_502 ?_
                    refine y_aload_n dL_law_503 0 rfl ?_
                    refine y_iload_n dL_law_504 3 rfl ?_
                    refine y_iconst (v := (2 : Int32)) dL_law_505 (by decide) ?_
                    refine y_iadd dL_law_506 ?_
                    obtain ⟨x92, ex92, hE⟩ := Option.bind_eq_some_iff.mp hE
                    refine y_iald ex92 dL_law_507 ?_
                    obtain ⟨u93, eu93, hE⟩ := Option.bind_eq_some_iff.mp hE
                    obtain ⟨q94, eq94, hE⟩ := Option.bind_eq_some_iff.mp hE
                    refine y_cVi0 (st := []) (as := [.int x91, .int x92]) (c_X6_says eq94) lk_L_45 in_X6_says se_X6_says rfl eu93 ⟨Nat.le_of_ble_eq_true rfl, Nat.le_of_ble_eq_true rfl⟩ (Nat.le_of_ble_eq_true rfl) dL_law_508 ⟨by omega, by omega⟩ rfl ?_
                    refine y_aload_n dL_law_511 2 rfl ?_
                    refine y_aload_n dL_law_512 0 rfl ?_
                    refine y_iload_n dL_law_513 3 rfl ?_
                    refine y_iconst (v := (1 : Int32)) dL_law_514 (by decide) ?_
                    refine y_iadd dL_law_515 ?_
                    obtain ⟨x95, ex95, hE⟩ := Option.bind_eq_some_iff.mp hE
                    refine y_iald ex95 dL_law_516 ?_
                    refine y_aload_n dL_law_517 0 rfl ?_
                    refine y_iload_n dL_law_518 3 rfl ?_
                    refine y_iconst (v := (2 : Int32)) dL_law_519 (by decide) ?_
                    refine y_iadd dL_law_520 ?_
                    obtain ⟨x96, ex96, hE⟩ := Option.bind_eq_some_iff.mp hE
                    refine y_iald ex96 dL_law_521 ?_
                    obtain ⟨u97, eu97, hE⟩ := Option.bind_eq_some_iff.mp hE
                    obtain ⟨q98, eq98, hE⟩ := Option.bind_eq_some_iff.mp hE
                    refine y_cVi0 (st := [.int q94.1]) (as := [.int x95, .int x96]) (c_X7_says eq98) lk_L_48 in_X7_says se_X7_says rfl eu97 ⟨Nat.le_of_ble_eq_true rfl, Nat.le_of_ble_eq_true rfl⟩ (Nat.le_of_ble_eq_true rfl) dL_law_522 ⟨by omega, by omega⟩ rfl ?_
                    refine y_icmp_eq (tgt := 1560) dL_law_525 (by decide) (fun hc100 => ?_) (fun hc100 => ?_)
                    · rw [if_pos hc100] at hE
                      obtain ⟨x99, ex99, hE⟩ := Option.bind_eq_some_iff.mp hE
                      refine y_iinc (ls' := [(3, .int x99), (0, .ref v0), (1, .ref v1), (2, .ref v2)]) dL_law_1560 3 rfl (Option.some.inj ex99) (by decide) rfl ?_
                      refine y_goto (tgt := 18) dL_law_1563 (by decide) ?_
                      refine y_pick [1, 2, 3, 0] rfl ?_
                      exact ih _ _ _ _ _ _ _ hE (by omega) (by omega) hm KR K
                    · rw [if_neg hc100] at hE
                      refine y_iconst (v := (0 : Int32)) dL_law_528 (by decide) ?_
                      obtain ⟨rfl, rfl, rfl⟩ := x_inj3 hE
                      obtain ⟨rfl, rfl⟩ := KR _ rfl
                      dsimp only
                      exact y_ret dL_law_529 (by omega) (by omega) ⟨_, rfl, rfl⟩
                  · rw [if_neg hc101] at hE
                    by_cases hc114 : (x14 &&& (63 : Int32)) = (7 : Int32)
                    · rw [if_pos hc114] at hE
                      have hk := hc114
                      refine y_tabIn (tgt := 530) dL_law_33 (by rw [hk]; decide) (by rw [hk]; decide) (by rw [hk]; rfl) (by decide) ?_
                      refine y_aload_n dL_law_530 1 rfl ?_
                      refine y_aload_n dL_law_531 0 rfl ?_
                      refine y_iload_n dL_law_532 3 rfl ?_
                      refine y_iconst (v := (1 : Int32)) dL_law_533 (by decide) ?_
                      refine y_iadd dL_law_534 ?_
                      obtain ⟨x102, ex102, hE⟩ := Option.bind_eq_some_iff.mp hE
                      refine y_iald ex102 dL_law_535 ?_
                      refine y_aload_n dL_law_536 0 rfl ?_
                      refine y_iload_n dL_law_537 3 rfl ?_
                      refine y_iconst (v := (2 : Int32)) dL_law_538 (by decide) ?_
                      refine y_iadd dL_law_539 ?_
                      obtain ⟨x103, ex103, hE⟩ := Option.bind_eq_some_iff.mp hE
                      refine y_iald ex103 dL_law_540 ?_
                      refine y_aload_n dL_law_541 0 rfl ?_
                      refine y_iload_n dL_law_542 3 rfl ?_
                      refine y_iconst (v := (3 : Int32)) dL_law_543 (by decide) ?_
                      refine y_iadd dL_law_544 ?_
                      obtain ⟨x104, ex104, hE⟩ := Option.bind_eq_some_iff.mp hE
                      refine y_iald ex104 dL_law_545 ?_
                      obtain ⟨u105, eu105, hE⟩ := Option.bind_eq_some_iff.mp hE
                      obtain ⟨q106, eq106, hE⟩ := Option.bind_eq_some_iff.mp hE
                      refine y_cVi0 (st := []) (as := [.int x102, .int x103, .int x104]) (c_X6_door eq106) lk_L_49 in_X6_door se_X6_door rfl eu105 ⟨Nat.le_of_ble_eq_true rfl, Nat.le_of_ble_eq_true rfl⟩ (Nat.le_of_ble_eq_true rfl) dL_law_546 ⟨by omega, by omega⟩ rfl ?_
                      refine y_aload_n dL_law_549 2 rfl ?_
                      refine y_aload_n dL_law_550 0 rfl ?_
                      refine y_iload_n dL_law_551 3 rfl ?_
                      refine y_iconst (v := (1 : Int32)) dL_law_552 (by decide) ?_
                      refine y_iadd dL_law_553 ?_
                      obtain ⟨x107, ex107, hE⟩ := Option.bind_eq_some_iff.mp hE
                      refine y_iald ex107 dL_law_554 ?_
                      refine y_aload_n dL_law_555 0 rfl ?_
                      refine y_iload_n dL_law_556 3 rfl ?_
                      refine y_iconst (v := (2 : Int32)) dL_law_557 (by decide) ?_
                      refine y_iadd dL_law_558 ?_
                      obtain ⟨x108, ex108, hE⟩ := Option.bind_eq_some_iff.mp hE
                      refine y_iald ex108 dL_law_559 ?_
                      refine y_aload_n dL_law_560 0 rfl ?_
                      refine y_iload_n dL_law_561 3 rfl ?_
                      refine y_iconst (v := (3 : Int32)) dL_law_562 (by decide) ?_
                      refine y_iadd dL_law_563 ?_
                      obtain ⟨x109, ex109, hE⟩ := Option.bind_eq_some_iff.mp hE
                      refine y_iald ex109 dL_law_564 ?_
                      obtain ⟨u110, eu110, hE⟩ := Option.bind_eq_some_iff.mp hE
                      obtain ⟨q111, eq111, hE⟩ := Option.bind_eq_some_iff.mp hE
                      refine y_cVi0 (st := [.int q106.1]) (as := [.int x107, .int x108, .int x109]) (c_X7_door eq111) lk_L_52 in_X7_door se_X7_door rfl eu110 ⟨Nat.le_of_ble_eq_true rfl, Nat.le_of_ble_eq_true rfl⟩ (Nat.le_of_ble_eq_true rfl) dL_law_565 ⟨by omega, by omega⟩ rfl ?_
                      refine y_icmp_eq (tgt := 1560) dL_law_568 (by decide) (fun hc113 => ?_) (fun hc113 => ?_)
                      · rw [if_pos hc113] at hE
                        obtain ⟨x112, ex112, hE⟩ := Option.bind_eq_some_iff.mp hE
                        refine y_iinc (ls' := [(3, .int x112), (0, .ref v0), (1, .ref v1), (2, .ref v2)]) dL_law_1560 3 rfl (Option.some.inj ex112) (by decide) rfl ?_
                        refine y_goto (tgt := 18) dL_law_1563 (by decide) ?_
                        refine y_pick [1, 2, 3, 0] rfl ?_
                        exact ih _ _ _ _ _ _ _ hE (by omega) (by omega) hm KR K
                      · rw [if_neg hc113] at hE
                        refine y_iconst (v := (0 : Int32)) dL_law_571 (by decide) ?_
                        obtain ⟨rfl, rfl, rfl⟩ := x_inj3 hE
                        obtain ⟨rfl, rfl⟩ := KR _ rfl
                        dsimp only
                        exact y_ret dL_law_572 (by omega) (by omega) ⟨_, rfl, rfl⟩
                    · rw [if_neg hc114] at hE
                      by_cases hc123 : (x14 &&& (63 : Int32)) = (8 : Int32)
                      · rw [if_pos hc123] at hE
                        have hk := hc123
                        refine y_tabIn (tgt := 573) dL_law_33 (by rw [hk]; decide) (by rw [hk]; decide) (by rw [hk]; rfl) (by decide) ?_
                        refine y_aload_n dL_law_573 1 rfl ?_
                        refine y_aload_n dL_law_574 0 rfl ?_
                        refine y_iload_n dL_law_575 3 rfl ?_
                        refine y_iconst (v := (1 : Int32)) dL_law_576 (by decide) ?_
                        refine y_iadd dL_law_577 ?_
                        obtain ⟨x115, ex115, hE⟩ := Option.bind_eq_some_iff.mp hE
                        refine y_iald ex115 dL_law_578 ?_
                        obtain ⟨u116, eu116, hE⟩ := Option.bind_eq_some_iff.mp hE
                        obtain ⟨q117, eq117, hE⟩ := Option.bind_eq_some_iff.mp hE
                        refine y_cVi0 (st := []) (as := [.int x115]) (c_X6_one eq117) lk_L_53 in_X6_one se_X6_one rfl eu116 ⟨Nat.le_of_ble_eq_true rfl, Nat.le_of_ble_eq_true rfl⟩ (Nat.le_of_ble_eq_true rfl) dL_law_579 ⟨by omega, by omega⟩ rfl ?_
                        refine y_aload_n dL_law_582 2 rfl ?_
                        refine y_aload_n dL_law_583 0 rfl ?_
                        refine y_iload_n dL_law_584 3 rfl ?_
                        refine y_iconst (v := (1 : Int32)) dL_law_585 (by decide) ?_
                        refine y_iadd dL_law_586 ?_
                        obtain ⟨x118, ex118, hE⟩ := Option.bind_eq_some_iff.mp hE
                        refine y_iald ex118 dL_law_587 ?_
                        obtain ⟨u119, eu119, hE⟩ := Option.bind_eq_some_iff.mp hE
                        obtain ⟨q120, eq120, hE⟩ := Option.bind_eq_some_iff.mp hE
                        refine y_cVi0 (st := [.int q117.1]) (as := [.int x118]) (c_X7_one eq120) lk_L_56 in_X7_one se_X7_one rfl eu119 ⟨Nat.le_of_ble_eq_true rfl, Nat.le_of_ble_eq_true rfl⟩ (Nat.le_of_ble_eq_true rfl) dL_law_588 ⟨by omega, by omega⟩ rfl ?_
                        refine y_icmp_eq (tgt := 1560) dL_law_591 (by decide) (fun hc122 => ?_) (fun hc122 => ?_)
                        · rw [if_pos hc122] at hE
                          obtain ⟨x121, ex121, hE⟩ := Option.bind_eq_some_iff.mp hE
                          refine y_iinc (ls' := [(3, .int x121), (0, .ref v0), (1, .ref v1), (2, .ref v2)]) dL_law_1560 3 rfl (Option.some.inj ex121) (by decide) rfl ?_
                          refine y_goto (tgt := 18) dL_law_1563 (by decide) ?_
                          refine y_pick [1, 2, 3, 0] rfl ?_
                          exact ih _ _ _ _ _ _ _ hE (by omega) (by omega) hm KR K
                        · rw [if_neg hc122] at hE
                          refine y_iconst (v := (0 : Int32)) dL_law_594 (by decide) ?_
                          obtain ⟨rfl, rfl, rfl⟩ := x_inj3 hE
                          obtain ⟨rfl, rfl⟩ := KR _ rfl
                          dsimp only
                          exact y_ret dL_law_595 (by omega) (by omega) ⟨_, rfl, rfl⟩
                      · rw [if_neg hc123] at hE
                        by_cases hc134 : (x14 &&& (63 : Int32)) = (9 : Int32)
                        · rw [if_pos hc134] at hE
                          have hk := hc134
                          refine y_tabIn (tgt := 596) dL_law_33 (by rw [hk]; decide) (by rw [hk]; decide) (by rw [hk]; rfl) (by decide) ?_
                          refine y_aload_n dL_law_596 1 rfl ?_
                          refine y_aload_n dL_law_597 0 rfl ?_
                          refine y_iload_n dL_law_598 3 rfl ?_
                          refine y_iconst (v := (1 : Int32)) dL_law_599 (by decide) ?_
                          refine y_iadd dL_law_600 ?_
                          obtain ⟨x124, ex124, hE⟩ := Option.bind_eq_some_iff.mp hE
                          refine y_iald ex124 dL_law_601 ?_
                          refine y_aload_n dL_law_602 0 rfl ?_
                          refine y_iload_n dL_law_603 3 rfl ?_
                          refine y_iconst (v := (2 : Int32)) dL_law_604 (by decide) ?_
                          refine y_iadd dL_law_605 ?_
                          obtain ⟨x125, ex125, hE⟩ := Option.bind_eq_some_iff.mp hE
                          refine y_iald ex125 dL_law_606 ?_
                          obtain ⟨u126, eu126, hE⟩ := Option.bind_eq_some_iff.mp hE
                          obtain ⟨q127, eq127, hE⟩ := Option.bind_eq_some_iff.mp hE
                          refine y_cVi0 (st := []) (as := [.int x124, .int x125]) (c_X6_ask eq127) lk_L_57 in_X6_ask se_X6_ask rfl eu126 ⟨Nat.le_of_ble_eq_true rfl, Nat.le_of_ble_eq_true rfl⟩ (Nat.le_of_ble_eq_true rfl) dL_law_607 ⟨by omega, by omega⟩ rfl ?_
                          refine y_aload_n dL_law_610 2 rfl ?_
                          refine y_aload_n dL_law_611 0 rfl ?_
                          refine y_iload_n dL_law_612 3 rfl ?_
                          refine y_iconst (v := (1 : Int32)) dL_law_613 (by decide) ?_
                          refine y_iadd dL_law_614 ?_
                          obtain ⟨x128, ex128, hE⟩ := Option.bind_eq_some_iff.mp hE
                          refine y_iald ex128 dL_law_615 ?_
                          refine y_aload_n dL_law_616 0 rfl ?_
                          refine y_iload_n dL_law_617 3 rfl ?_
                          refine y_iconst (v := (2 : Int32)) dL_law_618 (by decide) ?_
                          refine y_iadd dL_law_619 ?_
                          obtain ⟨x129, ex129, hE⟩ := Option.bind_eq_some_iff.mp hE
                          refine y_iald ex129 dL_law_620 ?_
                          obtain ⟨u130, eu130, hE⟩ := Option.bind_eq_some_iff.mp hE
                          obtain ⟨q131, eq131, hE⟩ := Option.bind_eq_some_iff.mp hE
                          refine y_cVi0 (st := [.int q127.1]) (as := [.int x128, .int x129]) (c_X7_ask eq131) lk_L_60 in_X7_ask se_X7_ask rfl eu130 ⟨Nat.le_of_ble_eq_true rfl, Nat.le_of_ble_eq_true rfl⟩ (Nat.le_of_ble_eq_true rfl) dL_law_621 ⟨by omega, by omega⟩ rfl ?_
                          refine y_icmp_eq (tgt := 1560) dL_law_624 (by decide) (fun hc133 => ?_) (fun hc133 => ?_)
                          · rw [if_pos hc133] at hE
                            obtain ⟨x132, ex132, hE⟩ := Option.bind_eq_some_iff.mp hE
                            refine y_iinc (ls' := [(3, .int x132), (0, .ref v0), (1, .ref v1), (2, .ref v2)]) dL_law_1560 3 rfl (Option.some.inj ex132) (by decide) rfl ?_
                            refine y_goto (tgt := 18) dL_law_1563 (by decide) ?_
                            refine y_pick [1, 2, 3, 0] rfl ?_
                            exact ih _ _ _ _ _ _ _ hE (by omega) (by omega) hm KR K
                          · rw [if_neg hc133] at hE
                            refine y_iconst (v := (0 : Int32)) dL_law_627 (by decide) ?_
                            obtain ⟨rfl, rfl, rfl⟩ := x_inj3 hE
                            obtain ⟨rfl, rfl⟩ := KR _ rfl
                            dsimp only
                            exact y_ret dL_law_628 (by omega) (by omega) ⟨_, rfl, rfl⟩
                        · rw [if_neg hc134] at hE
                          by_cases hc149 : (x14 &&& (63 : Int32)) = (10 : Int32)
                          · rw [if_pos hc149] at hE
                            have hk := hc149
                            refine y_tabIn (tgt := 629) dL_law_33 (by rw [hk]; decide) (by rw [hk]; decide) (by rw [hk]; rfl) (by decide) ?_
                            refine y_aload_n dL_law_629 1 rfl ?_
                            refine y_aload_n dL_law_630 0 rfl ?_
                            refine y_iload_n dL_law_631 3 rfl ?_
                            refine y_iconst (v := (1 : Int32)) dL_law_632 (by decide) ?_
                            refine y_iadd dL_law_633 ?_
                            obtain ⟨x135, ex135, hE⟩ := Option.bind_eq_some_iff.mp hE
                            refine y_iald ex135 dL_law_634 ?_
                            refine y_aload_n dL_law_635 0 rfl ?_
                            refine y_iload_n dL_law_636 3 rfl ?_
                            refine y_iconst (v := (2 : Int32)) dL_law_637 (by decide) ?_
                            refine y_iadd dL_law_638 ?_
                            obtain ⟨x136, ex136, hE⟩ := Option.bind_eq_some_iff.mp hE
                            refine y_iald ex136 dL_law_639 ?_
                            obtain ⟨q137, eJ, hE⟩ := Option.bind_eq_some_iff.mp hE
                            have hJ : Y S M_L_law h0 rv h1 mc ms 648 [(0, .ref v0), (1, .ref v1), (2, .ref v2), (3, .int v3)] [.int q137, .int x135, .ref v1] h cells slots := by
                              obtain ⟨u139, eu139, hE⟩ := Option.bind_eq_some_iff.mp hE
                              obtain ⟨q140, eq140, hE⟩ := Option.bind_eq_some_iff.mp hE
                              refine y_cVi0 (st := []) (as := [.int x135, .int q137]) (c_X6_stand eq140) lk_L_61 in_X6_stand se_X6_stand rfl eu139 ⟨Nat.le_of_ble_eq_true rfl, Nat.le_of_ble_eq_true rfl⟩ (Nat.le_of_ble_eq_true rfl) dL_law_648 ⟨by omega, by omega⟩ rfl ?_
                              refine y_aload_n dL_law_651 2 rfl ?_
                              refine y_aload_n dL_law_652 0 rfl ?_
                              refine y_iload_n dL_law_653 3 rfl ?_
                              refine y_iconst (v := (1 : Int32)) dL_law_654 (by decide) ?_
                              refine y_iadd dL_law_655 ?_
                              obtain ⟨x141, ex141, hE⟩ := Option.bind_eq_some_iff.mp hE
                              refine y_iald ex141 dL_law_656 ?_
                              refine y_aload_n dL_law_657 0 rfl ?_
                              refine y_iload_n dL_law_658 3 rfl ?_
                              refine y_iconst (v := (2 : Int32)) dL_law_659 (by decide) ?_
                              refine y_iadd dL_law_660 ?_
                              obtain ⟨x142, ex142, hE⟩ := Option.bind_eq_some_iff.mp hE
                              refine y_iald ex142 dL_law_661 ?_
                              obtain ⟨q143, eJ, hE⟩ := Option.bind_eq_some_iff.mp hE
                              have hJ : Y S M_L_law h0 rv h1 mc ms 670 [(0, .ref v0), (1, .ref v1), (2, .ref v2), (3, .int v3)] [.int q143, .int x141, .ref v2, .int q140.1] q140.2 cells slots := by
                                obtain ⟨u145, eu145, hE⟩ := Option.bind_eq_some_iff.mp hE
                                obtain ⟨q146, eq146, hE⟩ := Option.bind_eq_some_iff.mp hE
                                refine y_cVi0 (st := [.int q140.1]) (as := [.int x141, .int q143]) (c_X7_stand eq146) lk_L_65 in_X7_stand se_X7_stand rfl eu145 ⟨Nat.le_of_ble_eq_true rfl, Nat.le_of_ble_eq_true rfl⟩ (Nat.le_of_ble_eq_true rfl) dL_law_670 ⟨by omega, by omega⟩ rfl ?_
                                refine y_icmp_eq (tgt := 1560) dL_law_673 (by decide) (fun hc148 => ?_) (fun hc148 => ?_)
                                · rw [if_pos hc148] at hE
                                  obtain ⟨x147, ex147, hE⟩ := Option.bind_eq_some_iff.mp hE
                                  refine y_iinc (ls' := [(3, .int x147), (0, .ref v0), (1, .ref v1), (2, .ref v2)]) dL_law_1560 3 rfl (Option.some.inj ex147) (by decide) rfl ?_
                                  refine y_goto (tgt := 18) dL_law_1563 (by decide) ?_
                                  refine y_pick [1, 2, 3, 0] rfl ?_
                                  exact ih _ _ _ _ _ _ _ hE (by omega) (by omega) hm KR K
                                · rw [if_neg hc148] at hE
                                  refine y_iconst (v := (0 : Int32)) dL_law_676 (by decide) ?_
                                  obtain ⟨rfl, rfl, rfl⟩ := x_inj3 hE
                                  obtain ⟨rfl, rfl⟩ := KR _ rfl
                                  dsimp only
                                  exact y_ret dL_law_677 (by omega) (by omega) ⟨_, rfl, rfl⟩
                              clear hE
                              have hE := eJ
                              clear eJ
                              refine y_if_eq (tgt := 669) dL_law_662 (by decide) (fun hc144 => ?_) (fun hc144 => ?_)
                              · rw [if_pos hc144] at hE
                                refine y_iconst (v := (0 : Int32)) dL_law_669 (by decide) ?_
                                obtain rfl := Option.some.inj hE
                                exact y_pick [0, 1, 2, 3] rfl hJ
                              · rw [if_neg hc144] at hE
                                refine y_iconst (v := (1 : Int32)) dL_law_665 (by decide) ?_
                                refine y_goto (tgt := 670) dL_law_666 (by decide) ?_
                                obtain rfl := Option.some.inj hE
                                exact y_pick [0, 1, 2, 3] rfl hJ
                            clear hE
                            have hE := eJ
                            clear eJ
                            refine y_if_eq (tgt := 647) dL_law_640 (by decide) (fun hc138 => ?_) (fun hc138 => ?_)
                            · rw [if_pos hc138] at hE
                              refine y_iconst (v := (0 : Int32)) dL_law_647 (by decide) ?_
                              obtain rfl := Option.some.inj hE
                              exact y_pick [0, 1, 2, 3] rfl hJ
                            · rw [if_neg hc138] at hE
                              refine y_iconst (v := (1 : Int32)) dL_law_643 (by decide) ?_
                              refine y_goto (tgt := 648) dL_law_644 (by decide) ?_
                              obtain rfl := Option.some.inj hE
                              exact y_pick [0, 1, 2, 3] rfl hJ
                          · rw [if_neg hc149] at hE
                            by_cases hc160 : (x14 &&& (63 : Int32)) = (11 : Int32)
                            · rw [if_pos hc160] at hE
                              have hk := hc160
                              refine y_tabIn (tgt := 678) dL_law_33 (by rw [hk]; decide) (by rw [hk]; decide) (by rw [hk]; rfl) (by decide) ?_
                              refine y_aload_n dL_law_678 1 rfl ?_
                              refine y_aload_n dL_law_679 0 rfl ?_
                              refine y_iload_n dL_law_680 3 rfl ?_
                              refine y_iconst (v := (1 : Int32)) dL_law_681 (by decide) ?_
                              refine y_iadd dL_law_682 ?_
                              obtain ⟨x150, ex150, hE⟩ := Option.bind_eq_some_iff.mp hE
                              refine y_iald ex150 dL_law_683 ?_
                              refine y_aload_n dL_law_684 0 rfl ?_
                              refine y_iload_n dL_law_685 3 rfl ?_
                              refine y_iconst (v := (2 : Int32)) dL_law_686 (by decide) ?_
                              refine y_iadd dL_law_687 ?_
                              obtain ⟨x151, ex151, hE⟩ := Option.bind_eq_some_iff.mp hE
                              refine y_iald ex151 dL_law_688 ?_
                              obtain ⟨u152, eu152, hE⟩ := Option.bind_eq_some_iff.mp hE
                              obtain ⟨q153, eq153, hE⟩ := Option.bind_eq_some_iff.mp hE
                              refine y_cVi0 (st := []) (as := [.int x150, .int x151]) (c_X6_move eq153) lk_L_66 in_X6_move se_X6_move rfl eu152 ⟨Nat.le_of_ble_eq_true rfl, Nat.le_of_ble_eq_true rfl⟩ (Nat.le_of_ble_eq_true rfl) dL_law_689 ⟨by omega, by omega⟩ rfl ?_
                              refine y_aload_n dL_law_692 2 rfl ?_
                              refine y_aload_n dL_law_693 0 rfl ?_
                              refine y_iload_n dL_law_694 3 rfl ?_
                              refine y_iconst (v := (1 : Int32)) dL_law_695 (by decide) ?_
                              refine y_iadd dL_law_696 ?_
                              obtain ⟨x154, ex154, hE⟩ := Option.bind_eq_some_iff.mp hE
                              refine y_iald ex154 dL_law_697 ?_
                              refine y_aload_n dL_law_698 0 rfl ?_
                              refine y_iload_n dL_law_699 3 rfl ?_
                              refine y_iconst (v := (2 : Int32)) dL_law_700 (by decide) ?_
                              refine y_iadd dL_law_701 ?_
                              obtain ⟨x155, ex155, hE⟩ := Option.bind_eq_some_iff.mp hE
                              refine y_iald ex155 dL_law_702 ?_
                              obtain ⟨u156, eu156, hE⟩ := Option.bind_eq_some_iff.mp hE
                              obtain ⟨q157, eq157, hE⟩ := Option.bind_eq_some_iff.mp hE
                              refine y_cVi0 (st := [.int q153.1]) (as := [.int x154, .int x155]) (c_X7_move eq157) lk_L_69 in_X7_move se_X7_move rfl eu156 ⟨Nat.le_of_ble_eq_true rfl, Nat.le_of_ble_eq_true rfl⟩ (Nat.le_of_ble_eq_true rfl) dL_law_703 ⟨by omega, by omega⟩ rfl ?_
                              refine y_icmp_eq (tgt := 1560) dL_law_706 (by decide) (fun hc159 => ?_) (fun hc159 => ?_)
                              · rw [if_pos hc159] at hE
                                obtain ⟨x158, ex158, hE⟩ := Option.bind_eq_some_iff.mp hE
                                refine y_iinc (ls' := [(3, .int x158), (0, .ref v0), (1, .ref v1), (2, .ref v2)]) dL_law_1560 3 rfl (Option.some.inj ex158) (by decide) rfl ?_
                                refine y_goto (tgt := 18) dL_law_1563 (by decide) ?_
                                refine y_pick [1, 2, 3, 0] rfl ?_
                                exact ih _ _ _ _ _ _ _ hE (by omega) (by omega) hm KR K
                              · rw [if_neg hc159] at hE
                                refine y_iconst (v := (0 : Int32)) dL_law_709 (by decide) ?_
                                obtain ⟨rfl, rfl, rfl⟩ := x_inj3 hE
                                obtain ⟨rfl, rfl⟩ := KR _ rfl
                                dsimp only
                                exact y_ret dL_law_710 (by omega) (by omega) ⟨_, rfl, rfl⟩
                            · rw [if_neg hc160] at hE
                              by_cases hc171 : (x14 &&& (63 : Int32)) = (12 : Int32)
                              · rw [if_pos hc171] at hE
                                have hk := hc171
                                refine y_tabIn (tgt := 711) dL_law_33 (by rw [hk]; decide) (by rw [hk]; decide) (by rw [hk]; rfl) (by decide) ?_
                                refine y_aload_n dL_law_711 1 rfl ?_
                                refine y_aload_n dL_law_712 0 rfl ?_
                                refine y_iload_n dL_law_713 3 rfl ?_
                                refine y_iconst (v := (1 : Int32)) dL_law_714 (by decide) ?_
                                refine y_iadd dL_law_715 ?_
                                obtain ⟨x161, ex161, hE⟩ := Option.bind_eq_some_iff.mp hE
                                refine y_iald ex161 dL_law_716 ?_
                                refine y_aload_n dL_law_717 0 rfl ?_
                                refine y_iload_n dL_law_718 3 rfl ?_
                                refine y_iconst (v := (2 : Int32)) dL_law_719 (by decide) ?_
                                refine y_iadd dL_law_720 ?_
                                obtain ⟨x162, ex162, hE⟩ := Option.bind_eq_some_iff.mp hE
                                refine y_iald ex162 dL_law_721 ?_
                                obtain ⟨u163, eu163, hE⟩ := Option.bind_eq_some_iff.mp hE
                                obtain ⟨q164, eq164, hE⟩ := Option.bind_eq_some_iff.mp hE
                                refine y_cVi0 (st := []) (as := [.int x161, .int x162]) (c_X6_feed eq164) lk_L_70 in_X6_feed se_X6_feed rfl eu163 ⟨Nat.le_of_ble_eq_true rfl, Nat.le_of_ble_eq_true rfl⟩ (Nat.le_of_ble_eq_true rfl) dL_law_722 ⟨by omega, by omega⟩ rfl ?_
                                refine y_aload_n dL_law_725 2 rfl ?_
                                refine y_aload_n dL_law_726 0 rfl ?_
                                refine y_iload_n dL_law_727 3 rfl ?_
                                refine y_iconst (v := (1 : Int32)) dL_law_728 (by decide) ?_
                                refine y_iadd dL_law_729 ?_
                                obtain ⟨x165, ex165, hE⟩ := Option.bind_eq_some_iff.mp hE
                                refine y_iald ex165 dL_law_730 ?_
                                refine y_aload_n dL_law_731 0 rfl ?_
                                refine y_iload_n dL_law_732 3 rfl ?_
                                refine y_iconst (v := (2 : Int32)) dL_law_733 (by decide) ?_
                                refine y_iadd dL_law_734 ?_
                                obtain ⟨x166, ex166, hE⟩ := Option.bind_eq_some_iff.mp hE
                                refine y_iald ex166 dL_law_735 ?_
                                obtain ⟨u167, eu167, hE⟩ := Option.bind_eq_some_iff.mp hE
                                obtain ⟨q168, eq168, hE⟩ := Option.bind_eq_some_iff.mp hE
                                refine y_cVi0 (st := [.int q164.1]) (as := [.int x165, .int x166]) (c_X7_feed eq168) lk_L_73 in_X7_feed se_X7_feed rfl eu167 ⟨Nat.le_of_ble_eq_true rfl, Nat.le_of_ble_eq_true rfl⟩ (Nat.le_of_ble_eq_true rfl) dL_law_736 ⟨by omega, by omega⟩ rfl ?_
                                refine y_icmp_eq (tgt := 1560) dL_law_739 (by decide) (fun hc170 => ?_) (fun hc170 => ?_)
                                · rw [if_pos hc170] at hE
                                  obtain ⟨x169, ex169, hE⟩ := Option.bind_eq_some_iff.mp hE
                                  refine y_iinc (ls' := [(3, .int x169), (0, .ref v0), (1, .ref v1), (2, .ref v2)]) dL_law_1560 3 rfl (Option.some.inj ex169) (by decide) rfl ?_
                                  refine y_goto (tgt := 18) dL_law_1563 (by decide) ?_
                                  refine y_pick [1, 2, 3, 0] rfl ?_
                                  exact ih _ _ _ _ _ _ _ hE (by omega) (by omega) hm KR K
                                · rw [if_neg hc170] at hE
                                  refine y_iconst (v := (0 : Int32)) dL_law_742 (by decide) ?_
                                  obtain ⟨rfl, rfl, rfl⟩ := x_inj3 hE
                                  obtain ⟨rfl, rfl⟩ := KR _ rfl
                                  dsimp only
                                  exact y_ret dL_law_743 (by omega) (by omega) ⟨_, rfl, rfl⟩
                              · rw [if_neg hc171] at hE
                                by_cases hc178 : (x14 &&& (63 : Int32)) = (13 : Int32)
                                · rw [if_pos hc178] at hE
                                  have hk := hc178
                                  refine y_tabIn (tgt := 744) dL_law_33 (by rw [hk]; decide) (by rw [hk]; decide) (by rw [hk]; rfl) (by decide) ?_
                                  refine y_aload_n dL_law_744 1 rfl ?_
                                  obtain ⟨u172, eu172, hE⟩ := Option.bind_eq_some_iff.mp hE
                                  obtain ⟨q173, eq173, hE⟩ := Option.bind_eq_some_iff.mp hE
                                  refine y_cVi0 (st := []) (as := []) (c_X6_wipe eq173) lk_L_74 in_X6_wipe se_X6_wipe rfl eu172 ⟨Nat.le_of_ble_eq_true rfl, Nat.le_of_ble_eq_true rfl⟩ (Nat.le_of_ble_eq_true rfl) dL_law_745 ⟨by omega, by omega⟩ rfl ?_
                                  refine y_aload_n dL_law_748 2 rfl ?_
                                  obtain ⟨u174, eu174, hE⟩ := Option.bind_eq_some_iff.mp hE
                                  obtain ⟨q175, eq175, hE⟩ := Option.bind_eq_some_iff.mp hE
                                  refine y_cVi0 (st := [.int q173.1]) (as := []) (c_X7_wipe eq175) lk_L_78 in_X7_wipe se_X7_wipe rfl eu174 ⟨Nat.le_of_ble_eq_true rfl, Nat.le_of_ble_eq_true rfl⟩ (Nat.le_of_ble_eq_true rfl) dL_law_749 ⟨by omega, by omega⟩ rfl ?_
                                  refine y_icmp_eq (tgt := 1560) dL_law_752 (by decide) (fun hc177 => ?_) (fun hc177 => ?_)
                                  · rw [if_pos hc177] at hE
                                    obtain ⟨x176, ex176, hE⟩ := Option.bind_eq_some_iff.mp hE
                                    refine y_iinc (ls' := [(3, .int x176), (0, .ref v0), (1, .ref v1), (2, .ref v2)]) dL_law_1560 3 rfl (Option.some.inj ex176) (by decide) rfl ?_
                                    refine y_goto (tgt := 18) dL_law_1563 (by decide) ?_
                                    refine y_pick [1, 2, 3, 0] rfl ?_
                                    exact ih _ _ _ _ _ _ _ hE (by omega) (by omega) hm KR K
                                  · rw [if_neg hc177] at hE
                                    refine y_iconst (v := (0 : Int32)) dL_law_755 (by decide) ?_
                                    obtain ⟨rfl, rfl, rfl⟩ := x_inj3 hE
                                    obtain ⟨rfl, rfl⟩ := KR _ rfl
                                    dsimp only
                                    exact y_ret dL_law_756 (by omega) (by omega) ⟨_, rfl, rfl⟩
                                · rw [if_neg hc178] at hE
                                  by_cases hc187 : (x14 &&& (63 : Int32)) = (14 : Int32)
                                  · rw [if_pos hc187] at hE
                                    have hk := hc187
                                    refine y_tabIn (tgt := 757) dL_law_33 (by rw [hk]; decide) (by rw [hk]; decide) (by rw [hk]; rfl) (by decide) ?_
                                    refine y_aload_n dL_law_757 1 rfl ?_
                                    obtain ⟨u179, eu179, hE⟩ := Option.bind_eq_some_iff.mp hE
                                    obtain ⟨q180, eq180, hE⟩ := Option.bind_eq_some_iff.mp hE
                                    refine y_cVi0 (st := []) (as := []) (c_X6_house eq180) lk_L_79 in_X6_house se_X6_house rfl eu179 ⟨Nat.le_of_ble_eq_true rfl, Nat.le_of_ble_eq_true rfl⟩ (Nat.le_of_ble_eq_true rfl) dL_law_758 ⟨by omega, by omega⟩ rfl ?_
                                    refine y_aload_n dL_law_761 2 rfl ?_
                                    obtain ⟨u181, eu181, hE⟩ := Option.bind_eq_some_iff.mp hE
                                    obtain ⟨q182, eq182, hE⟩ := Option.bind_eq_some_iff.mp hE
                                    obtain ⟨c183, s184, hN, ecc183, ess184⟩ := x_add.spec hE
                                    clear hE; have hE := hN; clear hN
                                    refine y_cVi1 (st := [.int q180.1]) (as := []) (c_X7_house (eq182.trans (show some q182 = some ((q182.1.1, q182.1.2), q182.2.1, q182.2.2) from rfl))) lk_L_82 in_X7_house se_X7_house rfl eu181 ⟨Nat.le_of_ble_eq_true rfl, Nat.le_of_ble_eq_true rfl⟩ (Nat.le_of_ble_eq_true rfl) dL_law_762 ⟨by omega, by omega⟩ rfl ?_
                                    refine y_icmp_eq (tgt := 1560) dL_law_765 (by decide) (fun hc186 => ?_) (fun hc186 => ?_)
                                    · rw [if_pos hc186] at hE
                                      obtain ⟨x185, ex185, hE⟩ := Option.bind_eq_some_iff.mp hE
                                      refine y_iinc (ls' := [(3, .int x185), (0, .ref v0), (1, .ref v1), (2, .ref v2)]) dL_law_1560 3 rfl (Option.some.inj ex185) (by decide) rfl ?_
                                      refine y_goto (tgt := 18) dL_law_1563 (by decide) ?_
                                      refine y_pick [1, 2, 3, 0] rfl ?_
                                      exact ih _ _ _ _ _ _ _ hE (by omega) (by omega) hm KR K
                                    · rw [if_neg hc186] at hE
                                      refine y_iconst (v := (0 : Int32)) dL_law_768 (by decide) ?_
                                      obtain ⟨rfl, rfl, rfl⟩ := x_inj3 hE
                                      obtain ⟨rfl, rfl⟩ := KR _ rfl
                                      dsimp only
                                      exact y_ret dL_law_769 (by omega) (by omega) ⟨_, rfl, rfl⟩
                                  · rw [if_neg hc187] at hE
                                    by_cases hc198 : (x14 &&& (63 : Int32)) = (15 : Int32)
                                    · rw [if_pos hc198] at hE
                                      have hk := hc198
                                      refine y_tabIn (tgt := 770) dL_law_33 (by rw [hk]; decide) (by rw [hk]; decide) (by rw [hk]; rfl) (by decide) ?_
                                      refine y_aload_n dL_law_770 1 rfl ?_
                                      refine y_aload_n dL_law_771 0 rfl ?_
                                      refine y_iload_n dL_law_772 3 rfl ?_
                                      refine y_iconst (v := (1 : Int32)) dL_law_773 (by decide) ?_
                                      refine y_iadd dL_law_774 ?_
                                      obtain ⟨x188, ex188, hE⟩ := Option.bind_eq_some_iff.mp hE
                                      refine y_iald ex188 dL_law_775 ?_
                                      refine y_aload_n dL_law_776 0 rfl ?_
                                      refine y_iload_n dL_law_777 3 rfl ?_
                                      refine y_iconst (v := (2 : Int32)) dL_law_778 (by decide) ?_
                                      refine y_iadd dL_law_779 ?_
                                      obtain ⟨x189, ex189, hE⟩ := Option.bind_eq_some_iff.mp hE
                                      refine y_iald ex189 dL_law_780 ?_
                                      obtain ⟨u190, eu190, hE⟩ := Option.bind_eq_some_iff.mp hE
                                      obtain ⟨q191, eq191, hE⟩ := Option.bind_eq_some_iff.mp hE
                                      refine y_cVi0 (st := []) (as := [.int x188, .int x189]) (c_X6_doorOf eq191) lk_L_83 in_X6_doorOf se_X6_doorOf rfl eu190 ⟨Nat.le_of_ble_eq_true rfl, Nat.le_of_ble_eq_true rfl⟩ (Nat.le_of_ble_eq_true rfl) dL_law_781 ⟨by omega, by omega⟩ rfl ?_
                                      refine y_aload_n dL_law_784 2 rfl ?_
                                      refine y_aload_n dL_law_785 0 rfl ?_
                                      refine y_iload_n dL_law_786 3 rfl ?_
                                      refine y_iconst (v := (1 : Int32)) dL_law_787 (by decide) ?_
                                      refine y_iadd dL_law_788 ?_
                                      obtain ⟨x192, ex192, hE⟩ := Option.bind_eq_some_iff.mp hE
                                      refine y_iald ex192 dL_law_789 ?_
                                      refine y_aload_n dL_law_790 0 rfl ?_
                                      refine y_iload_n dL_law_791 3 rfl ?_
                                      refine y_iconst (v := (2 : Int32)) dL_law_792 (by decide) ?_
                                      refine y_iadd dL_law_793 ?_
                                      obtain ⟨x193, ex193, hE⟩ := Option.bind_eq_some_iff.mp hE
                                      refine y_iald ex193 dL_law_794 ?_
                                      obtain ⟨u194, eu194, hE⟩ := Option.bind_eq_some_iff.mp hE
                                      obtain ⟨q195, eq195, hE⟩ := Option.bind_eq_some_iff.mp hE
                                      refine y_cVi0 (st := [.int q191.1]) (as := [.int x192, .int x193]) (c_X7_doorOf eq195) lk_L_86 in_X7_doorOf se_X7_doorOf rfl eu194 ⟨Nat.le_of_ble_eq_true rfl, Nat.le_of_ble_eq_true rfl⟩ (Nat.le_of_ble_eq_true rfl) dL_law_795 ⟨by omega, by omega⟩ rfl ?_
                                      refine y_icmp_eq (tgt := 1560) dL_law_798 (by decide) (fun hc197 => ?_) (fun hc197 => ?_)
                                      · rw [if_pos hc197] at hE
                                        obtain ⟨x196, ex196, hE⟩ := Option.bind_eq_some_iff.mp hE
                                        refine y_iinc (ls' := [(3, .int x196), (0, .ref v0), (1, .ref v1), (2, .ref v2)]) dL_law_1560 3 rfl (Option.some.inj ex196) (by decide) rfl ?_
                                        refine y_goto (tgt := 18) dL_law_1563 (by decide) ?_
                                        refine y_pick [1, 2, 3, 0] rfl ?_
                                        exact ih _ _ _ _ _ _ _ hE (by omega) (by omega) hm KR K
                                      · rw [if_neg hc197] at hE
                                        refine y_iconst (v := (0 : Int32)) dL_law_801 (by decide) ?_
                                        obtain ⟨rfl, rfl, rfl⟩ := x_inj3 hE
                                        obtain ⟨rfl, rfl⟩ := KR _ rfl
                                        dsimp only
                                        exact y_ret dL_law_802 (by omega) (by omega) ⟨_, rfl, rfl⟩
                                    · rw [if_neg hc198] at hE
                                      by_cases hc207 : (x14 &&& (63 : Int32)) = (16 : Int32)
                                      · rw [if_pos hc207] at hE
                                        have hk := hc207
                                        refine y_tabIn (tgt := 803) dL_law_33 (by rw [hk]; decide) (by rw [hk]; decide) (by rw [hk]; rfl) (by decide) ?_
                                        refine y_aload_n dL_law_803 1 rfl ?_
                                        refine y_aload_n dL_law_804 0 rfl ?_
                                        refine y_iload_n dL_law_805 3 rfl ?_
                                        refine y_iconst (v := (1 : Int32)) dL_law_806 (by decide) ?_
                                        refine y_iadd dL_law_807 ?_
                                        obtain ⟨x199, ex199, hE⟩ := Option.bind_eq_some_iff.mp hE
                                        refine y_iald ex199 dL_law_808 ?_
                                        obtain ⟨u200, eu200, hE⟩ := Option.bind_eq_some_iff.mp hE
                                        obtain ⟨q201, eq201, hE⟩ := Option.bind_eq_some_iff.mp hE
                                        refine y_cVi0 (st := []) (as := [.int x199]) (c_X6_where eq201) lk_L_87 in_X6_where se_X6_where rfl eu200 ⟨Nat.le_of_ble_eq_true rfl, Nat.le_of_ble_eq_true rfl⟩ (Nat.le_of_ble_eq_true rfl) dL_law_809 ⟨by omega, by omega⟩ rfl ?_
                                        refine y_aload_n dL_law_812 2 rfl ?_
                                        refine y_aload_n dL_law_813 0 rfl ?_
                                        refine y_iload_n dL_law_814 3 rfl ?_
                                        refine y_iconst (v := (1 : Int32)) dL_law_815 (by decide) ?_
                                        refine y_iadd dL_law_816 ?_
                                        obtain ⟨x202, ex202, hE⟩ := Option.bind_eq_some_iff.mp hE
                                        refine y_iald ex202 dL_law_817 ?_
                                        obtain ⟨u203, eu203, hE⟩ := Option.bind_eq_some_iff.mp hE
                                        obtain ⟨q204, eq204, hE⟩ := Option.bind_eq_some_iff.mp hE
                                        refine y_cVi0 (st := [.int q201.1]) (as := [.int x202]) (c_X7_where eq204) lk_L_90 in_X7_where se_X7_where rfl eu203 ⟨Nat.le_of_ble_eq_true rfl, Nat.le_of_ble_eq_true rfl⟩ (Nat.le_of_ble_eq_true rfl) dL_law_818 ⟨by omega, by omega⟩ rfl ?_
                                        refine y_icmp_eq (tgt := 1560) dL_law_821 (by decide) (fun hc206 => ?_) (fun hc206 => ?_)
                                        · rw [if_pos hc206] at hE
                                          obtain ⟨x205, ex205, hE⟩ := Option.bind_eq_some_iff.mp hE
                                          refine y_iinc (ls' := [(3, .int x205), (0, .ref v0), (1, .ref v1), (2, .ref v2)]) dL_law_1560 3 rfl (Option.some.inj ex205) (by decide) rfl ?_
                                          refine y_goto (tgt := 18) dL_law_1563 (by decide) ?_
                                          refine y_pick [1, 2, 3, 0] rfl ?_
                                          exact ih _ _ _ _ _ _ _ hE (by omega) (by omega) hm KR K
                                        · rw [if_neg hc206] at hE
                                          refine y_iconst (v := (0 : Int32)) dL_law_824 (by decide) ?_
                                          obtain ⟨rfl, rfl, rfl⟩ := x_inj3 hE
                                          obtain ⟨rfl, rfl⟩ := KR _ rfl
                                          dsimp only
                                          exact y_ret dL_law_825 (by omega) (by omega) ⟨_, rfl, rfl⟩
                                      · rw [if_neg hc207] at hE
                                        by_cases hc218 : (x14 &&& (63 : Int32)) = (17 : Int32)
                                        · rw [if_pos hc218] at hE
                                          have hk := hc218
                                          refine y_tabIn (tgt := 826) dL_law_33 (by rw [hk]; decide) (by rw [hk]; decide) (by rw [hk]; rfl) (by decide) ?_
                                          refine y_aload_n dL_law_826 1 rfl ?_
                                          refine y_aload_n dL_law_827 0 rfl ?_
                                          refine y_iload_n dL_law_828 3 rfl ?_
                                          refine y_iconst (v := (1 : Int32)) dL_law_829 (by decide) ?_
                                          refine y_iadd dL_law_830 ?_
                                          obtain ⟨x208, ex208, hE⟩ := Option.bind_eq_some_iff.mp hE
                                          refine y_iald ex208 dL_law_831 ?_
                                          refine y_aload_n dL_law_832 0 rfl ?_
                                          refine y_iload_n dL_law_833 3 rfl ?_
                                          refine y_iconst (v := (2 : Int32)) dL_law_834 (by decide) ?_
                                          refine y_iadd dL_law_835 ?_
                                          obtain ⟨x209, ex209, hE⟩ := Option.bind_eq_some_iff.mp hE
                                          refine y_iald ex209 dL_law_836 ?_
                                          obtain ⟨u210, eu210, hE⟩ := Option.bind_eq_some_iff.mp hE
                                          obtain ⟨q211, eq211, hE⟩ := Option.bind_eq_some_iff.mp hE
                                          refine y_cVi0 (st := []) (as := [.int x208, .int x209]) (c_X6_doors eq211) lk_L_91 in_X6_doors se_X6_doors rfl eu210 ⟨Nat.le_of_ble_eq_true rfl, Nat.le_of_ble_eq_true rfl⟩ (Nat.le_of_ble_eq_true rfl) dL_law_837 ⟨by omega, by omega⟩ rfl ?_
                                          refine y_aload_n dL_law_840 2 rfl ?_
                                          refine y_aload_n dL_law_841 0 rfl ?_
                                          refine y_iload_n dL_law_842 3 rfl ?_
                                          refine y_iconst (v := (1 : Int32)) dL_law_843 (by decide) ?_
                                          refine y_iadd dL_law_844 ?_
                                          obtain ⟨x212, ex212, hE⟩ := Option.bind_eq_some_iff.mp hE
                                          refine y_iald ex212 dL_law_845 ?_
                                          refine y_aload_n dL_law_846 0 rfl ?_
                                          refine y_iload_n dL_law_847 3 rfl ?_
                                          refine y_iconst (v := (2 : Int32)) dL_law_848 (by decide) ?_
                                          refine y_iadd dL_law_849 ?_
                                          obtain ⟨x213, ex213, hE⟩ := Option.bind_eq_some_iff.mp hE
                                          refine y_iald ex213 dL_law_850 ?_
                                          obtain ⟨u214, eu214, hE⟩ := Option.bind_eq_some_iff.mp hE
                                          obtain ⟨q215, eq215, hE⟩ := Option.bind_eq_some_iff.mp hE
                                          refine y_cVi0 (st := [.int q211.1]) (as := [.int x212, .int x213]) (c_X7_doors eq215) lk_L_94 in_X7_doors se_X7_doors rfl eu214 ⟨Nat.le_of_ble_eq_true rfl, Nat.le_of_ble_eq_true rfl⟩ (Nat.le_of_ble_eq_true rfl) dL_law_851 ⟨by omega, by omega⟩ rfl ?_
                                          refine y_icmp_eq (tgt := 1560) dL_law_854 (by decide) (fun hc217 => ?_) (fun hc217 => ?_)
                                          · rw [if_pos hc217] at hE
                                            obtain ⟨x216, ex216, hE⟩ := Option.bind_eq_some_iff.mp hE
                                            refine y_iinc (ls' := [(3, .int x216), (0, .ref v0), (1, .ref v1), (2, .ref v2)]) dL_law_1560 3 rfl (Option.some.inj ex216) (by decide) rfl ?_
                                            refine y_goto (tgt := 18) dL_law_1563 (by decide) ?_
                                            refine y_pick [1, 2, 3, 0] rfl ?_
                                            exact ih _ _ _ _ _ _ _ hE (by omega) (by omega) hm KR K
                                          · rw [if_neg hc217] at hE
                                            refine y_iconst (v := (0 : Int32)) dL_law_857 (by decide) ?_
                                            obtain ⟨rfl, rfl, rfl⟩ := x_inj3 hE
                                            obtain ⟨rfl, rfl⟩ := KR _ rfl
                                            dsimp only
                                            exact y_ret dL_law_858 (by omega) (by omega) ⟨_, rfl, rfl⟩
                                        · rw [if_neg hc218] at hE
                                          by_cases hc231 : (x14 &&& (63 : Int32)) = (18 : Int32)
                                          · rw [if_pos hc231] at hE
                                            have hk := hc231
                                            refine y_tabIn (tgt := 859) dL_law_33 (by rw [hk]; decide) (by rw [hk]; decide) (by rw [hk]; rfl) (by decide) ?_
                                            refine y_aload_n dL_law_859 1 rfl ?_
                                            refine y_aload_n dL_law_860 0 rfl ?_
                                            refine y_iload_n dL_law_861 3 rfl ?_
                                            refine y_iconst (v := (1 : Int32)) dL_law_862 (by decide) ?_
                                            refine y_iadd dL_law_863 ?_
                                            obtain ⟨x219, ex219, hE⟩ := Option.bind_eq_some_iff.mp hE
                                            refine y_iald ex219 dL_law_864 ?_
                                            refine y_aload_n dL_law_865 0 rfl ?_
                                            refine y_iload_n dL_law_866 3 rfl ?_
                                            refine y_iconst (v := (2 : Int32)) dL_law_867 (by decide) ?_
                                            refine y_iadd dL_law_868 ?_
                                            obtain ⟨x220, ex220, hE⟩ := Option.bind_eq_some_iff.mp hE
                                            refine y_iald ex220 dL_law_869 ?_
                                            refine y_aload_n dL_law_870 0 rfl ?_
                                            refine y_iload_n dL_law_871 3 rfl ?_
                                            refine y_iconst (v := (3 : Int32)) dL_law_872 (by decide) ?_
                                            refine y_iadd dL_law_873 ?_
                                            obtain ⟨x221, ex221, hE⟩ := Option.bind_eq_some_iff.mp hE
                                            refine y_iald ex221 dL_law_874 ?_
                                            obtain ⟨u222, eu222, hE⟩ := Option.bind_eq_some_iff.mp hE
                                            obtain ⟨q223, eq223, hE⟩ := Option.bind_eq_some_iff.mp hE
                                            refine y_cVi0 (st := []) (as := [.int x219, .int x220, .int x221]) (c_X6_may eq223) lk_L_95 in_X6_may se_X6_may rfl eu222 ⟨Nat.le_of_ble_eq_true rfl, Nat.le_of_ble_eq_true rfl⟩ (Nat.le_of_ble_eq_true rfl) dL_law_875 ⟨by omega, by omega⟩ rfl ?_
                                            refine y_aload_n dL_law_878 2 rfl ?_
                                            refine y_aload_n dL_law_879 0 rfl ?_
                                            refine y_iload_n dL_law_880 3 rfl ?_
                                            refine y_iconst (v := (1 : Int32)) dL_law_881 (by decide) ?_
                                            refine y_iadd dL_law_882 ?_
                                            obtain ⟨x224, ex224, hE⟩ := Option.bind_eq_some_iff.mp hE
                                            refine y_iald ex224 dL_law_883 ?_
                                            refine y_aload_n dL_law_884 0 rfl ?_
                                            refine y_iload_n dL_law_885 3 rfl ?_
                                            refine y_iconst (v := (2 : Int32)) dL_law_886 (by decide) ?_
                                            refine y_iadd dL_law_887 ?_
                                            obtain ⟨x225, ex225, hE⟩ := Option.bind_eq_some_iff.mp hE
                                            refine y_iald ex225 dL_law_888 ?_
                                            refine y_aload_n dL_law_889 0 rfl ?_
                                            refine y_iload_n dL_law_890 3 rfl ?_
                                            refine y_iconst (v := (3 : Int32)) dL_law_891 (by decide) ?_
                                            refine y_iadd dL_law_892 ?_
                                            obtain ⟨x226, ex226, hE⟩ := Option.bind_eq_some_iff.mp hE
                                            refine y_iald ex226 dL_law_893 ?_
                                            obtain ⟨u227, eu227, hE⟩ := Option.bind_eq_some_iff.mp hE
                                            obtain ⟨q228, eq228, hE⟩ := Option.bind_eq_some_iff.mp hE
                                            refine y_cVi0 (st := [.int q223.1]) (as := [.int x224, .int x225, .int x226]) (c_X7_may eq228) lk_L_98 in_X7_may se_X7_may rfl eu227 ⟨Nat.le_of_ble_eq_true rfl, Nat.le_of_ble_eq_true rfl⟩ (Nat.le_of_ble_eq_true rfl) dL_law_894 ⟨by omega, by omega⟩ rfl ?_
                                            refine y_icmp_eq (tgt := 1560) dL_law_897 (by decide) (fun hc230 => ?_) (fun hc230 => ?_)
                                            · rw [if_pos hc230] at hE
                                              obtain ⟨x229, ex229, hE⟩ := Option.bind_eq_some_iff.mp hE
                                              refine y_iinc (ls' := [(3, .int x229), (0, .ref v0), (1, .ref v1), (2, .ref v2)]) dL_law_1560 3 rfl (Option.some.inj ex229) (by decide) rfl ?_
                                              refine y_goto (tgt := 18) dL_law_1563 (by decide) ?_
                                              refine y_pick [1, 2, 3, 0] rfl ?_
                                              exact ih _ _ _ _ _ _ _ hE (by omega) (by omega) hm KR K
                                            · rw [if_neg hc230] at hE
                                              refine y_iconst (v := (0 : Int32)) dL_law_900 (by decide) ?_
                                              obtain ⟨rfl, rfl, rfl⟩ := x_inj3 hE
                                              obtain ⟨rfl, rfl⟩ := KR _ rfl
                                              dsimp only
                                              exact y_ret dL_law_901 (by omega) (by omega) ⟨_, rfl, rfl⟩
                                          · rw [if_neg hc231] at hE
                                            by_cases hc244 : (x14 &&& (63 : Int32)) = (19 : Int32)
                                            · rw [if_pos hc244] at hE
                                              have hk := hc244
                                              refine y_tabIn (tgt := 902) dL_law_33 (by rw [hk]; decide) (by rw [hk]; decide) (by rw [hk]; rfl) (by decide) ?_
                                              refine y_aload_n dL_law_902 1 rfl ?_
                                              refine y_aload_n dL_law_903 0 rfl ?_
                                              refine y_iload_n dL_law_904 3 rfl ?_
                                              refine y_iconst (v := (1 : Int32)) dL_law_905 (by decide) ?_
                                              refine y_iadd dL_law_906 ?_
                                              obtain ⟨x232, ex232, hE⟩ := Option.bind_eq_some_iff.mp hE
                                              refine y_iald ex232 dL_law_907 ?_
                                              refine y_aload_n dL_law_908 0 rfl ?_
                                              refine y_iload_n dL_law_909 3 rfl ?_
                                              refine y_iconst (v := (2 : Int32)) dL_law_910 (by decide) ?_
                                              refine y_iadd dL_law_911 ?_
                                              obtain ⟨x233, ex233, hE⟩ := Option.bind_eq_some_iff.mp hE
                                              refine y_iald ex233 dL_law_912 ?_
                                              refine y_aload_n dL_law_913 0 rfl ?_
                                              refine y_iload_n dL_law_914 3 rfl ?_
                                              refine y_iconst (v := (3 : Int32)) dL_law_915 (by decide) ?_
                                              refine y_iadd dL_law_916 ?_
                                              obtain ⟨x234, ex234, hE⟩ := Option.bind_eq_some_iff.mp hE
                                              refine y_iald ex234 dL_law_917 ?_
                                              obtain ⟨u235, eu235, hE⟩ := Option.bind_eq_some_iff.mp hE
                                              obtain ⟨q236, eq236, hE⟩ := Option.bind_eq_some_iff.mp hE
                                              refine y_cVi0 (st := []) (as := [.int x232, .int x233, .int x234]) (c_X6_by eq236) lk_L_99 in_X6_by se_X6_by rfl eu235 ⟨Nat.le_of_ble_eq_true rfl, Nat.le_of_ble_eq_true rfl⟩ (Nat.le_of_ble_eq_true rfl) dL_law_918 ⟨by omega, by omega⟩ rfl ?_
                                              refine y_aload_n dL_law_921 2 rfl ?_
                                              refine y_aload_n dL_law_922 0 rfl ?_
                                              refine y_iload_n dL_law_923 3 rfl ?_
                                              refine y_iconst (v := (1 : Int32)) dL_law_924 (by decide) ?_
                                              refine y_iadd dL_law_925 ?_
                                              obtain ⟨x237, ex237, hE⟩ := Option.bind_eq_some_iff.mp hE
                                              refine y_iald ex237 dL_law_926 ?_
                                              refine y_aload_n dL_law_927 0 rfl ?_
                                              refine y_iload_n dL_law_928 3 rfl ?_
                                              refine y_iconst (v := (2 : Int32)) dL_law_929 (by decide) ?_
                                              refine y_iadd dL_law_930 ?_
                                              obtain ⟨x238, ex238, hE⟩ := Option.bind_eq_some_iff.mp hE
                                              refine y_iald ex238 dL_law_931 ?_
                                              refine y_aload_n dL_law_932 0 rfl ?_
                                              refine y_iload_n dL_law_933 3 rfl ?_
                                              refine y_iconst (v := (3 : Int32)) dL_law_934 (by decide) ?_
                                              refine y_iadd dL_law_935 ?_
                                              obtain ⟨x239, ex239, hE⟩ := Option.bind_eq_some_iff.mp hE
                                              refine y_iald ex239 dL_law_936 ?_
                                              obtain ⟨u240, eu240, hE⟩ := Option.bind_eq_some_iff.mp hE
                                              obtain ⟨q241, eq241, hE⟩ := Option.bind_eq_some_iff.mp hE
                                              refine y_cVi0 (st := [.int q236.1]) (as := [.int x237, .int x238, .int x239]) (c_X7_by eq241) lk_L_102 in_X7_by se_X7_by rfl eu240 ⟨Nat.le_of_ble_eq_true rfl, Nat.le_of_ble_eq_true rfl⟩ (Nat.le_of_ble_eq_true rfl) dL_law_937 ⟨by omega, by omega⟩ rfl ?_
                                              refine y_icmp_eq (tgt := 1560) dL_law_940 (by decide) (fun hc243 => ?_) (fun hc243 => ?_)
                                              · rw [if_pos hc243] at hE
                                                obtain ⟨x242, ex242, hE⟩ := Option.bind_eq_some_iff.mp hE
                                                refine y_iinc (ls' := [(3, .int x242), (0, .ref v0), (1, .ref v1), (2, .ref v2)]) dL_law_1560 3 rfl (Option.some.inj ex242) (by decide) rfl ?_
                                                refine y_goto (tgt := 18) dL_law_1563 (by decide) ?_
                                                refine y_pick [1, 2, 3, 0] rfl ?_
                                                exact ih _ _ _ _ _ _ _ hE (by omega) (by omega) hm KR K
                                              · rw [if_neg hc243] at hE
                                                refine y_iconst (v := (0 : Int32)) dL_law_943 (by decide) ?_
                                                obtain ⟨rfl, rfl, rfl⟩ := x_inj3 hE
                                                obtain ⟨rfl, rfl⟩ := KR _ rfl
                                                dsimp only
                                                exact y_ret dL_law_944 (by omega) (by omega) ⟨_, rfl, rfl⟩
                                            · rw [if_neg hc244] at hE
                                              by_cases hc257 : (x14 &&& (63 : Int32)) = (20 : Int32)
                                              · rw [if_pos hc257] at hE
                                                have hk := hc257
                                                refine y_tabIn (tgt := 945) dL_law_33 (by rw [hk]; decide) (by rw [hk]; decide) (by rw [hk]; rfl) (by decide) ?_
                                                refine y_aload_n dL_law_945 1 rfl ?_
                                                refine y_aload_n dL_law_946 0 rfl ?_
                                                refine y_iload_n dL_law_947 3 rfl ?_
                                                refine y_iconst (v := (1 : Int32)) dL_law_948 (by decide) ?_
                                                refine y_iadd dL_law_949 ?_
                                                obtain ⟨x245, ex245, hE⟩ := Option.bind_eq_some_iff.mp hE
                                                refine y_iald ex245 dL_law_950 ?_
                                                refine y_aload_n dL_law_951 0 rfl ?_
                                                refine y_iload_n dL_law_952 3 rfl ?_
                                                refine y_iconst (v := (2 : Int32)) dL_law_953 (by decide) ?_
                                                refine y_iadd dL_law_954 ?_
                                                obtain ⟨x246, ex246, hE⟩ := Option.bind_eq_some_iff.mp hE
                                                refine y_iald ex246 dL_law_955 ?_
                                                refine y_aload_n dL_law_956 0 rfl ?_
                                                refine y_iload_n dL_law_957 3 rfl ?_
                                                refine y_iconst (v := (3 : Int32)) dL_law_958 (by decide) ?_
                                                refine y_iadd dL_law_959 ?_
                                                obtain ⟨x247, ex247, hE⟩ := Option.bind_eq_some_iff.mp hE
                                                refine y_iald ex247 dL_law_960 ?_
                                                obtain ⟨u248, eu248, hE⟩ := Option.bind_eq_some_iff.mp hE
                                                obtain ⟨q249, eq249, hE⟩ := Option.bind_eq_some_iff.mp hE
                                                refine y_cVi0 (st := []) (as := [.int x245, .int x246, .int x247]) (c_X6_ways eq249) lk_L_103 in_X6_ways se_X6_ways rfl eu248 ⟨Nat.le_of_ble_eq_true rfl, Nat.le_of_ble_eq_true rfl⟩ (Nat.le_of_ble_eq_true rfl) dL_law_961 ⟨by omega, by omega⟩ rfl ?_
                                                refine y_aload_n dL_law_964 2 rfl ?_
                                                refine y_aload_n dL_law_965 0 rfl ?_
                                                refine y_iload_n dL_law_966 3 rfl ?_
                                                refine y_iconst (v := (1 : Int32)) dL_law_967 (by decide) ?_
                                                refine y_iadd dL_law_968 ?_
                                                obtain ⟨x250, ex250, hE⟩ := Option.bind_eq_some_iff.mp hE
                                                refine y_iald ex250 dL_law_969 ?_
                                                refine y_aload_n dL_law_970 0 rfl ?_
                                                refine y_iload_n dL_law_971 3 rfl ?_
                                                refine y_iconst (v := (2 : Int32)) dL_law_972 (by decide) ?_
                                                refine y_iadd dL_law_973 ?_
                                                obtain ⟨x251, ex251, hE⟩ := Option.bind_eq_some_iff.mp hE
                                                refine y_iald ex251 dL_law_974 ?_
                                                refine y_aload_n dL_law_975 0 rfl ?_
                                                refine y_iload_n dL_law_976 3 rfl ?_
                                                refine y_iconst (v := (3 : Int32)) dL_law_977 (by decide) ?_
                                                refine y_iadd dL_law_978 ?_
                                                obtain ⟨x252, ex252, hE⟩ := Option.bind_eq_some_iff.mp hE
                                                refine y_iald ex252 dL_law_979 ?_
                                                obtain ⟨u253, eu253, hE⟩ := Option.bind_eq_some_iff.mp hE
                                                obtain ⟨q254, eq254, hE⟩ := Option.bind_eq_some_iff.mp hE
                                                refine y_cVi0 (st := [.int q249.1]) (as := [.int x250, .int x251, .int x252]) (c_X7_ways eq254) lk_L_106 in_X7_ways se_X7_ways rfl eu253 ⟨Nat.le_of_ble_eq_true rfl, Nat.le_of_ble_eq_true rfl⟩ (Nat.le_of_ble_eq_true rfl) dL_law_980 ⟨by omega, by omega⟩ rfl ?_
                                                refine y_icmp_eq (tgt := 1560) dL_law_983 (by decide) (fun hc256 => ?_) (fun hc256 => ?_)
                                                · rw [if_pos hc256] at hE
                                                  obtain ⟨x255, ex255, hE⟩ := Option.bind_eq_some_iff.mp hE
                                                  refine y_iinc (ls' := [(3, .int x255), (0, .ref v0), (1, .ref v1), (2, .ref v2)]) dL_law_1560 3 rfl (Option.some.inj ex255) (by decide) rfl ?_
                                                  refine y_goto (tgt := 18) dL_law_1563 (by decide) ?_
                                                  refine y_pick [1, 2, 3, 0] rfl ?_
                                                  exact ih _ _ _ _ _ _ _ hE (by omega) (by omega) hm KR K
                                                · rw [if_neg hc256] at hE
                                                  refine y_iconst (v := (0 : Int32)) dL_law_986 (by decide) ?_
                                                  obtain ⟨rfl, rfl, rfl⟩ := x_inj3 hE
                                                  obtain ⟨rfl, rfl⟩ := KR _ rfl
                                                  dsimp only
                                                  exact y_ret dL_law_987 (by omega) (by omega) ⟨_, rfl, rfl⟩
                                              · rw [if_neg hc257] at hE
                                                by_cases hc268 : (x14 &&& (63 : Int32)) = (21 : Int32)
                                                · rw [if_pos hc268] at hE
                                                  have hk := hc268
                                                  refine y_tabIn (tgt := 988) dL_law_33 (by rw [hk]; decide) (by rw [hk]; decide) (by rw [hk]; rfl) (by decide) ?_
                                                  refine y_aload_n dL_law_988 1 rfl ?_
                                                  refine y_aload_n dL_law_989 0 rfl ?_
                                                  refine y_iload_n dL_law_990 3 rfl ?_
                                                  refine y_iconst (v := (1 : Int32)) dL_law_991 (by decide) ?_
                                                  refine y_iadd dL_law_992 ?_
                                                  obtain ⟨x258, ex258, hE⟩ := Option.bind_eq_some_iff.mp hE
                                                  refine y_iald ex258 dL_law_993 ?_
                                                  refine y_aload_n dL_law_994 0 rfl ?_
                                                  refine y_iload_n dL_law_995 3 rfl ?_
                                                  refine y_iconst (v := (2 : Int32)) dL_law_996 (by decide) ?_
                                                  refine y_iadd dL_law_997 ?_
                                                  obtain ⟨x259, ex259, hE⟩ := Option.bind_eq_some_iff.mp hE
                                                  refine y_iald ex259 dL_law_998 ?_
                                                  obtain ⟨u260, eu260, hE⟩ := Option.bind_eq_some_iff.mp hE
                                                  obtain ⟨q261, eq261, hE⟩ := Option.bind_eq_some_iff.mp hE
                                                  refine y_cVi0 (st := []) (as := [.int x258, .int x259]) (c_X6_walk eq261) lk_L_107 in_X6_walk se_X6_walk rfl eu260 ⟨Nat.le_of_ble_eq_true rfl, Nat.le_of_ble_eq_true rfl⟩ (Nat.le_of_ble_eq_true rfl) dL_law_999 ⟨by omega, by omega⟩ rfl ?_
                                                  refine y_aload_n dL_law_1002 2 rfl ?_
                                                  refine y_aload_n dL_law_1003 0 rfl ?_
                                                  refine y_iload_n dL_law_1004 3 rfl ?_
                                                  refine y_iconst (v := (1 : Int32)) dL_law_1005 (by decide) ?_
                                                  refine y_iadd dL_law_1006 ?_
                                                  obtain ⟨x262, ex262, hE⟩ := Option.bind_eq_some_iff.mp hE
                                                  refine y_iald ex262 dL_law_1007 ?_
                                                  refine y_aload_n dL_law_1008 0 rfl ?_
                                                  refine y_iload_n dL_law_1009 3 rfl ?_
                                                  refine y_iconst (v := (2 : Int32)) dL_law_1010 (by decide) ?_
                                                  refine y_iadd dL_law_1011 ?_
                                                  obtain ⟨x263, ex263, hE⟩ := Option.bind_eq_some_iff.mp hE
                                                  refine y_iald ex263 dL_law_1012 ?_
                                                  obtain ⟨u264, eu264, hE⟩ := Option.bind_eq_some_iff.mp hE
                                                  obtain ⟨q265, eq265, hE⟩ := Option.bind_eq_some_iff.mp hE
                                                  refine y_cVi0 (st := [.int q261.1]) (as := [.int x262, .int x263]) (c_X7_walk eq265) lk_L_110 in_X7_walk se_X7_walk rfl eu264 ⟨Nat.le_of_ble_eq_true rfl, Nat.le_of_ble_eq_true rfl⟩ (Nat.le_of_ble_eq_true rfl) dL_law_1013 ⟨by omega, by omega⟩ rfl ?_
                                                  refine y_icmp_eq (tgt := 1560) dL_law_1016 (by decide) (fun hc267 => ?_) (fun hc267 => ?_)
                                                  · rw [if_pos hc267] at hE
                                                    obtain ⟨x266, ex266, hE⟩ := Option.bind_eq_some_iff.mp hE
                                                    refine y_iinc (ls' := [(3, .int x266), (0, .ref v0), (1, .ref v1), (2, .ref v2)]) dL_law_1560 3 rfl (Option.some.inj ex266) (by decide) rfl ?_
                                                    refine y_goto (tgt := 18) dL_law_1563 (by decide) ?_
                                                    refine y_pick [1, 2, 3, 0] rfl ?_
                                                    exact ih _ _ _ _ _ _ _ hE (by omega) (by omega) hm KR K
                                                  · rw [if_neg hc267] at hE
                                                    refine y_iconst (v := (0 : Int32)) dL_law_1019 (by decide) ?_
                                                    obtain ⟨rfl, rfl, rfl⟩ := x_inj3 hE
                                                    obtain ⟨rfl, rfl⟩ := KR _ rfl
                                                    dsimp only
                                                    exact y_ret dL_law_1020 (by omega) (by omega) ⟨_, rfl, rfl⟩
                                                · rw [if_neg hc268] at hE
                                                  by_cases hc279 : (x14 &&& (63 : Int32)) = (22 : Int32)
                                                  · rw [if_pos hc279] at hE
                                                    have hk := hc279
                                                    refine y_tabIn (tgt := 1021) dL_law_33 (by rw [hk]; decide) (by rw [hk]; decide) (by rw [hk]; rfl) (by decide) ?_
                                                    refine y_aload_n dL_law_1021 1 rfl ?_
                                                    refine y_aload_n dL_law_1022 0 rfl ?_
                                                    refine y_iload_n dL_law_1023 3 rfl ?_
                                                    refine y_iconst (v := (1 : Int32)) dL_law_1024 (by decide) ?_
                                                    refine y_iadd dL_law_1025 ?_
                                                    obtain ⟨x269, ex269, hE⟩ := Option.bind_eq_some_iff.mp hE
                                                    refine y_iald ex269 dL_law_1026 ?_
                                                    refine y_aload_n dL_law_1027 0 rfl ?_
                                                    refine y_iload_n dL_law_1028 3 rfl ?_
                                                    refine y_iconst (v := (2 : Int32)) dL_law_1029 (by decide) ?_
                                                    refine y_iadd dL_law_1030 ?_
                                                    obtain ⟨x270, ex270, hE⟩ := Option.bind_eq_some_iff.mp hE
                                                    refine y_iald ex270 dL_law_1031 ?_
                                                    obtain ⟨u271, eu271, hE⟩ := Option.bind_eq_some_iff.mp hE
                                                    obtain ⟨q272, eq272, hE⟩ := Option.bind_eq_some_iff.mp hE
                                                    refine y_cVi0 (st := []) (as := [.int x269, .int x270]) (c_X6_shut eq272) lk_L_111 in_X6_shut se_X6_shut rfl eu271 ⟨Nat.le_of_ble_eq_true rfl, Nat.le_of_ble_eq_true rfl⟩ (Nat.le_of_ble_eq_true rfl) dL_law_1032 ⟨by omega, by omega⟩ rfl ?_
                                                    refine y_aload_n dL_law_1035 2 rfl ?_
                                                    refine y_aload_n dL_law_1036 0 rfl ?_
                                                    refine y_iload_n dL_law_1037 3 rfl ?_
                                                    refine y_iconst (v := (1 : Int32)) dL_law_1038 (by decide) ?_
                                                    refine y_iadd dL_law_1039 ?_
                                                    obtain ⟨x273, ex273, hE⟩ := Option.bind_eq_some_iff.mp hE
                                                    refine y_iald ex273 dL_law_1040 ?_
                                                    refine y_aload_n dL_law_1041 0 rfl ?_
                                                    refine y_iload_n dL_law_1042 3 rfl ?_
                                                    refine y_iconst (v := (2 : Int32)) dL_law_1043 (by decide) ?_
                                                    refine y_iadd dL_law_1044 ?_
                                                    obtain ⟨x274, ex274, hE⟩ := Option.bind_eq_some_iff.mp hE
                                                    refine y_iald ex274 dL_law_1045 ?_
                                                    obtain ⟨u275, eu275, hE⟩ := Option.bind_eq_some_iff.mp hE
                                                    obtain ⟨q276, eq276, hE⟩ := Option.bind_eq_some_iff.mp hE
                                                    refine y_cVi0 (st := [.int q272.1]) (as := [.int x273, .int x274]) (c_X7_shut eq276) lk_L_114 in_X7_shut se_X7_shut rfl eu275 ⟨Nat.le_of_ble_eq_true rfl, Nat.le_of_ble_eq_true rfl⟩ (Nat.le_of_ble_eq_true rfl) dL_law_1046 ⟨by omega, by omega⟩ rfl ?_
                                                    refine y_icmp_eq (tgt := 1560) dL_law_1049 (by decide) (fun hc278 => ?_) (fun hc278 => ?_)
                                                    · rw [if_pos hc278] at hE
                                                      obtain ⟨x277, ex277, hE⟩ := Option.bind_eq_some_iff.mp hE
                                                      refine y_iinc (ls' := [(3, .int x277), (0, .ref v0), (1, .ref v1), (2, .ref v2)]) dL_law_1560 3 rfl (Option.some.inj ex277) (by decide) rfl ?_
                                                      refine y_goto (tgt := 18) dL_law_1563 (by decide) ?_
                                                      refine y_pick [1, 2, 3, 0] rfl ?_
                                                      exact ih _ _ _ _ _ _ _ hE (by omega) (by omega) hm KR K
                                                    · rw [if_neg hc278] at hE
                                                      refine y_iconst (v := (0 : Int32)) dL_law_1052 (by decide) ?_
                                                      obtain ⟨rfl, rfl, rfl⟩ := x_inj3 hE
                                                      obtain ⟨rfl, rfl⟩ := KR _ rfl
                                                      dsimp only
                                                      exact y_ret dL_law_1053 (by omega) (by omega) ⟨_, rfl, rfl⟩
                                                  · rw [if_neg hc279] at hE
                                                    by_cases hc292 : (x14 &&& (63 : Int32)) = (23 : Int32)
                                                    · rw [if_pos hc292] at hE
                                                      have hk := hc292
                                                      refine y_tabIn (tgt := 1054) dL_law_33 (by rw [hk]; decide) (by rw [hk]; decide) (by rw [hk]; rfl) (by decide) ?_
                                                      refine y_aload_n dL_law_1054 1 rfl ?_
                                                      refine y_aload_n dL_law_1055 0 rfl ?_
                                                      refine y_iload_n dL_law_1056 3 rfl ?_
                                                      refine y_iconst (v := (1 : Int32)) dL_law_1057 (by decide) ?_
                                                      refine y_iadd dL_law_1058 ?_
                                                      obtain ⟨x280, ex280, hE⟩ := Option.bind_eq_some_iff.mp hE
                                                      refine y_iald ex280 dL_law_1059 ?_
                                                      refine y_aload_n dL_law_1060 0 rfl ?_
                                                      refine y_iload_n dL_law_1061 3 rfl ?_
                                                      refine y_iconst (v := (2 : Int32)) dL_law_1062 (by decide) ?_
                                                      refine y_iadd dL_law_1063 ?_
                                                      obtain ⟨x281, ex281, hE⟩ := Option.bind_eq_some_iff.mp hE
                                                      refine y_iald ex281 dL_law_1064 ?_
                                                      refine y_aload_n dL_law_1065 0 rfl ?_
                                                      refine y_iload_n dL_law_1066 3 rfl ?_
                                                      refine y_iconst (v := (3 : Int32)) dL_law_1067 (by decide) ?_
                                                      refine y_iadd dL_law_1068 ?_
                                                      obtain ⟨x282, ex282, hE⟩ := Option.bind_eq_some_iff.mp hE
                                                      refine y_iald ex282 dL_law_1069 ?_
                                                      obtain ⟨u283, eu283, hE⟩ := Option.bind_eq_some_iff.mp hE
                                                      obtain ⟨q284, eq284, hE⟩ := Option.bind_eq_some_iff.mp hE
                                                      refine y_cVi0 (st := []) (as := [.int x280, .int x281, .int x282]) (c_X6_open eq284) lk_L_115 in_X6_open se_X6_open rfl eu283 ⟨Nat.le_of_ble_eq_true rfl, Nat.le_of_ble_eq_true rfl⟩ (Nat.le_of_ble_eq_true rfl) dL_law_1070 ⟨by omega, by omega⟩ rfl ?_
                                                      refine y_aload_n dL_law_1073 2 rfl ?_
                                                      refine y_aload_n dL_law_1074 0 rfl ?_
                                                      refine y_iload_n dL_law_1075 3 rfl ?_
                                                      refine y_iconst (v := (1 : Int32)) dL_law_1076 (by decide) ?_
                                                      refine y_iadd dL_law_1077 ?_
                                                      obtain ⟨x285, ex285, hE⟩ := Option.bind_eq_some_iff.mp hE
                                                      refine y_iald ex285 dL_law_1078 ?_
                                                      refine y_aload_n dL_law_1079 0 rfl ?_
                                                      refine y_iload_n dL_law_1080 3 rfl ?_
                                                      refine y_iconst (v := (2 : Int32)) dL_law_1081 (by decide) ?_
                                                      refine y_iadd dL_law_1082 ?_
                                                      obtain ⟨x286, ex286, hE⟩ := Option.bind_eq_some_iff.mp hE
                                                      refine y_iald ex286 dL_law_1083 ?_
                                                      refine y_aload_n dL_law_1084 0 rfl ?_
                                                      refine y_iload_n dL_law_1085 3 rfl ?_
                                                      refine y_iconst (v := (3 : Int32)) dL_law_1086 (by decide) ?_
                                                      refine y_iadd dL_law_1087 ?_
                                                      obtain ⟨x287, ex287, hE⟩ := Option.bind_eq_some_iff.mp hE
                                                      refine y_iald ex287 dL_law_1088 ?_
                                                      obtain ⟨u288, eu288, hE⟩ := Option.bind_eq_some_iff.mp hE
                                                      obtain ⟨q289, eq289, hE⟩ := Option.bind_eq_some_iff.mp hE
                                                      refine y_cVi0 (st := [.int q284.1]) (as := [.int x285, .int x286, .int x287]) (c_X7_open eq289) lk_L_118 in_X7_open se_X7_open rfl eu288 ⟨Nat.le_of_ble_eq_true rfl, Nat.le_of_ble_eq_true rfl⟩ (Nat.le_of_ble_eq_true rfl) dL_law_1089 ⟨by omega, by omega⟩ rfl ?_
                                                      refine y_icmp_eq (tgt := 1560) dL_law_1092 (by decide) (fun hc291 => ?_) (fun hc291 => ?_)
                                                      · rw [if_pos hc291] at hE
                                                        obtain ⟨x290, ex290, hE⟩ := Option.bind_eq_some_iff.mp hE
                                                        refine y_iinc (ls' := [(3, .int x290), (0, .ref v0), (1, .ref v1), (2, .ref v2)]) dL_law_1560 3 rfl (Option.some.inj ex290) (by decide) rfl ?_
                                                        refine y_goto (tgt := 18) dL_law_1563 (by decide) ?_
                                                        refine y_pick [1, 2, 3, 0] rfl ?_
                                                        exact ih _ _ _ _ _ _ _ hE (by omega) (by omega) hm KR K
                                                      · rw [if_neg hc291] at hE
                                                        refine y_iconst (v := (0 : Int32)) dL_law_1095 (by decide) ?_
                                                        obtain ⟨rfl, rfl, rfl⟩ := x_inj3 hE
                                                        obtain ⟨rfl, rfl⟩ := KR _ rfl
                                                        dsimp only
                                                        exact y_ret dL_law_1096 (by omega) (by omega) ⟨_, rfl, rfl⟩
                                                    · rw [if_neg hc292] at hE
                                                      by_cases hc301 : (x14 &&& (63 : Int32)) = (24 : Int32)
                                                      · rw [if_pos hc301] at hE
                                                        have hk := hc301
                                                        refine y_tabIn (tgt := 1097) dL_law_33 (by rw [hk]; decide) (by rw [hk]; decide) (by rw [hk]; rfl) (by decide) ?_
                                                        refine y_aload_n dL_law_1097 1 rfl ?_
                                                        refine y_aload_n dL_law_1098 0 rfl ?_
                                                        refine y_iload_n dL_law_1099 3 rfl ?_
                                                        refine y_iconst (v := (1 : Int32)) dL_law_1100 (by decide) ?_
                                                        refine y_iadd dL_law_1101 ?_
                                                        obtain ⟨x293, ex293, hE⟩ := Option.bind_eq_some_iff.mp hE
                                                        refine y_iald ex293 dL_law_1102 ?_
                                                        obtain ⟨u294, eu294, hE⟩ := Option.bind_eq_some_iff.mp hE
                                                        obtain ⟨q295, eq295, hE⟩ := Option.bind_eq_some_iff.mp hE
                                                        refine y_cVi0 (st := []) (as := [.int x293]) (c_X6_reach eq295) lk_L_119 in_X6_reach se_X6_reach rfl eu294 ⟨Nat.le_of_ble_eq_true rfl, Nat.le_of_ble_eq_true rfl⟩ (Nat.le_of_ble_eq_true rfl) dL_law_1103 ⟨by omega, by omega⟩ rfl ?_
                                                        refine y_aload_n dL_law_1106 2 rfl ?_
                                                        refine y_aload_n dL_law_1107 0 rfl ?_
                                                        refine y_iload_n dL_law_1108 3 rfl ?_
                                                        refine y_iconst (v := (1 : Int32)) dL_law_1109 (by decide) ?_
                                                        refine y_iadd dL_law_1110 ?_
                                                        obtain ⟨x296, ex296, hE⟩ := Option.bind_eq_some_iff.mp hE
                                                        refine y_iald ex296 dL_law_1111 ?_
                                                        obtain ⟨u297, eu297, hE⟩ := Option.bind_eq_some_iff.mp hE
                                                        obtain ⟨q298, eq298, hE⟩ := Option.bind_eq_some_iff.mp hE
                                                        refine y_cVi0 (st := [.int q295.1]) (as := [.int x296]) (c_X7_reach eq298) lk_L_122 in_X7_reach se_X7_reach rfl eu297 ⟨Nat.le_of_ble_eq_true rfl, Nat.le_of_ble_eq_true rfl⟩ (Nat.le_of_ble_eq_true rfl) dL_law_1112 ⟨by omega, by omega⟩ rfl ?_
                                                        refine y_icmp_eq (tgt := 1560) dL_law_1115 (by decide) (fun hc300 => ?_) (fun hc300 => ?_)
                                                        · rw [if_pos hc300] at hE
                                                          obtain ⟨x299, ex299, hE⟩ := Option.bind_eq_some_iff.mp hE
                                                          refine y_iinc (ls' := [(3, .int x299), (0, .ref v0), (1, .ref v1), (2, .ref v2)]) dL_law_1560 3 rfl (Option.some.inj ex299) (by decide) rfl ?_
                                                          refine y_goto (tgt := 18) dL_law_1563 (by decide) ?_
                                                          refine y_pick [1, 2, 3, 0] rfl ?_
                                                          exact ih _ _ _ _ _ _ _ hE (by omega) (by omega) hm KR K
                                                        · rw [if_neg hc300] at hE
                                                          refine y_iconst (v := (0 : Int32)) dL_law_1118 (by decide) ?_
                                                          obtain ⟨rfl, rfl, rfl⟩ := x_inj3 hE
                                                          obtain ⟨rfl, rfl⟩ := KR _ rfl
                                                          dsimp only
                                                          exact y_ret dL_law_1119 (by omega) (by omega) ⟨_, rfl, rfl⟩
                                                      · rw [if_neg hc301] at hE
                                                        by_cases hc308 : (x14 &&& (63 : Int32)) = (25 : Int32)
                                                        · rw [if_pos hc308] at hE
                                                          have hk := hc308
                                                          refine y_tabIn (tgt := 1120) dL_law_33 (by rw [hk]; decide) (by rw [hk]; decide) (by rw [hk]; rfl) (by decide) ?_
                                                          refine y_aload_n dL_law_1120 1 rfl ?_
                                                          obtain ⟨u302, eu302, hE⟩ := Option.bind_eq_some_iff.mp hE
                                                          obtain ⟨q303, eq303, hE⟩ := Option.bind_eq_some_iff.mp hE
                                                          refine y_cVi0 (st := []) (as := []) (c_X6_shutIn eq303) lk_L_123 in_X6_shutIn se_X6_shutIn rfl eu302 ⟨Nat.le_of_ble_eq_true rfl, Nat.le_of_ble_eq_true rfl⟩ (Nat.le_of_ble_eq_true rfl) dL_law_1121 ⟨by omega, by omega⟩ rfl ?_
                                                          refine y_aload_n dL_law_1124 2 rfl ?_
                                                          obtain ⟨u304, eu304, hE⟩ := Option.bind_eq_some_iff.mp hE
                                                          obtain ⟨q305, eq305, hE⟩ := Option.bind_eq_some_iff.mp hE
                                                          refine y_cVi0 (st := [.int q303]) (as := []) (c_X7_shutIn eq305) lk_L_126 in_X7_shutIn se_X7_shutIn rfl eu304 ⟨Nat.le_of_ble_eq_true rfl, Nat.le_of_ble_eq_true rfl⟩ (Nat.le_of_ble_eq_true rfl) dL_law_1125 ⟨by omega, by omega⟩ rfl ?_
                                                          refine y_icmp_eq (tgt := 1560) dL_law_1128 (by decide) (fun hc307 => ?_) (fun hc307 => ?_)
                                                          · rw [if_pos hc307] at hE
                                                            obtain ⟨x306, ex306, hE⟩ := Option.bind_eq_some_iff.mp hE
                                                            refine y_iinc (ls' := [(3, .int x306), (0, .ref v0), (1, .ref v1), (2, .ref v2)]) dL_law_1560 3 rfl (Option.some.inj ex306) (by decide) rfl ?_
                                                            refine y_goto (tgt := 18) dL_law_1563 (by decide) ?_
                                                            refine y_pick [1, 2, 3, 0] rfl ?_
                                                            exact ih _ _ _ _ _ _ _ hE (by omega) (by omega) hm KR K
                                                          · rw [if_neg hc307] at hE
                                                            refine y_iconst (v := (0 : Int32)) dL_law_1131 (by decide) ?_
                                                            obtain ⟨rfl, rfl, rfl⟩ := x_inj3 hE
                                                            obtain ⟨rfl, rfl⟩ := KR _ rfl
                                                            dsimp only
                                                            exact y_ret dL_law_1132 (by omega) (by omega) ⟨_, rfl, rfl⟩
                                                        · rw [if_neg hc308] at hE
                                                          by_cases hc323 : (x14 &&& (63 : Int32)) = (26 : Int32)
                                                          · rw [if_pos hc323] at hE
                                                            have hk := hc323
                                                            refine y_tabIn (tgt := 1133) dL_law_33 (by rw [hk]; decide) (by rw [hk]; decide) (by rw [hk]; rfl) (by decide) ?_
                                                            refine y_aload_n dL_law_1133 1 rfl ?_
                                                            refine y_aload_n dL_law_1134 0 rfl ?_
                                                            refine y_iload_n dL_law_1135 3 rfl ?_
                                                            refine y_iconst (v := (1 : Int32)) dL_law_1136 (by decide) ?_
                                                            refine y_iadd dL_law_1137 ?_
                                                            obtain ⟨x309, ex309, hE⟩ := Option.bind_eq_some_iff.mp hE
                                                            refine y_iald ex309 dL_law_1138 ?_
                                                            refine y_aload_n dL_law_1139 0 rfl ?_
                                                            refine y_iload_n dL_law_1140 3 rfl ?_
                                                            refine y_iconst (v := (2 : Int32)) dL_law_1141 (by decide) ?_
                                                            refine y_iadd dL_law_1142 ?_
                                                            obtain ⟨x310, ex310, hE⟩ := Option.bind_eq_some_iff.mp hE
                                                            refine y_iald ex310 dL_law_1143 ?_
                                                            obtain ⟨u311, eu311, hE⟩ := Option.bind_eq_some_iff.mp hE
                                                            obtain ⟨q312, eq312, hE⟩ := Option.bind_eq_some_iff.mp hE
                                                            obtain ⟨c313, s314, hN, ecc313, ess314⟩ := x_add.spec hE
                                                            clear hE; have hE := hN; clear hN
                                                            refine y_cVi1 (st := []) (as := [.int x309, .int x310]) (c_X6_coming (eq312.trans (show some q312 = some ((q312.1.1, q312.1.2), q312.2.1, q312.2.2) from rfl))) lk_L_127 in_X6_coming se_X6_coming rfl eu311 ⟨Nat.le_of_ble_eq_true rfl, Nat.le_of_ble_eq_true rfl⟩ (Nat.le_of_ble_eq_true rfl) dL_law_1144 ⟨by omega, by omega⟩ rfl ?_
                                                            refine y_aload_n dL_law_1147 2 rfl ?_
                                                            refine y_aload_n dL_law_1148 0 rfl ?_
                                                            refine y_iload_n dL_law_1149 3 rfl ?_
                                                            refine y_iconst (v := (1 : Int32)) dL_law_1150 (by decide) ?_
                                                            refine y_iadd dL_law_1151 ?_
                                                            obtain ⟨x315, ex315, hE⟩ := Option.bind_eq_some_iff.mp hE
                                                            refine y_iald ex315 dL_law_1152 ?_
                                                            refine y_aload_n dL_law_1153 0 rfl ?_
                                                            refine y_iload_n dL_law_1154 3 rfl ?_
                                                            refine y_iconst (v := (2 : Int32)) dL_law_1155 (by decide) ?_
                                                            refine y_iadd dL_law_1156 ?_
                                                            obtain ⟨x316, ex316, hE⟩ := Option.bind_eq_some_iff.mp hE
                                                            refine y_iald ex316 dL_law_1157 ?_
                                                            obtain ⟨u317, eu317, hE⟩ := Option.bind_eq_some_iff.mp hE
                                                            obtain ⟨q318, eq318, hE⟩ := Option.bind_eq_some_iff.mp hE
                                                            obtain ⟨c319, s320, hN, ecc319, ess320⟩ := x_add.spec hE
                                                            clear hE; have hE := hN; clear hN
                                                            refine y_cVi1 (st := [.int q312.1.1]) (as := [.int x315, .int x316]) (c_X7_coming (eq318.trans (show some q318 = some ((q318.1.1, q318.1.2), q318.2.1, q318.2.2) from rfl))) lk_L_130 in_X7_coming se_X7_coming rfl eu317 ⟨Nat.le_of_ble_eq_true rfl, Nat.le_of_ble_eq_true rfl⟩ (Nat.le_of_ble_eq_true rfl) dL_law_1158 ⟨by omega, by omega⟩ rfl ?_
                                                            refine y_icmp_eq (tgt := 1560) dL_law_1161 (by decide) (fun hc322 => ?_) (fun hc322 => ?_)
                                                            · rw [if_pos hc322] at hE
                                                              obtain ⟨x321, ex321, hE⟩ := Option.bind_eq_some_iff.mp hE
                                                              refine y_iinc (ls' := [(3, .int x321), (0, .ref v0), (1, .ref v1), (2, .ref v2)]) dL_law_1560 3 rfl (Option.some.inj ex321) (by decide) rfl ?_
                                                              refine y_goto (tgt := 18) dL_law_1563 (by decide) ?_
                                                              refine y_pick [1, 2, 3, 0] rfl ?_
                                                              exact ih _ _ _ _ _ _ _ hE (by omega) (by omega) hm KR K
                                                            · rw [if_neg hc322] at hE
                                                              refine y_iconst (v := (0 : Int32)) dL_law_1164 (by decide) ?_
                                                              obtain ⟨rfl, rfl, rfl⟩ := x_inj3 hE
                                                              obtain ⟨rfl, rfl⟩ := KR _ rfl
                                                              dsimp only
                                                              exact y_ret dL_law_1165 (by omega) (by omega) ⟨_, rfl, rfl⟩
                                                          · rw [if_neg hc323] at hE
                                                            by_cases hc336 : (x14 &&& (63 : Int32)) = (27 : Int32)
                                                            · rw [if_pos hc336] at hE
                                                              have hk := hc336
                                                              refine y_tabIn (tgt := 1166) dL_law_33 (by rw [hk]; decide) (by rw [hk]; decide) (by rw [hk]; rfl) (by decide) ?_
                                                              refine y_aload_n dL_law_1166 1 rfl ?_
                                                              refine y_aload_n dL_law_1167 0 rfl ?_
                                                              refine y_iload_n dL_law_1168 3 rfl ?_
                                                              refine y_iconst (v := (1 : Int32)) dL_law_1169 (by decide) ?_
                                                              refine y_iadd dL_law_1170 ?_
                                                              obtain ⟨x324, ex324, hE⟩ := Option.bind_eq_some_iff.mp hE
                                                              refine y_iald ex324 dL_law_1171 ?_
                                                              obtain ⟨u325, eu325, hE⟩ := Option.bind_eq_some_iff.mp hE
                                                              obtain ⟨q326, eq326, hE⟩ := Option.bind_eq_some_iff.mp hE
                                                              obtain ⟨c327, s328, hN, ecc327, ess328⟩ := x_add.spec hE
                                                              clear hE; have hE := hN; clear hN
                                                              refine y_cVi1 (st := []) (as := [.int x324]) (c_X6_all (eq326.trans (show some q326 = some ((q326.1.1, q326.1.2), q326.2.1, q326.2.2) from rfl))) lk_L_131 in_X6_all se_X6_all rfl eu325 ⟨Nat.le_of_ble_eq_true rfl, Nat.le_of_ble_eq_true rfl⟩ (Nat.le_of_ble_eq_true rfl) dL_law_1172 ⟨by omega, by omega⟩ rfl ?_
                                                              refine y_aload_n dL_law_1175 2 rfl ?_
                                                              refine y_aload_n dL_law_1176 0 rfl ?_
                                                              refine y_iload_n dL_law_1177 3 rfl ?_
                                                              refine y_iconst (v := (1 : Int32)) dL_law_1178 (by decide) ?_
                                                              refine y_iadd dL_law_1179 ?_
                                                              obtain ⟨x329, ex329, hE⟩ := Option.bind_eq_some_iff.mp hE
                                                              refine y_iald ex329 dL_law_1180 ?_
                                                              obtain ⟨u330, eu330, hE⟩ := Option.bind_eq_some_iff.mp hE
                                                              obtain ⟨q331, eq331, hE⟩ := Option.bind_eq_some_iff.mp hE
                                                              obtain ⟨c332, s333, hN, ecc332, ess333⟩ := x_add.spec hE
                                                              clear hE; have hE := hN; clear hN
                                                              refine y_cVi1 (st := [.int q326.1.1]) (as := [.int x329]) (c_X7_all (eq331.trans (show some q331 = some ((q331.1.1, q331.1.2), q331.2.1, q331.2.2) from rfl))) lk_L_134 in_X7_all se_X7_all rfl eu330 ⟨Nat.le_of_ble_eq_true rfl, Nat.le_of_ble_eq_true rfl⟩ (Nat.le_of_ble_eq_true rfl) dL_law_1181 ⟨by omega, by omega⟩ rfl ?_
                                                              refine y_icmp_eq (tgt := 1560) dL_law_1184 (by decide) (fun hc335 => ?_) (fun hc335 => ?_)
                                                              · rw [if_pos hc335] at hE
                                                                obtain ⟨x334, ex334, hE⟩ := Option.bind_eq_some_iff.mp hE
                                                                refine y_iinc (ls' := [(3, .int x334), (0, .ref v0), (1, .ref v1), (2, .ref v2)]) dL_law_1560 3 rfl (Option.some.inj ex334) (by decide) rfl ?_
                                                                refine y_goto (tgt := 18) dL_law_1563 (by decide) ?_
                                                                refine y_pick [1, 2, 3, 0] rfl ?_
                                                                exact ih _ _ _ _ _ _ _ hE (by omega) (by omega) hm KR K
                                                              · rw [if_neg hc335] at hE
                                                                refine y_iconst (v := (0 : Int32)) dL_law_1187 (by decide) ?_
                                                                obtain ⟨rfl, rfl, rfl⟩ := x_inj3 hE
                                                                obtain ⟨rfl, rfl⟩ := KR _ rfl
                                                                dsimp only
                                                                exact y_ret dL_law_1188 (by omega) (by omega) ⟨_, rfl, rfl⟩
                                                            · rw [if_neg hc336] at hE
                                                              by_cases hc351 : (x14 &&& (63 : Int32)) = (28 : Int32)
                                                              · rw [if_pos hc351] at hE
                                                                have hk := hc351
                                                                refine y_tabIn (tgt := 1189) dL_law_33 (by rw [hk]; decide) (by rw [hk]; decide) (by rw [hk]; rfl) (by decide) ?_
                                                                refine y_aload_n dL_law_1189 1 rfl ?_
                                                                refine y_aload_n dL_law_1190 0 rfl ?_
                                                                refine y_iload_n dL_law_1191 3 rfl ?_
                                                                refine y_iconst (v := (1 : Int32)) dL_law_1192 (by decide) ?_
                                                                refine y_iadd dL_law_1193 ?_
                                                                obtain ⟨x337, ex337, hE⟩ := Option.bind_eq_some_iff.mp hE
                                                                refine y_iald ex337 dL_law_1194 ?_
                                                                refine y_aload_n dL_law_1195 0 rfl ?_
                                                                refine y_iload_n dL_law_1196 3 rfl ?_
                                                                refine y_iconst (v := (2 : Int32)) dL_law_1197 (by decide) ?_
                                                                refine y_iadd dL_law_1198 ?_
                                                                obtain ⟨x338, ex338, hE⟩ := Option.bind_eq_some_iff.mp hE
                                                                refine y_iald ex338 dL_law_1199 ?_
                                                                obtain ⟨u339, eu339, hE⟩ := Option.bind_eq_some_iff.mp hE
                                                                obtain ⟨q340, eq340, hE⟩ := Option.bind_eq_some_iff.mp hE
                                                                obtain ⟨c341, s342, hN, ecc341, ess342⟩ := x_add.spec hE
                                                                clear hE; have hE := hN; clear hN
                                                                refine y_cVi1 (st := []) (as := [.int x337, .int x338]) (c_X6_first (eq340.trans (show some q340 = some ((q340.1.1, q340.1.2), q340.2.1, q340.2.2) from rfl))) lk_L_135 in_X6_first se_X6_first rfl eu339 ⟨Nat.le_of_ble_eq_true rfl, Nat.le_of_ble_eq_true rfl⟩ (Nat.le_of_ble_eq_true rfl) dL_law_1200 ⟨by omega, by omega⟩ rfl ?_
                                                                refine y_aload_n dL_law_1203 2 rfl ?_
                                                                refine y_aload_n dL_law_1204 0 rfl ?_
                                                                refine y_iload_n dL_law_1205 3 rfl ?_
                                                                refine y_iconst (v := (1 : Int32)) dL_law_1206 (by decide) ?_
                                                                refine y_iadd dL_law_1207 ?_
                                                                obtain ⟨x343, ex343, hE⟩ := Option.bind_eq_some_iff.mp hE
                                                                refine y_iald ex343 dL_law_1208 ?_
                                                                refine y_aload_n dL_law_1209 0 rfl ?_
                                                                refine y_iload_n dL_law_1210 3 rfl ?_
                                                                refine y_iconst (v := (2 : Int32)) dL_law_1211 (by decide) ?_
                                                                refine y_iadd dL_law_1212 ?_
                                                                obtain ⟨x344, ex344, hE⟩ := Option.bind_eq_some_iff.mp hE
                                                                refine y_iald ex344 dL_law_1213 ?_
                                                                obtain ⟨u345, eu345, hE⟩ := Option.bind_eq_some_iff.mp hE
                                                                obtain ⟨q346, eq346, hE⟩ := Option.bind_eq_some_iff.mp hE
                                                                obtain ⟨c347, s348, hN, ecc347, ess348⟩ := x_add.spec hE
                                                                clear hE; have hE := hN; clear hN
                                                                refine y_cVi1 (st := [.int q340.1.1]) (as := [.int x343, .int x344]) (c_X7_first (eq346.trans (show some q346 = some ((q346.1.1, q346.1.2), q346.2.1, q346.2.2) from rfl))) lk_L_138 in_X7_first se_X7_first rfl eu345 ⟨Nat.le_of_ble_eq_true rfl, Nat.le_of_ble_eq_true rfl⟩ (Nat.le_of_ble_eq_true rfl) dL_law_1214 ⟨by omega, by omega⟩ rfl ?_
                                                                refine y_icmp_eq (tgt := 1560) dL_law_1217 (by decide) (fun hc350 => ?_) (fun hc350 => ?_)
                                                                · rw [if_pos hc350] at hE
                                                                  obtain ⟨x349, ex349, hE⟩ := Option.bind_eq_some_iff.mp hE
                                                                  refine y_iinc (ls' := [(3, .int x349), (0, .ref v0), (1, .ref v1), (2, .ref v2)]) dL_law_1560 3 rfl (Option.some.inj ex349) (by decide) rfl ?_
                                                                  refine y_goto (tgt := 18) dL_law_1563 (by decide) ?_
                                                                  refine y_pick [1, 2, 3, 0] rfl ?_
                                                                  exact ih _ _ _ _ _ _ _ hE (by omega) (by omega) hm KR K
                                                                · rw [if_neg hc350] at hE
                                                                  refine y_iconst (v := (0 : Int32)) dL_law_1220 (by decide) ?_
                                                                  obtain ⟨rfl, rfl, rfl⟩ := x_inj3 hE
                                                                  obtain ⟨rfl, rfl⟩ := KR _ rfl
                                                                  dsimp only
                                                                  exact y_ret dL_law_1221 (by omega) (by omega) ⟨_, rfl, rfl⟩
                                                              · rw [if_neg hc351] at hE
                                                                by_cases hc368 : (x14 &&& (63 : Int32)) = (29 : Int32)
                                                                · rw [if_pos hc368] at hE
                                                                  have hk := hc368
                                                                  refine y_tabIn (tgt := 1222) dL_law_33 (by rw [hk]; decide) (by rw [hk]; decide) (by rw [hk]; rfl) (by decide) ?_
                                                                  refine y_aload_n dL_law_1222 1 rfl ?_
                                                                  refine y_aload_n dL_law_1223 0 rfl ?_
                                                                  refine y_iload_n dL_law_1224 3 rfl ?_
                                                                  refine y_iconst (v := (1 : Int32)) dL_law_1225 (by decide) ?_
                                                                  refine y_iadd dL_law_1226 ?_
                                                                  obtain ⟨x352, ex352, hE⟩ := Option.bind_eq_some_iff.mp hE
                                                                  refine y_iald ex352 dL_law_1227 ?_
                                                                  refine y_aload_n dL_law_1228 0 rfl ?_
                                                                  refine y_iload_n dL_law_1229 3 rfl ?_
                                                                  refine y_iconst (v := (2 : Int32)) dL_law_1230 (by decide) ?_
                                                                  refine y_iadd dL_law_1231 ?_
                                                                  obtain ⟨x353, ex353, hE⟩ := Option.bind_eq_some_iff.mp hE
                                                                  refine y_iald ex353 dL_law_1232 ?_
                                                                  refine y_aload_n dL_law_1233 0 rfl ?_
                                                                  refine y_iload_n dL_law_1234 3 rfl ?_
                                                                  refine y_iconst (v := (3 : Int32)) dL_law_1235 (by decide) ?_
                                                                  refine y_iadd dL_law_1236 ?_
                                                                  obtain ⟨x354, ex354, hE⟩ := Option.bind_eq_some_iff.mp hE
                                                                  refine y_iald ex354 dL_law_1237 ?_
                                                                  obtain ⟨u355, eu355, hE⟩ := Option.bind_eq_some_iff.mp hE
                                                                  obtain ⟨q356, eq356, hE⟩ := Option.bind_eq_some_iff.mp hE
                                                                  obtain ⟨c357, s358, hN, ecc357, ess358⟩ := x_add.spec hE
                                                                  clear hE; have hE := hN; clear hN
                                                                  refine y_cVi1 (st := []) (as := [.int x352, .int x353, .int x354]) (c_X6_errands (eq356.trans (show some q356 = some ((q356.1.1, q356.1.2), q356.2.1, q356.2.2) from rfl))) lk_L_139 in_X6_errands se_X6_errands rfl eu355 ⟨Nat.le_of_ble_eq_true rfl, Nat.le_of_ble_eq_true rfl⟩ (Nat.le_of_ble_eq_true rfl) dL_law_1238 ⟨by omega, by omega⟩ rfl ?_
                                                                  refine y_aload_n dL_law_1241 2 rfl ?_
                                                                  refine y_aload_n dL_law_1242 0 rfl ?_
                                                                  refine y_iload_n dL_law_1243 3 rfl ?_
                                                                  refine y_iconst (v := (1 : Int32)) dL_law_1244 (by decide) ?_
                                                                  refine y_iadd dL_law_1245 ?_
                                                                  obtain ⟨x359, ex359, hE⟩ := Option.bind_eq_some_iff.mp hE
                                                                  refine y_iald ex359 dL_law_1246 ?_
                                                                  refine y_aload_n dL_law_1247 0 rfl ?_
                                                                  refine y_iload_n dL_law_1248 3 rfl ?_
                                                                  refine y_iconst (v := (2 : Int32)) dL_law_1249 (by decide) ?_
                                                                  refine y_iadd dL_law_1250 ?_
                                                                  obtain ⟨x360, ex360, hE⟩ := Option.bind_eq_some_iff.mp hE
                                                                  refine y_iald ex360 dL_law_1251 ?_
                                                                  refine y_aload_n dL_law_1252 0 rfl ?_
                                                                  refine y_iload_n dL_law_1253 3 rfl ?_
                                                                  refine y_iconst (v := (3 : Int32)) dL_law_1254 (by decide) ?_
                                                                  refine y_iadd dL_law_1255 ?_
                                                                  obtain ⟨x361, ex361, hE⟩ := Option.bind_eq_some_iff.mp hE
                                                                  refine y_iald ex361 dL_law_1256 ?_
                                                                  obtain ⟨u362, eu362, hE⟩ := Option.bind_eq_some_iff.mp hE
                                                                  obtain ⟨q363, eq363, hE⟩ := Option.bind_eq_some_iff.mp hE
                                                                  obtain ⟨c364, s365, hN, ecc364, ess365⟩ := x_add.spec hE
                                                                  clear hE; have hE := hN; clear hN
                                                                  refine y_cVi1 (st := [.int q356.1.1]) (as := [.int x359, .int x360, .int x361]) (c_X7_errands (eq363.trans (show some q363 = some ((q363.1.1, q363.1.2), q363.2.1, q363.2.2) from rfl))) lk_L_142 in_X7_errands se_X7_errands rfl eu362 ⟨Nat.le_of_ble_eq_true rfl, Nat.le_of_ble_eq_true rfl⟩ (Nat.le_of_ble_eq_true rfl) dL_law_1257 ⟨by omega, by omega⟩ rfl ?_
                                                                  refine y_icmp_eq (tgt := 1560) dL_law_1260 (by decide) (fun hc367 => ?_) (fun hc367 => ?_)
                                                                  · rw [if_pos hc367] at hE
                                                                    obtain ⟨x366, ex366, hE⟩ := Option.bind_eq_some_iff.mp hE
                                                                    refine y_iinc (ls' := [(3, .int x366), (0, .ref v0), (1, .ref v1), (2, .ref v2)]) dL_law_1560 3 rfl (Option.some.inj ex366) (by decide) rfl ?_
                                                                    refine y_goto (tgt := 18) dL_law_1563 (by decide) ?_
                                                                    refine y_pick [1, 2, 3, 0] rfl ?_
                                                                    exact ih _ _ _ _ _ _ _ hE (by omega) (by omega) hm KR K
                                                                  · rw [if_neg hc367] at hE
                                                                    refine y_iconst (v := (0 : Int32)) dL_law_1263 (by decide) ?_
                                                                    obtain ⟨rfl, rfl, rfl⟩ := x_inj3 hE
                                                                    obtain ⟨rfl, rfl⟩ := KR _ rfl
                                                                    dsimp only
                                                                    exact y_ret dL_law_1264 (by omega) (by omega) ⟨_, rfl, rfl⟩
                                                                · rw [if_neg hc368] at hE
                                                                  by_cases hc379 : (x14 &&& (63 : Int32)) = (30 : Int32)
                                                                  · rw [if_pos hc379] at hE
                                                                    have hk := hc379
                                                                    refine y_tabIn (tgt := 1265) dL_law_33 (by rw [hk]; decide) (by rw [hk]; decide) (by rw [hk]; rfl) (by decide) ?_
                                                                    refine y_aload_n dL_law_1265 1 rfl ?_
                                                                    obtain ⟨u369, eu369, hE⟩ := Option.bind_eq_some_iff.mp hE
                                                                    obtain ⟨q370, eq370, hE⟩ := Option.bind_eq_some_iff.mp hE
                                                                    obtain ⟨c371, s372, hN, ecc371, ess372⟩ := x_add.spec hE
                                                                    clear hE; have hE := hN; clear hN
                                                                    refine y_cVi1 (st := []) (as := []) (c_X6_lost (eq370.trans (show some q370 = some ((q370.1.1, q370.1.2), q370.2.1, q370.2.2) from rfl))) lk_L_143 in_X6_lost se_X6_lost rfl eu369 ⟨Nat.le_of_ble_eq_true rfl, Nat.le_of_ble_eq_true rfl⟩ (Nat.le_of_ble_eq_true rfl) dL_law_1266 ⟨by omega, by omega⟩ rfl ?_
                                                                    refine y_aload_n dL_law_1269 2 rfl ?_
                                                                    obtain ⟨u373, eu373, hE⟩ := Option.bind_eq_some_iff.mp hE
                                                                    obtain ⟨q374, eq374, hE⟩ := Option.bind_eq_some_iff.mp hE
                                                                    obtain ⟨c375, s376, hN, ecc375, ess376⟩ := x_add.spec hE
                                                                    clear hE; have hE := hN; clear hN
                                                                    refine y_cVi1 (st := [.int q370.1.1]) (as := []) (c_X7_lost (eq374.trans (show some q374 = some ((q374.1.1, q374.1.2), q374.2.1, q374.2.2) from rfl))) lk_L_146 in_X7_lost se_X7_lost rfl eu373 ⟨Nat.le_of_ble_eq_true rfl, Nat.le_of_ble_eq_true rfl⟩ (Nat.le_of_ble_eq_true rfl) dL_law_1270 ⟨by omega, by omega⟩ rfl ?_
                                                                    refine y_icmp_eq (tgt := 1560) dL_law_1273 (by decide) (fun hc378 => ?_) (fun hc378 => ?_)
                                                                    · rw [if_pos hc378] at hE
                                                                      obtain ⟨x377, ex377, hE⟩ := Option.bind_eq_some_iff.mp hE
                                                                      refine y_iinc (ls' := [(3, .int x377), (0, .ref v0), (1, .ref v1), (2, .ref v2)]) dL_law_1560 3 rfl (Option.some.inj ex377) (by decide) rfl ?_
                                                                      refine y_goto (tgt := 18) dL_law_1563 (by decide) ?_
                                                                      refine y_pick [1, 2, 3, 0] rfl ?_
                                                                      exact ih _ _ _ _ _ _ _ hE (by omega) (by omega) hm KR K
                                                                    · rw [if_neg hc378] at hE
                                                                      refine y_iconst (v := (0 : Int32)) dL_law_1276 (by decide) ?_
                                                                      obtain ⟨rfl, rfl, rfl⟩ := x_inj3 hE
                                                                      obtain ⟨rfl, rfl⟩ := KR _ rfl
                                                                      dsimp only
                                                                      exact y_ret dL_law_1277 (by omega) (by omega) ⟨_, rfl, rfl⟩
                                                                  · rw [if_neg hc379] at hE
                                                                    by_cases hc386 : (x14 &&& (63 : Int32)) = (31 : Int32)
                                                                    · rw [if_pos hc386] at hE
                                                                      have hk := hc386
                                                                      refine y_tabIn (tgt := 1278) dL_law_33 (by rw [hk]; decide) (by rw [hk]; decide) (by rw [hk]; rfl) (by decide) ?_
                                                                      refine y_aload_n dL_law_1278 1 rfl ?_
                                                                      obtain ⟨u380, eu380, hE⟩ := Option.bind_eq_some_iff.mp hE
                                                                      obtain ⟨q381, eq381, hE⟩ := Option.bind_eq_some_iff.mp hE
                                                                      refine y_cVi0 (st := []) (as := []) (c_X6_stock eq381) lk_L_147 in_X6_stock se_X6_stock rfl eu380 ⟨Nat.le_of_ble_eq_true rfl, Nat.le_of_ble_eq_true rfl⟩ (Nat.le_of_ble_eq_true rfl) dL_law_1279 ⟨by omega, by omega⟩ rfl ?_
                                                                      refine y_aload_n dL_law_1282 2 rfl ?_
                                                                      obtain ⟨u382, eu382, hE⟩ := Option.bind_eq_some_iff.mp hE
                                                                      obtain ⟨q383, eq383, hE⟩ := Option.bind_eq_some_iff.mp hE
                                                                      refine y_cVi0 (st := [.int q381]) (as := []) (c_X7_stock eq383) lk_L_150 in_X7_stock se_X7_stock rfl eu382 ⟨Nat.le_of_ble_eq_true rfl, Nat.le_of_ble_eq_true rfl⟩ (Nat.le_of_ble_eq_true rfl) dL_law_1283 ⟨by omega, by omega⟩ rfl ?_
                                                                      refine y_icmp_eq (tgt := 1560) dL_law_1286 (by decide) (fun hc385 => ?_) (fun hc385 => ?_)
                                                                      · rw [if_pos hc385] at hE
                                                                        obtain ⟨x384, ex384, hE⟩ := Option.bind_eq_some_iff.mp hE
                                                                        refine y_iinc (ls' := [(3, .int x384), (0, .ref v0), (1, .ref v1), (2, .ref v2)]) dL_law_1560 3 rfl (Option.some.inj ex384) (by decide) rfl ?_
                                                                        refine y_goto (tgt := 18) dL_law_1563 (by decide) ?_
                                                                        refine y_pick [1, 2, 3, 0] rfl ?_
                                                                        exact ih _ _ _ _ _ _ _ hE (by omega) (by omega) hm KR K
                                                                      · rw [if_neg hc385] at hE
                                                                        refine y_iconst (v := (0 : Int32)) dL_law_1289 (by decide) ?_
                                                                        obtain ⟨rfl, rfl, rfl⟩ := x_inj3 hE
                                                                        obtain ⟨rfl, rfl⟩ := KR _ rfl
                                                                        dsimp only
                                                                        exact y_ret dL_law_1290 (by omega) (by omega) ⟨_, rfl, rfl⟩
                                                                    · rw [if_neg hc386] at hE
                                                                      by_cases hc395 : (x14 &&& (63 : Int32)) = (32 : Int32)
                                                                      · rw [if_pos hc395] at hE
                                                                        have hk := hc395
                                                                        refine y_tabIn (tgt := 1291) dL_law_33 (by rw [hk]; decide) (by rw [hk]; decide) (by rw [hk]; rfl) (by decide) ?_
                                                                        refine y_aload_n dL_law_1291 1 rfl ?_
                                                                        obtain ⟨u387, eu387, hE⟩ := Option.bind_eq_some_iff.mp hE
                                                                        obtain ⟨q388, eq388, hE⟩ := Option.bind_eq_some_iff.mp hE
                                                                        refine y_cVi0 (st := []) (as := []) (c_X6_lasts eq388) lk_L_151 in_X6_lasts se_X6_lasts rfl eu387 ⟨Nat.le_of_ble_eq_true rfl, Nat.le_of_ble_eq_true rfl⟩ (Nat.le_of_ble_eq_true rfl) dL_law_1292 ⟨by omega, by omega⟩ rfl ?_
                                                                        refine y_aload_n dL_law_1295 2 rfl ?_
                                                                        obtain ⟨u389, eu389, hE⟩ := Option.bind_eq_some_iff.mp hE
                                                                        obtain ⟨q390, eq390, hE⟩ := Option.bind_eq_some_iff.mp hE
                                                                        obtain ⟨c391, s392, hN, ecc391, ess392⟩ := x_add.spec hE
                                                                        clear hE; have hE := hN; clear hN
                                                                        refine y_cVi1 (st := [.int q388.1]) (as := []) (c_X7_lasts (eq390.trans (show some q390 = some ((q390.1.1, q390.1.2), q390.2.1, q390.2.2) from rfl))) lk_L_154 in_X7_lasts se_X7_lasts rfl eu389 ⟨Nat.le_of_ble_eq_true rfl, Nat.le_of_ble_eq_true rfl⟩ (Nat.le_of_ble_eq_true rfl) dL_law_1296 ⟨by omega, by omega⟩ rfl ?_
                                                                        refine y_icmp_eq (tgt := 1560) dL_law_1299 (by decide) (fun hc394 => ?_) (fun hc394 => ?_)
                                                                        · rw [if_pos hc394] at hE
                                                                          obtain ⟨x393, ex393, hE⟩ := Option.bind_eq_some_iff.mp hE
                                                                          refine y_iinc (ls' := [(3, .int x393), (0, .ref v0), (1, .ref v1), (2, .ref v2)]) dL_law_1560 3 rfl (Option.some.inj ex393) (by decide) rfl ?_
                                                                          refine y_goto (tgt := 18) dL_law_1563 (by decide) ?_
                                                                          refine y_pick [1, 2, 3, 0] rfl ?_
                                                                          exact ih _ _ _ _ _ _ _ hE (by omega) (by omega) hm KR K
                                                                        · rw [if_neg hc394] at hE
                                                                          refine y_iconst (v := (0 : Int32)) dL_law_1302 (by decide) ?_
                                                                          obtain ⟨rfl, rfl, rfl⟩ := x_inj3 hE
                                                                          obtain ⟨rfl, rfl⟩ := KR _ rfl
                                                                          dsimp only
                                                                          exact y_ret dL_law_1303 (by omega) (by omega) ⟨_, rfl, rfl⟩
                                                                      · rw [if_neg hc395] at hE
                                                                        by_cases hc406 : (x14 &&& (63 : Int32)) = (33 : Int32)
                                                                        · rw [if_pos hc406] at hE
                                                                          have hk := hc406
                                                                          refine y_tabIn (tgt := 1304) dL_law_33 (by rw [hk]; decide) (by rw [hk]; decide) (by rw [hk]; rfl) (by decide) ?_
                                                                          refine y_aload_n dL_law_1304 1 rfl ?_
                                                                          refine y_aload_n dL_law_1305 0 rfl ?_
                                                                          refine y_iload_n dL_law_1306 3 rfl ?_
                                                                          refine y_iconst (v := (1 : Int32)) dL_law_1307 (by decide) ?_
                                                                          refine y_iadd dL_law_1308 ?_
                                                                          obtain ⟨x396, ex396, hE⟩ := Option.bind_eq_some_iff.mp hE
                                                                          refine y_iald ex396 dL_law_1309 ?_
                                                                          obtain ⟨u397, eu397, hE⟩ := Option.bind_eq_some_iff.mp hE
                                                                          obtain ⟨q398, eq398, hE⟩ := Option.bind_eq_some_iff.mp hE
                                                                          refine y_cVi0 (st := []) (as := [.int x396]) (c_X6_worth eq398) lk_L_155 in_X6_worth se_X6_worth rfl eu397 ⟨Nat.le_of_ble_eq_true rfl, Nat.le_of_ble_eq_true rfl⟩ (Nat.le_of_ble_eq_true rfl) dL_law_1310 ⟨by omega, by omega⟩ rfl ?_
                                                                          refine y_aload_n dL_law_1313 2 rfl ?_
                                                                          refine y_aload_n dL_law_1314 0 rfl ?_
                                                                          refine y_iload_n dL_law_1315 3 rfl ?_
                                                                          refine y_iconst (v := (1 : Int32)) dL_law_1316 (by decide) ?_
                                                                          refine y_iadd dL_law_1317 ?_
                                                                          obtain ⟨x399, ex399, hE⟩ := Option.bind_eq_some_iff.mp hE
                                                                          refine y_iald ex399 dL_law_1318 ?_
                                                                          obtain ⟨u400, eu400, hE⟩ := Option.bind_eq_some_iff.mp hE
                                                                          obtain ⟨q401, eq401, hE⟩ := Option.bind_eq_some_iff.mp hE
                                                                          obtain ⟨c402, s403, hN, ecc402, ess403⟩ := x_add.spec hE
                                                                          clear hE; have hE := hN; clear hN
                                                                          refine y_cVi1 (st := [.int q398.1]) (as := [.int x399]) (c_X7_worth (eq401.trans (show some q401 = some ((q401.1.1, q401.1.2), q401.2.1, q401.2.2) from rfl))) lk_L_158 in_X7_worth se_X7_worth rfl eu400 ⟨Nat.le_of_ble_eq_true rfl, Nat.le_of_ble_eq_true rfl⟩ (Nat.le_of_ble_eq_true rfl) dL_law_1319 ⟨by omega, by omega⟩ rfl ?_
                                                                          refine y_icmp_eq (tgt := 1560) dL_law_1322 (by decide) (fun hc405 => ?_) (fun hc405 => ?_)
                                                                          · rw [if_pos hc405] at hE
                                                                            obtain ⟨x404, ex404, hE⟩ := Option.bind_eq_some_iff.mp hE
                                                                            refine y_iinc (ls' := [(3, .int x404), (0, .ref v0), (1, .ref v1), (2, .ref v2)]) dL_law_1560 3 rfl (Option.some.inj ex404) (by decide) rfl ?_
                                                                            refine y_goto (tgt := 18) dL_law_1563 (by decide) ?_
                                                                            refine y_pick [1, 2, 3, 0] rfl ?_
                                                                            exact ih _ _ _ _ _ _ _ hE (by omega) (by omega) hm KR K
                                                                          · rw [if_neg hc405] at hE
                                                                            refine y_iconst (v := (0 : Int32)) dL_law_1325 (by decide) ?_
                                                                            obtain ⟨rfl, rfl, rfl⟩ := x_inj3 hE
                                                                            obtain ⟨rfl, rfl⟩ := KR _ rfl
                                                                            dsimp only
                                                                            exact y_ret dL_law_1326 (by omega) (by omega) ⟨_, rfl, rfl⟩
                                                                        · rw [if_neg hc406] at hE
                                                                          by_cases hc415 : (x14 &&& (63 : Int32)) = (34 : Int32)
                                                                          · rw [if_pos hc415] at hE
                                                                            have hk := hc415
                                                                            refine y_tabIn (tgt := 1327) dL_law_33 (by rw [hk]; decide) (by rw [hk]; decide) (by rw [hk]; rfl) (by decide) ?_
                                                                            refine y_aload_n dL_law_1327 1 rfl ?_
                                                                            obtain ⟨u407, eu407, hE⟩ := Option.bind_eq_some_iff.mp hE
                                                                            obtain ⟨q408, eq408, hE⟩ := Option.bind_eq_some_iff.mp hE
                                                                            refine y_cVi0 (st := []) (as := []) (c_X6_spare eq408) lk_L_159 in_X6_spare se_X6_spare rfl eu407 ⟨Nat.le_of_ble_eq_true rfl, Nat.le_of_ble_eq_true rfl⟩ (Nat.le_of_ble_eq_true rfl) dL_law_1328 ⟨by omega, by omega⟩ rfl ?_
                                                                            refine y_aload_n dL_law_1331 2 rfl ?_
                                                                            obtain ⟨u409, eu409, hE⟩ := Option.bind_eq_some_iff.mp hE
                                                                            obtain ⟨q410, eq410, hE⟩ := Option.bind_eq_some_iff.mp hE
                                                                            obtain ⟨c411, s412, hN, ecc411, ess412⟩ := x_add.spec hE
                                                                            clear hE; have hE := hN; clear hN
                                                                            refine y_cVi1 (st := [.int q408.1]) (as := []) (c_X7_spare (eq410.trans (show some q410 = some ((q410.1.1, q410.1.2), q410.2.1, q410.2.2) from rfl))) lk_L_162 in_X7_spare se_X7_spare rfl eu409 ⟨Nat.le_of_ble_eq_true rfl, Nat.le_of_ble_eq_true rfl⟩ (Nat.le_of_ble_eq_true rfl) dL_law_1332 ⟨by omega, by omega⟩ rfl ?_
                                                                            refine y_icmp_eq (tgt := 1560) dL_law_1335 (by decide) (fun hc414 => ?_) (fun hc414 => ?_)
                                                                            · rw [if_pos hc414] at hE
                                                                              obtain ⟨x413, ex413, hE⟩ := Option.bind_eq_some_iff.mp hE
                                                                              refine y_iinc (ls' := [(3, .int x413), (0, .ref v0), (1, .ref v1), (2, .ref v2)]) dL_law_1560 3 rfl (Option.some.inj ex413) (by decide) rfl ?_
                                                                              refine y_goto (tgt := 18) dL_law_1563 (by decide) ?_
                                                                              refine y_pick [1, 2, 3, 0] rfl ?_
                                                                              exact ih _ _ _ _ _ _ _ hE (by omega) (by omega) hm KR K
                                                                            · rw [if_neg hc414] at hE
                                                                              refine y_iconst (v := (0 : Int32)) dL_law_1338 (by decide) ?_
                                                                              obtain ⟨rfl, rfl, rfl⟩ := x_inj3 hE
                                                                              obtain ⟨rfl, rfl⟩ := KR _ rfl
                                                                              dsimp only
                                                                              exact y_ret dL_law_1339 (by omega) (by omega) ⟨_, rfl, rfl⟩
                                                                          · rw [if_neg hc415] at hE
                                                                            by_cases hc424 : (x14 &&& (63 : Int32)) = (35 : Int32)
                                                                            · rw [if_pos hc424] at hE
                                                                              have hk := hc424
                                                                              refine y_tabIn (tgt := 1340) dL_law_33 (by rw [hk]; decide) (by rw [hk]; decide) (by rw [hk]; rfl) (by decide) ?_
                                                                              refine y_aload_n dL_law_1340 1 rfl ?_
                                                                              obtain ⟨u416, eu416, hE⟩ := Option.bind_eq_some_iff.mp hE
                                                                              obtain ⟨q417, eq417, hE⟩ := Option.bind_eq_some_iff.mp hE
                                                                              refine y_cVi0 (st := []) (as := []) (c_X6_endless eq417) lk_L_163 in_X6_endless se_X6_endless rfl eu416 ⟨Nat.le_of_ble_eq_true rfl, Nat.le_of_ble_eq_true rfl⟩ (Nat.le_of_ble_eq_true rfl) dL_law_1341 ⟨by omega, by omega⟩ rfl ?_
                                                                              refine y_aload_n dL_law_1344 2 rfl ?_
                                                                              obtain ⟨u418, eu418, hE⟩ := Option.bind_eq_some_iff.mp hE
                                                                              obtain ⟨q419, eq419, hE⟩ := Option.bind_eq_some_iff.mp hE
                                                                              obtain ⟨c420, s421, hN, ecc420, ess421⟩ := x_add.spec hE
                                                                              clear hE; have hE := hN; clear hN
                                                                              refine y_cVi1 (st := [.int q417.1]) (as := []) (c_X7_endless (eq419.trans (show some q419 = some ((q419.1.1, q419.1.2), q419.2.1, q419.2.2) from rfl))) lk_L_166 in_X7_endless se_X7_endless rfl eu418 ⟨Nat.le_of_ble_eq_true rfl, Nat.le_of_ble_eq_true rfl⟩ (Nat.le_of_ble_eq_true rfl) dL_law_1345 ⟨by omega, by omega⟩ rfl ?_
                                                                              refine y_icmp_eq (tgt := 1560) dL_law_1348 (by decide) (fun hc423 => ?_) (fun hc423 => ?_)
                                                                              · rw [if_pos hc423] at hE
                                                                                obtain ⟨x422, ex422, hE⟩ := Option.bind_eq_some_iff.mp hE
                                                                                refine y_iinc (ls' := [(3, .int x422), (0, .ref v0), (1, .ref v1), (2, .ref v2)]) dL_law_1560 3 rfl (Option.some.inj ex422) (by decide) rfl ?_
                                                                                refine y_goto (tgt := 18) dL_law_1563 (by decide) ?_
                                                                                refine y_pick [1, 2, 3, 0] rfl ?_
                                                                                exact ih _ _ _ _ _ _ _ hE (by omega) (by omega) hm KR K
                                                                              · rw [if_neg hc423] at hE
                                                                                refine y_iconst (v := (0 : Int32)) dL_law_1351 (by decide) ?_
                                                                                obtain ⟨rfl, rfl, rfl⟩ := x_inj3 hE
                                                                                obtain ⟨rfl, rfl⟩ := KR _ rfl
                                                                                dsimp only
                                                                                exact y_ret dL_law_1352 (by omega) (by omega) ⟨_, rfl, rfl⟩
                                                                            · rw [if_neg hc424] at hE
                                                                              by_cases hc435 : (x14 &&& (63 : Int32)) = (36 : Int32)
                                                                              · rw [if_pos hc435] at hE
                                                                                have hk := hc435
                                                                                refine y_tabIn (tgt := 1353) dL_law_33 (by rw [hk]; decide) (by rw [hk]; decide) (by rw [hk]; rfl) (by decide) ?_
                                                                                refine y_aload_n dL_law_1353 1 rfl ?_
                                                                                refine y_aload_n dL_law_1354 0 rfl ?_
                                                                                refine y_iload_n dL_law_1355 3 rfl ?_
                                                                                refine y_iconst (v := (1 : Int32)) dL_law_1356 (by decide) ?_
                                                                                refine y_iadd dL_law_1357 ?_
                                                                                obtain ⟨x425, ex425, hE⟩ := Option.bind_eq_some_iff.mp hE
                                                                                refine y_iald ex425 dL_law_1358 ?_
                                                                                obtain ⟨u426, eu426, hE⟩ := Option.bind_eq_some_iff.mp hE
                                                                                obtain ⟨q427, eq427, hE⟩ := Option.bind_eq_some_iff.mp hE
                                                                                refine y_cVi0 (st := []) (as := [.int x425]) (c_X6_boxes eq427) lk_L_167 in_X6_boxes se_X6_boxes rfl eu426 ⟨Nat.le_of_ble_eq_true rfl, Nat.le_of_ble_eq_true rfl⟩ (Nat.le_of_ble_eq_true rfl) dL_law_1359 ⟨by omega, by omega⟩ rfl ?_
                                                                                refine y_aload_n dL_law_1362 2 rfl ?_
                                                                                refine y_aload_n dL_law_1363 0 rfl ?_
                                                                                refine y_iload_n dL_law_1364 3 rfl ?_
                                                                                refine y_iconst (v := (1 : Int32)) dL_law_1365 (by decide) ?_
                                                                                refine y_iadd dL_law_1366 ?_
                                                                                obtain ⟨x428, ex428, hE⟩ := Option.bind_eq_some_iff.mp hE
                                                                                refine y_iald ex428 dL_law_1367 ?_
                                                                                obtain ⟨u429, eu429, hE⟩ := Option.bind_eq_some_iff.mp hE
                                                                                obtain ⟨q430, eq430, hE⟩ := Option.bind_eq_some_iff.mp hE
                                                                                obtain ⟨c431, s432, hN, ecc431, ess432⟩ := x_add.spec hE
                                                                                clear hE; have hE := hN; clear hN
                                                                                refine y_cVi1 (st := [.int q427.1]) (as := [.int x428]) (c_X7_boxes (eq430.trans (show some q430 = some ((q430.1.1, q430.1.2), q430.2.1, q430.2.2) from rfl))) lk_L_170 in_X7_boxes se_X7_boxes rfl eu429 ⟨Nat.le_of_ble_eq_true rfl, Nat.le_of_ble_eq_true rfl⟩ (Nat.le_of_ble_eq_true rfl) dL_law_1368 ⟨by omega, by omega⟩ rfl ?_
                                                                                refine y_icmp_eq (tgt := 1560) dL_law_1371 (by decide) (fun hc434 => ?_) (fun hc434 => ?_)
                                                                                · rw [if_pos hc434] at hE
                                                                                  obtain ⟨x433, ex433, hE⟩ := Option.bind_eq_some_iff.mp hE
                                                                                  refine y_iinc (ls' := [(3, .int x433), (0, .ref v0), (1, .ref v1), (2, .ref v2)]) dL_law_1560 3 rfl (Option.some.inj ex433) (by decide) rfl ?_
                                                                                  refine y_goto (tgt := 18) dL_law_1563 (by decide) ?_
                                                                                  refine y_pick [1, 2, 3, 0] rfl ?_
                                                                                  exact ih _ _ _ _ _ _ _ hE (by omega) (by omega) hm KR K
                                                                                · rw [if_neg hc434] at hE
                                                                                  refine y_iconst (v := (0 : Int32)) dL_law_1374 (by decide) ?_
                                                                                  obtain ⟨rfl, rfl, rfl⟩ := x_inj3 hE
                                                                                  obtain ⟨rfl, rfl⟩ := KR _ rfl
                                                                                  dsimp only
                                                                                  exact y_ret dL_law_1375 (by omega) (by omega) ⟨_, rfl, rfl⟩
                                                                              · rw [if_neg hc435] at hE
                                                                                by_cases hc448 : (x14 &&& (63 : Int32)) = (37 : Int32)
                                                                                · rw [if_pos hc448] at hE
                                                                                  have hk := hc448
                                                                                  refine y_tabIn (tgt := 1376) dL_law_33 (by rw [hk]; decide) (by rw [hk]; decide) (by rw [hk]; rfl) (by decide) ?_
                                                                                  refine y_aload_n dL_law_1376 1 rfl ?_
                                                                                  refine y_aload_n dL_law_1377 0 rfl ?_
                                                                                  refine y_iload_n dL_law_1378 3 rfl ?_
                                                                                  refine y_iconst (v := (1 : Int32)) dL_law_1379 (by decide) ?_
                                                                                  refine y_iadd dL_law_1380 ?_
                                                                                  obtain ⟨x436, ex436, hE⟩ := Option.bind_eq_some_iff.mp hE
                                                                                  refine y_iald ex436 dL_law_1381 ?_
                                                                                  refine y_aload_n dL_law_1382 0 rfl ?_
                                                                                  refine y_iload_n dL_law_1383 3 rfl ?_
                                                                                  refine y_iconst (v := (2 : Int32)) dL_law_1384 (by decide) ?_
                                                                                  refine y_iadd dL_law_1385 ?_
                                                                                  obtain ⟨x437, ex437, hE⟩ := Option.bind_eq_some_iff.mp hE
                                                                                  refine y_iald ex437 dL_law_1386 ?_
                                                                                  obtain ⟨u438, eu438, hE⟩ := Option.bind_eq_some_iff.mp hE
                                                                                  obtain ⟨q439, eq439, hE⟩ := Option.bind_eq_some_iff.mp hE
                                                                                  refine y_cVi0 (st := []) (as := [.int x436, .int x437]) (c_X6_judge eq439) lk_L_171 in_X6_judge se_X6_judge rfl eu438 ⟨Nat.le_of_ble_eq_true rfl, Nat.le_of_ble_eq_true rfl⟩ (Nat.le_of_ble_eq_true rfl) dL_law_1387 ⟨by omega, by omega⟩ rfl ?_
                                                                                  refine y_aload_n dL_law_1390 2 rfl ?_
                                                                                  refine y_aload_n dL_law_1391 0 rfl ?_
                                                                                  refine y_iload_n dL_law_1392 3 rfl ?_
                                                                                  refine y_iconst (v := (1 : Int32)) dL_law_1393 (by decide) ?_
                                                                                  refine y_iadd dL_law_1394 ?_
                                                                                  obtain ⟨x440, ex440, hE⟩ := Option.bind_eq_some_iff.mp hE
                                                                                  refine y_iald ex440 dL_law_1395 ?_
                                                                                  refine y_aload_n dL_law_1396 0 rfl ?_
                                                                                  refine y_iload_n dL_law_1397 3 rfl ?_
                                                                                  refine y_iconst (v := (2 : Int32)) dL_law_1398 (by decide) ?_
                                                                                  refine y_iadd dL_law_1399 ?_
                                                                                  obtain ⟨x441, ex441, hE⟩ := Option.bind_eq_some_iff.mp hE
                                                                                  refine y_iald ex441 dL_law_1400 ?_
                                                                                  obtain ⟨u442, eu442, hE⟩ := Option.bind_eq_some_iff.mp hE
                                                                                  obtain ⟨q443, eq443, hE⟩ := Option.bind_eq_some_iff.mp hE
                                                                                  obtain ⟨c444, s445, hN, ecc444, ess445⟩ := x_add.spec hE
                                                                                  clear hE; have hE := hN; clear hN
                                                                                  refine y_cVi1 (st := [.int q439.1]) (as := [.int x440, .int x441]) (c_X7_judge (eq443.trans (show some q443 = some ((q443.1.1, q443.1.2), q443.2.1, q443.2.2) from rfl))) lk_L_174 in_X7_judge se_X7_judge rfl eu442 ⟨Nat.le_of_ble_eq_true rfl, Nat.le_of_ble_eq_true rfl⟩ (Nat.le_of_ble_eq_true rfl) dL_law_1401 ⟨by omega, by omega⟩ rfl ?_
                                                                                  refine y_icmp_eq (tgt := 1560) dL_law_1404 (by decide) (fun hc447 => ?_) (fun hc447 => ?_)
                                                                                  · rw [if_pos hc447] at hE
                                                                                    obtain ⟨x446, ex446, hE⟩ := Option.bind_eq_some_iff.mp hE
                                                                                    refine y_iinc (ls' := [(3, .int x446), (0, .ref v0), (1, .ref v1), (2, .ref v2)]) dL_law_1560 3 rfl (Option.some.inj ex446) (by decide) rfl ?_
                                                                                    refine y_goto (tgt := 18) dL_law_1563 (by decide) ?_
                                                                                    refine y_pick [1, 2, 3, 0] rfl ?_
                                                                                    exact ih _ _ _ _ _ _ _ hE (by omega) (by omega) hm KR K
                                                                                  · rw [if_neg hc447] at hE
                                                                                    refine y_iconst (v := (0 : Int32)) dL_law_1407 (by decide) ?_
                                                                                    obtain ⟨rfl, rfl, rfl⟩ := x_inj3 hE
                                                                                    obtain ⟨rfl, rfl⟩ := KR _ rfl
                                                                                    dsimp only
                                                                                    exact y_ret dL_law_1408 (by omega) (by omega) ⟨_, rfl, rfl⟩
                                                                                · rw [if_neg hc448] at hE
                                                                                  by_cases hc463 : (x14 &&& (63 : Int32)) = (38 : Int32)
                                                                                  · rw [if_pos hc463] at hE
                                                                                    have hk := hc463
                                                                                    refine y_tabIn (tgt := 1409) dL_law_33 (by rw [hk]; decide) (by rw [hk]; decide) (by rw [hk]; rfl) (by decide) ?_
                                                                                    refine y_aload_n dL_law_1409 1 rfl ?_
                                                                                    refine y_aload_n dL_law_1410 0 rfl ?_
                                                                                    refine y_iload_n dL_law_1411 3 rfl ?_
                                                                                    refine y_iconst (v := (1 : Int32)) dL_law_1412 (by decide) ?_
                                                                                    refine y_iadd dL_law_1413 ?_
                                                                                    obtain ⟨x449, ex449, hE⟩ := Option.bind_eq_some_iff.mp hE
                                                                                    refine y_iald ex449 dL_law_1414 ?_
                                                                                    refine y_aload_n dL_law_1415 0 rfl ?_
                                                                                    refine y_iload_n dL_law_1416 3 rfl ?_
                                                                                    refine y_iconst (v := (2 : Int32)) dL_law_1417 (by decide) ?_
                                                                                    refine y_iadd dL_law_1418 ?_
                                                                                    obtain ⟨x450, ex450, hE⟩ := Option.bind_eq_some_iff.mp hE
                                                                                    refine y_iald ex450 dL_law_1419 ?_
                                                                                    refine y_aload_n dL_law_1420 0 rfl ?_
                                                                                    refine y_iload_n dL_law_1421 3 rfl ?_
                                                                                    refine y_iconst (v := (3 : Int32)) dL_law_1422 (by decide) ?_
                                                                                    refine y_iadd dL_law_1423 ?_
                                                                                    obtain ⟨x451, ex451, hE⟩ := Option.bind_eq_some_iff.mp hE
                                                                                    refine y_iald ex451 dL_law_1424 ?_
                                                                                    obtain ⟨u452, eu452, hE⟩ := Option.bind_eq_some_iff.mp hE
                                                                                    obtain ⟨q453, eq453, hE⟩ := Option.bind_eq_some_iff.mp hE
                                                                                    refine y_cVi0 (st := []) (as := [.int x449, .int x450, .int x451]) (c_X6_told eq453) lk_L_175 in_X6_told se_X6_told rfl eu452 ⟨Nat.le_of_ble_eq_true rfl, Nat.le_of_ble_eq_true rfl⟩ (Nat.le_of_ble_eq_true rfl) dL_law_1425 ⟨by omega, by omega⟩ rfl ?_
                                                                                    refine y_aload_n dL_law_1428 2 rfl ?_
                                                                                    refine y_aload_n dL_law_1429 0 rfl ?_
                                                                                    refine y_iload_n dL_law_1430 3 rfl ?_
                                                                                    refine y_iconst (v := (1 : Int32)) dL_law_1431 (by decide) ?_
                                                                                    refine y_iadd dL_law_1432 ?_
                                                                                    obtain ⟨x454, ex454, hE⟩ := Option.bind_eq_some_iff.mp hE
                                                                                    refine y_iald ex454 dL_law_1433 ?_
                                                                                    refine y_aload_n dL_law_1434 0 rfl ?_
                                                                                    refine y_iload_n dL_law_1435 3 rfl ?_
                                                                                    refine y_iconst (v := (2 : Int32)) dL_law_1436 (by decide) ?_
                                                                                    refine y_iadd dL_law_1437 ?_
                                                                                    obtain ⟨x455, ex455, hE⟩ := Option.bind_eq_some_iff.mp hE
                                                                                    refine y_iald ex455 dL_law_1438 ?_
                                                                                    refine y_aload_n dL_law_1439 0 rfl ?_
                                                                                    refine y_iload_n dL_law_1440 3 rfl ?_
                                                                                    refine y_iconst (v := (3 : Int32)) dL_law_1441 (by decide) ?_
                                                                                    refine y_iadd dL_law_1442 ?_
                                                                                    obtain ⟨x456, ex456, hE⟩ := Option.bind_eq_some_iff.mp hE
                                                                                    refine y_iald ex456 dL_law_1443 ?_
                                                                                    obtain ⟨u457, eu457, hE⟩ := Option.bind_eq_some_iff.mp hE
                                                                                    obtain ⟨q458, eq458, hE⟩ := Option.bind_eq_some_iff.mp hE
                                                                                    obtain ⟨c459, s460, hN, ecc459, ess460⟩ := x_add.spec hE
                                                                                    clear hE; have hE := hN; clear hN
                                                                                    refine y_cVi1 (st := [.int q453.1]) (as := [.int x454, .int x455, .int x456]) (c_X7_told (eq458.trans (show some q458 = some ((q458.1.1, q458.1.2), q458.2.1, q458.2.2) from rfl))) lk_L_178 in_X7_told se_X7_told rfl eu457 ⟨Nat.le_of_ble_eq_true rfl, Nat.le_of_ble_eq_true rfl⟩ (Nat.le_of_ble_eq_true rfl) dL_law_1444 ⟨by omega, by omega⟩ rfl ?_
                                                                                    refine y_icmp_eq (tgt := 1560) dL_law_1447 (by decide) (fun hc462 => ?_) (fun hc462 => ?_)
                                                                                    · rw [if_pos hc462] at hE
                                                                                      obtain ⟨x461, ex461, hE⟩ := Option.bind_eq_some_iff.mp hE
                                                                                      refine y_iinc (ls' := [(3, .int x461), (0, .ref v0), (1, .ref v1), (2, .ref v2)]) dL_law_1560 3 rfl (Option.some.inj ex461) (by decide) rfl ?_
                                                                                      refine y_goto (tgt := 18) dL_law_1563 (by decide) ?_
                                                                                      refine y_pick [1, 2, 3, 0] rfl ?_
                                                                                      exact ih _ _ _ _ _ _ _ hE (by omega) (by omega) hm KR K
                                                                                    · rw [if_neg hc462] at hE
                                                                                      refine y_iconst (v := (0 : Int32)) dL_law_1450 (by decide) ?_
                                                                                      obtain ⟨rfl, rfl, rfl⟩ := x_inj3 hE
                                                                                      obtain ⟨rfl, rfl⟩ := KR _ rfl
                                                                                      dsimp only
                                                                                      exact y_ret dL_law_1451 (by omega) (by omega) ⟨_, rfl, rfl⟩
                                                                                  · rw [if_neg hc463] at hE
                                                                                    by_cases hc472 : (x14 &&& (63 : Int32)) = (39 : Int32)
                                                                                    · rw [if_pos hc472] at hE
                                                                                      have hk := hc472
                                                                                      refine y_tabIn (tgt := 1452) dL_law_33 (by rw [hk]; decide) (by rw [hk]; decide) (by rw [hk]; rfl) (by decide) ?_
                                                                                      refine y_aload_n dL_law_1452 1 rfl ?_
                                                                                      refine y_aload_n dL_law_1453 0 rfl ?_
                                                                                      refine y_iload_n dL_law_1454 3 rfl ?_
                                                                                      refine y_iconst (v := (1 : Int32)) dL_law_1455 (by decide) ?_
                                                                                      refine y_iadd dL_law_1456 ?_
                                                                                      obtain ⟨x464, ex464, hE⟩ := Option.bind_eq_some_iff.mp hE
                                                                                      refine y_iald ex464 dL_law_1457 ?_
                                                                                      obtain ⟨u465, eu465, hE⟩ := Option.bind_eq_some_iff.mp hE
                                                                                      obtain ⟨q466, eq466, hE⟩ := Option.bind_eq_some_iff.mp hE
                                                                                      refine y_cVi0 (st := []) (as := [.int x464]) (c_X6_evening eq466) lk_L_179 in_X6_evening se_X6_evening rfl eu465 ⟨Nat.le_of_ble_eq_true rfl, Nat.le_of_ble_eq_true rfl⟩ (Nat.le_of_ble_eq_true rfl) dL_law_1458 ⟨by omega, by omega⟩ rfl ?_
                                                                                      refine y_aload_n dL_law_1461 2 rfl ?_
                                                                                      refine y_aload_n dL_law_1462 0 rfl ?_
                                                                                      refine y_iload_n dL_law_1463 3 rfl ?_
                                                                                      refine y_iconst (v := (1 : Int32)) dL_law_1464 (by decide) ?_
                                                                                      refine y_iadd dL_law_1465 ?_
                                                                                      obtain ⟨x467, ex467, hE⟩ := Option.bind_eq_some_iff.mp hE
                                                                                      refine y_iald ex467 dL_law_1466 ?_
                                                                                      obtain ⟨u468, eu468, hE⟩ := Option.bind_eq_some_iff.mp hE
                                                                                      obtain ⟨q469, eq469, hE⟩ := Option.bind_eq_some_iff.mp hE
                                                                                      refine y_cVi0 (st := [.int q466.1]) (as := [.int x467]) (c_X7_evening eq469) lk_L_182 in_X7_evening se_X7_evening rfl eu468 ⟨Nat.le_of_ble_eq_true rfl, Nat.le_of_ble_eq_true rfl⟩ (Nat.le_of_ble_eq_true rfl) dL_law_1467 ⟨by omega, by omega⟩ rfl ?_
                                                                                      refine y_icmp_eq (tgt := 1560) dL_law_1470 (by decide) (fun hc471 => ?_) (fun hc471 => ?_)
                                                                                      · rw [if_pos hc471] at hE
                                                                                        obtain ⟨x470, ex470, hE⟩ := Option.bind_eq_some_iff.mp hE
                                                                                        refine y_iinc (ls' := [(3, .int x470), (0, .ref v0), (1, .ref v1), (2, .ref v2)]) dL_law_1560 3 rfl (Option.some.inj ex470) (by decide) rfl ?_
                                                                                        refine y_goto (tgt := 18) dL_law_1563 (by decide) ?_
                                                                                        refine y_pick [1, 2, 3, 0] rfl ?_
                                                                                        exact ih _ _ _ _ _ _ _ hE (by omega) (by omega) hm KR K
                                                                                      · rw [if_neg hc471] at hE
                                                                                        refine y_iconst (v := (0 : Int32)) dL_law_1473 (by decide) ?_
                                                                                        obtain ⟨rfl, rfl, rfl⟩ := x_inj3 hE
                                                                                        obtain ⟨rfl, rfl⟩ := KR _ rfl
                                                                                        dsimp only
                                                                                        exact y_ret dL_law_1474 (by omega) (by omega) ⟨_, rfl, rfl⟩
                                                                                    · rw [if_neg hc472] at hE
                                                                                      by_cases hc479 : (x14 &&& (63 : Int32)) = (40 : Int32)
                                                                                      · rw [if_pos hc479] at hE
                                                                                        have hk := hc479
                                                                                        refine y_tabIn (tgt := 1475) dL_law_33 (by rw [hk]; decide) (by rw [hk]; decide) (by rw [hk]; rfl) (by decide) ?_
                                                                                        refine y_aload_n dL_law_1475 1 rfl ?_
                                                                                        obtain ⟨u473, eu473, hE⟩ := Option.bind_eq_some_iff.mp hE
                                                                                        obtain ⟨q474, eq474, hE⟩ := Option.bind_eq_some_iff.mp hE
                                                                                        refine y_cVi0 (st := []) (as := []) (c_X6_night eq474) lk_L_183 in_X6_night se_X6_night rfl eu473 ⟨Nat.le_of_ble_eq_true rfl, Nat.le_of_ble_eq_true rfl⟩ (Nat.le_of_ble_eq_true rfl) dL_law_1476 ⟨by omega, by omega⟩ rfl ?_
                                                                                        refine y_aload_n dL_law_1479 2 rfl ?_
                                                                                        obtain ⟨u475, eu475, hE⟩ := Option.bind_eq_some_iff.mp hE
                                                                                        obtain ⟨q476, eq476, hE⟩ := Option.bind_eq_some_iff.mp hE
                                                                                        refine y_cVi0 (st := [.int q474.1]) (as := []) (c_X7_night eq476) lk_L_186 in_X7_night se_X7_night rfl eu475 ⟨Nat.le_of_ble_eq_true rfl, Nat.le_of_ble_eq_true rfl⟩ (Nat.le_of_ble_eq_true rfl) dL_law_1480 ⟨by omega, by omega⟩ rfl ?_
                                                                                        refine y_icmp_eq (tgt := 1560) dL_law_1483 (by decide) (fun hc478 => ?_) (fun hc478 => ?_)
                                                                                        · rw [if_pos hc478] at hE
                                                                                          obtain ⟨x477, ex477, hE⟩ := Option.bind_eq_some_iff.mp hE
                                                                                          refine y_iinc (ls' := [(3, .int x477), (0, .ref v0), (1, .ref v1), (2, .ref v2)]) dL_law_1560 3 rfl (Option.some.inj ex477) (by decide) rfl ?_
                                                                                          refine y_goto (tgt := 18) dL_law_1563 (by decide) ?_
                                                                                          refine y_pick [1, 2, 3, 0] rfl ?_
                                                                                          exact ih _ _ _ _ _ _ _ hE (by omega) (by omega) hm KR K
                                                                                        · rw [if_neg hc478] at hE
                                                                                          refine y_iconst (v := (0 : Int32)) dL_law_1486 (by decide) ?_
                                                                                          obtain ⟨rfl, rfl, rfl⟩ := x_inj3 hE
                                                                                          obtain ⟨rfl, rfl⟩ := KR _ rfl
                                                                                          dsimp only
                                                                                          exact y_ret dL_law_1487 (by omega) (by omega) ⟨_, rfl, rfl⟩
                                                                                      · rw [if_neg hc479] at hE
                                                                                        by_cases hc488 : (x14 &&& (63 : Int32)) = (41 : Int32)
                                                                                        · rw [if_pos hc488] at hE
                                                                                          have hk := hc488
                                                                                          refine y_tabIn (tgt := 1488) dL_law_33 (by rw [hk]; decide) (by rw [hk]; decide) (by rw [hk]; rfl) (by decide) ?_
                                                                                          refine y_aload_n dL_law_1488 1 rfl ?_
                                                                                          refine y_aload_n dL_law_1489 0 rfl ?_
                                                                                          refine y_iload_n dL_law_1490 3 rfl ?_
                                                                                          refine y_iconst (v := (1 : Int32)) dL_law_1491 (by decide) ?_
                                                                                          refine y_iadd dL_law_1492 ?_
                                                                                          obtain ⟨x480, ex480, hE⟩ := Option.bind_eq_some_iff.mp hE
                                                                                          refine y_iald ex480 dL_law_1493 ?_
                                                                                          obtain ⟨u481, eu481, hE⟩ := Option.bind_eq_some_iff.mp hE
                                                                                          obtain ⟨q482, eq482, hE⟩ := Option.bind_eq_some_iff.mp hE
                                                                                          refine y_cVi0 (st := []) (as := [.int x480]) (c_X6_seed eq482) lk_L_187 in_X6_seed se_X6_seed rfl eu481 ⟨Nat.le_of_ble_eq_true rfl, Nat.le_of_ble_eq_true rfl⟩ (Nat.le_of_ble_eq_true rfl) dL_law_1494 ⟨by omega, by omega⟩ rfl ?_
                                                                                          refine y_aload_n dL_law_1497 2 rfl ?_
                                                                                          refine y_aload_n dL_law_1498 0 rfl ?_
                                                                                          refine y_iload_n dL_law_1499 3 rfl ?_
                                                                                          refine y_iconst (v := (1 : Int32)) dL_law_1500 (by decide) ?_
                                                                                          refine y_iadd dL_law_1501 ?_
                                                                                          obtain ⟨x483, ex483, hE⟩ := Option.bind_eq_some_iff.mp hE
                                                                                          refine y_iald ex483 dL_law_1502 ?_
                                                                                          obtain ⟨u484, eu484, hE⟩ := Option.bind_eq_some_iff.mp hE
                                                                                          obtain ⟨q485, eq485, hE⟩ := Option.bind_eq_some_iff.mp hE
                                                                                          refine y_cVi0 (st := [.int q482.1]) (as := [.int x483]) (c_X7_seed eq485) lk_L_190 in_X7_seed se_X7_seed rfl eu484 ⟨Nat.le_of_ble_eq_true rfl, Nat.le_of_ble_eq_true rfl⟩ (Nat.le_of_ble_eq_true rfl) dL_law_1503 ⟨by omega, by omega⟩ rfl ?_
                                                                                          refine y_icmp_eq (tgt := 1560) dL_law_1506 (by decide) (fun hc487 => ?_) (fun hc487 => ?_)
                                                                                          · rw [if_pos hc487] at hE
                                                                                            obtain ⟨x486, ex486, hE⟩ := Option.bind_eq_some_iff.mp hE
                                                                                            refine y_iinc (ls' := [(3, .int x486), (0, .ref v0), (1, .ref v1), (2, .ref v2)]) dL_law_1560 3 rfl (Option.some.inj ex486) (by decide) rfl ?_
                                                                                            refine y_goto (tgt := 18) dL_law_1563 (by decide) ?_
                                                                                            refine y_pick [1, 2, 3, 0] rfl ?_
                                                                                            exact ih _ _ _ _ _ _ _ hE (by omega) (by omega) hm KR K
                                                                                          · rw [if_neg hc487] at hE
                                                                                            refine y_iconst (v := (0 : Int32)) dL_law_1509 (by decide) ?_
                                                                                            obtain ⟨rfl, rfl, rfl⟩ := x_inj3 hE
                                                                                            obtain ⟨rfl, rfl⟩ := KR _ rfl
                                                                                            dsimp only
                                                                                            exact y_ret dL_law_1510 (by omega) (by omega) ⟨_, rfl, rfl⟩
                                                                                        · rw [if_neg hc488] at hE
                                                                                          by_cases hc497 : (x14 &&& (63 : Int32)) = (42 : Int32)
                                                                                          · rw [if_pos hc497] at hE
                                                                                            have hk := hc497
                                                                                            refine y_tabIn (tgt := 1511) dL_law_33 (by rw [hk]; decide) (by rw [hk]; decide) (by rw [hk]; rfl) (by decide) ?_
                                                                                            refine y_aload_n dL_law_1511 1 rfl ?_
                                                                                            obtain ⟨u489, eu489, hE⟩ := Option.bind_eq_some_iff.mp hE
                                                                                            obtain ⟨q490, eq490, hE⟩ := Option.bind_eq_some_iff.mp hE
                                                                                            refine y_cVi0 (st := []) (as := []) (c_X6_image eq490) lk_L_191 in_X6_image se_X6_image rfl eu489 ⟨Nat.le_of_ble_eq_true rfl, Nat.le_of_ble_eq_true rfl⟩ (Nat.le_of_ble_eq_true rfl) dL_law_1512 ⟨by omega, by omega⟩ rfl ?_
                                                                                            refine y_aload_n dL_law_1515 2 rfl ?_
                                                                                            obtain ⟨u491, eu491, hE⟩ := Option.bind_eq_some_iff.mp hE
                                                                                            obtain ⟨q492, eq492, hE⟩ := Option.bind_eq_some_iff.mp hE
                                                                                            obtain ⟨c493, s494, hN, ecc493, ess494⟩ := x_add.spec hE
                                                                                            clear hE; have hE := hN; clear hN
                                                                                            refine y_cVi1 (st := [.int q490.1]) (as := []) (c_X7_image (eq492.trans (show some q492 = some ((q492.1.1, q492.1.2), q492.2.1, q492.2.2) from rfl))) lk_L_194 in_X7_image se_X7_image rfl eu491 ⟨Nat.le_of_ble_eq_true rfl, Nat.le_of_ble_eq_true rfl⟩ (Nat.le_of_ble_eq_true rfl) dL_law_1516 ⟨by omega, by omega⟩ rfl ?_
                                                                                            refine y_icmp_eq (tgt := 1560) dL_law_1519 (by decide) (fun hc496 => ?_) (fun hc496 => ?_)
                                                                                            · rw [if_pos hc496] at hE
                                                                                              obtain ⟨x495, ex495, hE⟩ := Option.bind_eq_some_iff.mp hE
                                                                                              refine y_iinc (ls' := [(3, .int x495), (0, .ref v0), (1, .ref v1), (2, .ref v2)]) dL_law_1560 3 rfl (Option.some.inj ex495) (by decide) rfl ?_
                                                                                              refine y_goto (tgt := 18) dL_law_1563 (by decide) ?_
                                                                                              refine y_pick [1, 2, 3, 0] rfl ?_
                                                                                              exact ih _ _ _ _ _ _ _ hE (by omega) (by omega) hm KR K
                                                                                            · rw [if_neg hc496] at hE
                                                                                              refine y_iconst (v := (0 : Int32)) dL_law_1522 (by decide) ?_
                                                                                              obtain ⟨rfl, rfl, rfl⟩ := x_inj3 hE
                                                                                              obtain ⟨rfl, rfl⟩ := KR _ rfl
                                                                                              dsimp only
                                                                                              exact y_ret dL_law_1523 (by omega) (by omega) ⟨_, rfl, rfl⟩
                                                                                          · rw [if_neg hc497] at hE
                                                                                            by_cases hc504 : (x14 &&& (63 : Int32)) = (43 : Int32)
                                                                                            · rw [if_pos hc504] at hE
                                                                                              have hk := hc504
                                                                                              refine y_tabIn (tgt := 1524) dL_law_33 (by rw [hk]; decide) (by rw [hk]; decide) (by rw [hk]; rfl) (by decide) ?_
                                                                                              refine y_aload_n dL_law_1524 1 rfl ?_
                                                                                              obtain ⟨u498, eu498, hE⟩ := Option.bind_eq_some_iff.mp hE
                                                                                              obtain ⟨q499, eq499, hE⟩ := Option.bind_eq_some_iff.mp hE
                                                                                              refine y_cVi0 (st := []) (as := []) (c_X6_back eq499) lk_L_195 in_X6_back se_X6_back rfl eu498 ⟨Nat.le_of_ble_eq_true rfl, Nat.le_of_ble_eq_true rfl⟩ (Nat.le_of_ble_eq_true rfl) dL_law_1525 ⟨by omega, by omega⟩ rfl ?_
                                                                                              refine y_aload_n dL_law_1528 2 rfl ?_
                                                                                              obtain ⟨u500, eu500, hE⟩ := Option.bind_eq_some_iff.mp hE
                                                                                              obtain ⟨q501, eq501, hE⟩ := Option.bind_eq_some_iff.mp hE
                                                                                              refine y_cVi0 (st := [.int q499.1]) (as := []) (c_X7_back eq501) lk_L_198 in_X7_back se_X7_back rfl eu500 ⟨Nat.le_of_ble_eq_true rfl, Nat.le_of_ble_eq_true rfl⟩ (Nat.le_of_ble_eq_true rfl) dL_law_1529 ⟨by omega, by omega⟩ rfl ?_
                                                                                              refine y_icmp_eq (tgt := 1560) dL_law_1532 (by decide) (fun hc503 => ?_) (fun hc503 => ?_)
                                                                                              · rw [if_pos hc503] at hE
                                                                                                obtain ⟨x502, ex502, hE⟩ := Option.bind_eq_some_iff.mp hE
                                                                                                refine y_iinc (ls' := [(3, .int x502), (0, .ref v0), (1, .ref v1), (2, .ref v2)]) dL_law_1560 3 rfl (Option.some.inj ex502) (by decide) rfl ?_
                                                                                                refine y_goto (tgt := 18) dL_law_1563 (by decide) ?_
                                                                                                refine y_pick [1, 2, 3, 0] rfl ?_
                                                                                                exact ih _ _ _ _ _ _ _ hE (by omega) (by omega) hm KR K
                                                                                              · rw [if_neg hc503] at hE
                                                                                                refine y_iconst (v := (0 : Int32)) dL_law_1535 (by decide) ?_
                                                                                                obtain ⟨rfl, rfl, rfl⟩ := x_inj3 hE
                                                                                                obtain ⟨rfl, rfl⟩ := KR _ rfl
                                                                                                dsimp only
                                                                                                exact y_ret dL_law_1536 (by omega) (by omega) ⟨_, rfl, rfl⟩
                                                                                            · rw [if_neg hc504] at hE
                                                                                              by_cases hc513 : (x14 &&& (63 : Int32)) = (44 : Int32)
                                                                                              · rw [if_pos hc513] at hE
                                                                                                have hk := hc513
                                                                                                refine y_tabIn (tgt := 1537) dL_law_33 (by rw [hk]; decide) (by rw [hk]; decide) (by rw [hk]; rfl) (by decide) ?_
                                                                                                refine y_aload_n dL_law_1537 1 rfl ?_
                                                                                                refine y_aload_n dL_law_1538 0 rfl ?_
                                                                                                refine y_iload_n dL_law_1539 3 rfl ?_
                                                                                                refine y_iconst (v := (1 : Int32)) dL_law_1540 (by decide) ?_
                                                                                                refine y_iadd dL_law_1541 ?_
                                                                                                obtain ⟨x505, ex505, hE⟩ := Option.bind_eq_some_iff.mp hE
                                                                                                refine y_iald ex505 dL_law_1542 ?_
                                                                                                obtain ⟨u506, eu506, hE⟩ := Option.bind_eq_some_iff.mp hE
                                                                                                obtain ⟨q507, eq507, hE⟩ := Option.bind_eq_some_iff.mp hE
                                                                                                refine y_cVi0 (st := []) (as := [.int x505]) (c_X6_status eq507) lk_L_199 in_X6_status se_X6_status rfl eu506 ⟨Nat.le_of_ble_eq_true rfl, Nat.le_of_ble_eq_true rfl⟩ (Nat.le_of_ble_eq_true rfl) dL_law_1543 ⟨by omega, by omega⟩ rfl ?_
                                                                                                refine y_aload_n dL_law_1546 2 rfl ?_
                                                                                                refine y_aload_n dL_law_1547 0 rfl ?_
                                                                                                refine y_iload_n dL_law_1548 3 rfl ?_
                                                                                                refine y_iconst (v := (1 : Int32)) dL_law_1549 (by decide) ?_
                                                                                                refine y_iadd dL_law_1550 ?_
                                                                                                obtain ⟨x508, ex508, hE⟩ := Option.bind_eq_some_iff.mp hE
                                                                                                refine y_iald ex508 dL_law_1551 ?_
                                                                                                obtain ⟨u509, eu509, hE⟩ := Option.bind_eq_some_iff.mp hE
                                                                                                obtain ⟨q510, eq510, hE⟩ := Option.bind_eq_some_iff.mp hE
                                                                                                refine y_cVi0 (st := [.int q507]) (as := [.int x508]) (c_X7_status eq510) lk_L_202 in_X7_status se_X7_status rfl eu509 ⟨Nat.le_of_ble_eq_true rfl, Nat.le_of_ble_eq_true rfl⟩ (Nat.le_of_ble_eq_true rfl) dL_law_1552 ⟨by omega, by omega⟩ rfl ?_
                                                                                                refine y_icmp_eq (tgt := 1560) dL_law_1555 (by decide) (fun hc512 => ?_) (fun hc512 => ?_)
                                                                                                · rw [if_pos hc512] at hE
                                                                                                  obtain ⟨x511, ex511, hE⟩ := Option.bind_eq_some_iff.mp hE
                                                                                                  refine y_iinc (ls' := [(3, .int x511), (0, .ref v0), (1, .ref v1), (2, .ref v2)]) dL_law_1560 3 rfl (Option.some.inj ex511) (by decide) rfl ?_
                                                                                                  refine y_goto (tgt := 18) dL_law_1563 (by decide) ?_
                                                                                                  refine y_pick [1, 2, 3, 0] rfl ?_
                                                                                                  exact ih _ _ _ _ _ _ _ hE (by omega) (by omega) hm KR K
                                                                                                · rw [if_neg hc512] at hE
                                                                                                  refine y_iconst (v := (0 : Int32)) dL_law_1558 (by decide) ?_
                                                                                                  obtain ⟨rfl, rfl, rfl⟩ := x_inj3 hE
                                                                                                  obtain ⟨rfl, rfl⟩ := KR _ rfl
                                                                                                  dsimp only
                                                                                                  exact y_ret dL_law_1559 (by omega) (by omega) ⟨_, rfl, rfl⟩
                                                                                              · rw [if_neg hc513] at hE
                                                                                                have hO : ((x14 &&& (63 : Int32))).toInt < 0 ∨ 44 < ((x14 &&& (63 : Int32))).toInt := by
                                                                                                  refine x_tabo (by decide) (by decide) (fun j g1 g2 => ?_)
                                                                                                  rcases (show j = 0 ∨ j = 1 ∨ j = 2 ∨ j = 3 ∨ j = 4 ∨ j = 5 ∨ j = 6 ∨ j = 7 ∨ j = 8 ∨ j = 9 ∨ j = 10 ∨ j = 11 ∨ j = 12 ∨ j = 13 ∨ j = 14 ∨ j = 15 ∨ j = 16 ∨ j = 17 ∨ j = 18 ∨ j = 19 ∨ j = 20 ∨ j = 21 ∨ j = 22 ∨ j = 23 ∨ j = 24 ∨ j = 25 ∨ j = 26 ∨ j = 27 ∨ j = 28 ∨ j = 29 ∨ j = 30 ∨ j = 31 ∨ j = 32 ∨ j = 33 ∨ j = 34 ∨ j = 35 ∨ j = 36 ∨ j = 37 ∨ j = 38 ∨ j = 39 ∨ j = 40 ∨ j = 41 ∨ j = 42 ∨ j = 43 ∨ j = 44 by omega) with rfl | rfl | rfl | rfl | rfl | rfl | rfl | rfl | rfl | rfl | rfl | rfl | rfl | rfl | rfl | rfl | rfl | rfl | rfl | rfl | rfl | rfl | rfl | rfl | rfl | rfl | rfl | rfl | rfl | rfl | rfl | rfl | rfl | rfl | rfl | rfl | rfl | rfl | rfl | rfl | rfl | rfl | rfl | rfl | rfl
                                                                                                  · exact hc27
                                                                                                  · exact hc42
                                                                                                  · exact hc59
                                                                                                  · exact hc70
                                                                                                  · exact hc79
                                                                                                  · exact hc90
                                                                                                  · exact hc101
                                                                                                  · exact hc114
                                                                                                  · exact hc123
                                                                                                  · exact hc134
                                                                                                  · exact hc149
                                                                                                  · exact hc160
                                                                                                  · exact hc171
                                                                                                  · exact hc178
                                                                                                  · exact hc187
                                                                                                  · exact hc198
                                                                                                  · exact hc207
                                                                                                  · exact hc218
                                                                                                  · exact hc231
                                                                                                  · exact hc244
                                                                                                  · exact hc257
                                                                                                  · exact hc268
                                                                                                  · exact hc279
                                                                                                  · exact hc292
                                                                                                  · exact hc301
                                                                                                  · exact hc308
                                                                                                  · exact hc323
                                                                                                  · exact hc336
                                                                                                  · exact hc351
                                                                                                  · exact hc368
                                                                                                  · exact hc379
                                                                                                  · exact hc386
                                                                                                  · exact hc395
                                                                                                  · exact hc406
                                                                                                  · exact hc415
                                                                                                  · exact hc424
                                                                                                  · exact hc435
                                                                                                  · exact hc448
                                                                                                  · exact hc463
                                                                                                  · exact hc472
                                                                                                  · exact hc479
                                                                                                  · exact hc488
                                                                                                  · exact hc497
                                                                                                  · exact hc504
                                                                                                  · exact hc513
                                                                                                refine y_tabOut (tgt := 1560) dL_law_33 hO (by decide) ?_
                                                                                                obtain ⟨x514, ex514, hE⟩ := Option.bind_eq_some_iff.mp hE
                                                                                                refine y_iinc (ls' := [(3, .int x514), (0, .ref v0), (1, .ref v1), (2, .ref v2)]) dL_law_1560 3 rfl (Option.some.inj ex514) (by decide) rfl ?_
                                                                                                refine y_goto (tgt := 18) dL_law_1563 (by decide) ?_
                                                                                                refine y_pick [1, 2, 3, 0] rfl ?_
                                                                                                exact ih _ _ _ _ _ _ _ hE (by omega) (by omega) hm KR K
def f_L_law (S : Nat × (Nat → Int32)) (n : Nat) (h : xH) : Option ((Int32 × xH) × Nat × Nat) :=
  x_add 1 9 <|
  (f_X6_init n (h ++ [.inr (6, [.null, .null, .null, .int 0, .null, .null, .null, .null, .null])]) (h.length + 16)).bind fun q3 =>
  x_add q3.2.1 q3.2.2 <|
  (some (h.length + 16)).bind fun x6 =>
  x_add 1 40 <|
  (f_X7_init (q3.1 ++ [.inr (7, [.null, .null, .null, .null, .null, .null, .null, .int 0, .null, .int 0, .null, .int 0, .int 0, .null, .int 0, .int 0, .int 0, .int 0, .null, .null, .int 0, .int 0, .int 0, .int 0, .int 0, .null, .int 0, .null, .null, .null, .int 0, .null, .int 0, .int 0, .null, .null, .int 0, .int 0, .int 0, .int 0])]) (q3.1.length + 16)).bind fun q9 =>
  x_add q9.2.1 q9.2.2 <|
  (some (q3.1.length + 16)).bind fun x12 =>
  (f_L_law_L18 S n 0 x6 x12 n (0 : Int32) q9.1).bind fun q516 =>
  x_add q516.2.1 q516.2.2 <|
  match q516.1 with
  | .inl r519 => some (r519, 0, 0)
  | .inr e520 =>
    some (((1 : Int32), e520), 0, 0)
set_option maxRecDepth 100000 in
set_option maxHeartbeats 4000000 in
theorem c_L_law (S : Nat × (Nat → Int32)) (n : Nat) (h : xH) {r9 : Int32} {hz : xH} {c9 s9 : Nat} {mc ms : Nat} (hE : f_L_law S n h  = some ((r9, hz), c9, s9)) (hm : c9 ≤ mc ∧ s9 ≤ ms) : Y S M_L_law h (some (.int r9)) hz mc ms 0 [(0, .ref 0)] [] h 0 0 := by
  unfold f_L_law at hE
  obtain ⟨c1, s2, hN, ecc1, ess2⟩ := x_add.spec hE
  clear hE; have hE := hN; clear hN
  refine y_new (fs := [.null, .null, .null, .int 0, .null, .null, .null, .null, .null]) cl_X6 (x_wt (tb 16 (by decide +kernel)) rfl) (x_wt (tb 17 (by decide +kernel)) rfl) (x_wt (tb 1 (by decide +kernel)) rfl) (by decide) rfl ⟨by omega, by omega⟩ dL_law_0 ?_
  refine y_dup dL_law_3 rfl ?_
  obtain ⟨q3, eq3, hE⟩ := Option.bind_eq_some_iff.mp hE
  obtain ⟨c4, s5, hN, ecc4, ess5⟩ := x_add.spec hE
  clear hE; have hE := hN; clear hN
  refine y_cIv1 (st := [.ref (h.length + 16)]) (as := []) (c_X6_init (eq3.trans (show some q3 = some (q3.1, q3.2.1, q3.2.2) from rfl))) lk_L_9 in_X6_init rfl rfl (by omega) ⟨Nat.le_of_ble_eq_true rfl, Nat.le_of_ble_eq_true rfl⟩ (Nat.le_of_ble_eq_true rfl) dL_law_4 ⟨by omega, by omega⟩ rfl ?_
  obtain ⟨x6, ex6, hE⟩ := Option.bind_eq_some_iff.mp hE
  refine y_astore_n (ls' := [(1, .ref x6), (0, .ref 0)]) dL_law_7 (by decide) (Option.some.inj ex6) rfl ?_
  obtain ⟨c7, s8, hN, ecc7, ess8⟩ := x_add.spec hE
  clear hE; have hE := hN; clear hN
  refine y_new (fs := [.null, .null, .null, .null, .null, .null, .null, .int 0, .null, .int 0, .null, .int 0, .int 0, .null, .int 0, .int 0, .int 0, .int 0, .null, .null, .int 0, .int 0, .int 0, .int 0, .int 0, .null, .int 0, .null, .null, .null, .int 0, .null, .int 0, .int 0, .null, .null, .int 0, .int 0, .int 0, .int 0]) cl_X7 (x_wt (tb 916 (by decide +kernel)) rfl) (x_wt (tb 917 (by decide +kernel)) rfl) (x_wt (tb 8 (by decide +kernel)) rfl) (by decide) rfl ⟨by omega, by omega⟩ dL_law_8 ?_
  refine y_dup dL_law_11 rfl ?_
  obtain ⟨q9, eq9, hE⟩ := Option.bind_eq_some_iff.mp hE
  obtain ⟨c10, s11, hN, ecc10, ess11⟩ := x_add.spec hE
  clear hE; have hE := hN; clear hN
  refine y_cIv1 (st := [.ref (q3.1.length + 16)]) (as := []) (c_X7_init (eq9.trans (show some q9 = some (q9.1, q9.2.1, q9.2.2) from rfl))) lk_L_12 in_X7_init rfl rfl (by omega) ⟨Nat.le_of_ble_eq_true rfl, Nat.le_of_ble_eq_true rfl⟩ (Nat.le_of_ble_eq_true rfl) dL_law_12 ⟨by omega, by omega⟩ rfl ?_
  obtain ⟨x12, ex12, hE⟩ := Option.bind_eq_some_iff.mp hE
  refine y_astore_n (ls' := [(2, .ref x12), (1, .ref x6), (0, .ref 0)]) dL_law_15 (by decide) (Option.some.inj ex12) rfl ?_
  refine y_iconst (v := (0 : Int32)) dL_law_16 (by decide) ?_
  refine y_istore_n (ls' := [(3, .int (0 : Int32)), (2, .ref x12), (1, .ref x6), (0, .ref 0)]) dL_law_17 (by decide) rfl rfl ?_
  obtain ⟨⟨q516_1, q516_c, q516_s⟩, eq516, hE⟩ := Option.bind_eq_some_iff.mp hE
  dsimp only at hE
  obtain ⟨c517, s518, hN, ecc517, ess518⟩ := x_add.spec hE
  clear hE; have hE := hN; clear hN
  refine y_pick [3, 2, 1, 0] rfl ?_
  cases q516_1 with
  | inl r519 =>
    dsimp only at hE
    cases hE
    exact l_L_law_18 S n 0 x6 x12 n (0 : Int32) q9.1 _ _ _ _ _ eq516 rfl rfl ⟨by omega, by omega⟩ (fun r8 hr8 => by cases hr8; exact ⟨rfl, rfl⟩) (fun r8 hr8 => by cases hr8)
  | inr e520 =>
    dsimp only at hE
    refine l_L_law_18 S n 0 x6 x12 n (0 : Int32) q9.1 _ _ _ _ _ eq516 rfl rfl ⟨by omega, by omega⟩ (fun r8 hr8 => by cases hr8) (fun r8 hr8 => ?_)
    cases hr8
    refine y_iconst (v := (1 : Int32)) dL_law_1566 (by decide) ?_
    obtain ⟨rfl, rfl, rfl, rfl⟩ := x_inj4 hE
    exact y_ret dL_law_1567 (by omega) (by omega) ⟨_, rfl, rfl⟩
