theorem dL_law_0 : decode yL_law.2.1 0 = .ok (.new 7, 3) := by decide +kernel
theorem dL_law_3 : decode yL_law.2.1 3 = .ok (.dup, 1) := by decide +kernel
theorem dL_law_4 : decode yL_law.2.1 4 = .ok (.invokespecial 9, 3) := by decide +kernel
theorem dL_law_7 : decode yL_law.2.1 7 = .ok (.astore_n 1, 1) := by decide +kernel
theorem dL_law_8 : decode yL_law.2.1 8 = .ok (.new 10, 3) := by decide +kernel
theorem dL_law_11 : decode yL_law.2.1 11 = .ok (.dup, 1) := by decide +kernel
theorem dL_law_12 : decode yL_law.2.1 12 = .ok (.invokespecial 12, 3) := by decide +kernel
theorem dL_law_15 : decode yL_law.2.1 15 = .ok (.astore_n 2, 1) := by decide +kernel
theorem dL_law_16 : decode yL_law.2.1 16 = .ok (.iconst 0, 1) := by decide +kernel
theorem dL_law_17 : decode yL_law.2.1 17 = .ok (.istore_n 3, 1) := by decide +kernel
theorem dL_law_18 : decode yL_law.2.1 18 = .ok (.iload_n 3, 1) := by decide +kernel
theorem dL_law_19 : decode yL_law.2.1 19 = .ok (.aload_n 0, 1) := by decide +kernel
theorem dL_law_20 : decode yL_law.2.1 20 = .ok (.arraylength, 1) := by decide +kernel
theorem dL_law_21 : decode yL_law.2.1 21 = .ok (.bipush 6, 2) := by decide +kernel
theorem dL_law_23 : decode yL_law.2.1 23 = .ok (.isub, 1) := by decide +kernel
theorem dL_law_24 : decode yL_law.2.1 24 = .ok (.if_icmp .gt 1812, 3) := by decide +kernel
theorem dL_law_27 : decode yL_law.2.1 27 = .ok (.aload_n 0, 1) := by decide +kernel
theorem dL_law_28 : decode yL_law.2.1 28 = .ok (.iload_n 3, 1) := by decide +kernel
theorem dL_law_29 : decode yL_law.2.1 29 = .ok (.iaload, 1) := by decide +kernel
theorem dL_law_30 : decode yL_law.2.1 30 = .ok (.bipush 63, 2) := by decide +kernel
theorem dL_law_32 : decode yL_law.2.1 32 = .ok (.iand, 1) := by decide +kernel
theorem dL_law_33 : decode yL_law.2.1 33 = .ok (.tableswitch 1797 0 47 #[207, 240, 283, 316, 339, 402, 425, 458, 501, 524, 557, 580, 613, 656, 709, 752, 795, 818, 841, 874, 897, 930, 963, 1032, 1091, 1134, 1167, 1200, 1233, 1286, 1309, 1342, 1375, 1418, 1461, 1494, 1527, 1560, 1603, 1636, 1669, 1682, 1696, 1710, 1724, 1747, 1760, 1783], 207) := by decide +kernel
theorem dL_law_240 : decode yL_law.2.1 240 = .ok (.aload_n 1, 1) := by decide +kernel
theorem dL_law_241 : decode yL_law.2.1 241 = .ok (.aload_n 0, 1) := by decide +kernel
theorem dL_law_242 : decode yL_law.2.1 242 = .ok (.iload_n 3, 1) := by decide +kernel
theorem dL_law_243 : decode yL_law.2.1 243 = .ok (.iconst 1, 1) := by decide +kernel
theorem dL_law_244 : decode yL_law.2.1 244 = .ok (.iadd, 1) := by decide +kernel
theorem dL_law_245 : decode yL_law.2.1 245 = .ok (.iaload, 1) := by decide +kernel
theorem dL_law_246 : decode yL_law.2.1 246 = .ok (.aload_n 0, 1) := by decide +kernel
theorem dL_law_247 : decode yL_law.2.1 247 = .ok (.iload_n 3, 1) := by decide +kernel
theorem dL_law_248 : decode yL_law.2.1 248 = .ok (.iconst 2, 1) := by decide +kernel
theorem dL_law_249 : decode yL_law.2.1 249 = .ok (.iadd, 1) := by decide +kernel
theorem dL_law_250 : decode yL_law.2.1 250 = .ok (.iaload, 1) := by decide +kernel
theorem dL_law_251 : decode yL_law.2.1 251 = .ok (.invokevirtual 13, 3) := by decide +kernel
theorem dL_law_254 : decode yL_law.2.1 254 = .ok (.aload_n 2, 1) := by decide +kernel
theorem dL_law_255 : decode yL_law.2.1 255 = .ok (.aload_n 0, 1) := by decide +kernel
theorem dL_law_256 : decode yL_law.2.1 256 = .ok (.iload_n 3, 1) := by decide +kernel
theorem dL_law_257 : decode yL_law.2.1 257 = .ok (.iconst 1, 1) := by decide +kernel
theorem dL_law_258 : decode yL_law.2.1 258 = .ok (.iadd, 1) := by decide +kernel
theorem dL_law_259 : decode yL_law.2.1 259 = .ok (.iaload, 1) := by decide +kernel
theorem dL_law_260 : decode yL_law.2.1 260 = .ok (.aload_n 0, 1) := by decide +kernel
theorem dL_law_261 : decode yL_law.2.1 261 = .ok (.iload_n 3, 1) := by decide +kernel
theorem dL_law_262 : decode yL_law.2.1 262 = .ok (.iconst 2, 1) := by decide +kernel
theorem dL_law_263 : decode yL_law.2.1 263 = .ok (.iadd, 1) := by decide +kernel
theorem dL_law_264 : decode yL_law.2.1 264 = .ok (.iaload, 1) := by decide +kernel
theorem dL_law_265 : decode yL_law.2.1 265 = .ok (.invokevirtual 17, 3) := by decide +kernel
theorem dL_law_268 : decode yL_law.2.1 268 = .ok (.if_icmp .eq 1562, 3) := by decide +kernel
theorem dL_law_271 : decode yL_law.2.1 271 = .ok (.iconst 0, 1) := by decide +kernel
theorem dL_law_272 : decode yL_law.2.1 272 = .ok (.ireturn, 1) := by decide +kernel
theorem dL_law_273 : decode yL_law.2.1 273 = .ok (.aload_n 1, 1) := by decide +kernel
theorem dL_law_274 : decode yL_law.2.1 274 = .ok (.aload_n 0, 1) := by decide +kernel
theorem dL_law_275 : decode yL_law.2.1 275 = .ok (.iload_n 3, 1) := by decide +kernel
theorem dL_law_276 : decode yL_law.2.1 276 = .ok (.iconst 1, 1) := by decide +kernel
theorem dL_law_277 : decode yL_law.2.1 277 = .ok (.iadd, 1) := by decide +kernel
theorem dL_law_278 : decode yL_law.2.1 278 = .ok (.iaload, 1) := by decide +kernel
theorem dL_law_279 : decode yL_law.2.1 279 = .ok (.aload_n 0, 1) := by decide +kernel
theorem dL_law_280 : decode yL_law.2.1 280 = .ok (.iload_n 3, 1) := by decide +kernel
theorem dL_law_281 : decode yL_law.2.1 281 = .ok (.iconst 2, 1) := by decide +kernel
theorem dL_law_282 : decode yL_law.2.1 282 = .ok (.iadd, 1) := by decide +kernel
theorem dL_law_283 : decode yL_law.2.1 283 = .ok (.iaload, 1) := by decide +kernel
theorem dL_law_284 : decode yL_law.2.1 284 = .ok (.aload_n 0, 1) := by decide +kernel
theorem dL_law_285 : decode yL_law.2.1 285 = .ok (.iload_n 3, 1) := by decide +kernel
theorem dL_law_286 : decode yL_law.2.1 286 = .ok (.iconst 3, 1) := by decide +kernel
theorem dL_law_287 : decode yL_law.2.1 287 = .ok (.iadd, 1) := by decide +kernel
theorem dL_law_288 : decode yL_law.2.1 288 = .ok (.iaload, 1) := by decide +kernel
theorem dL_law_289 : decode yL_law.2.1 289 = .ok (.invokevirtual 18, 3) := by decide +kernel
theorem dL_law_292 : decode yL_law.2.1 292 = .ok (.aload_n 2, 1) := by decide +kernel
theorem dL_law_293 : decode yL_law.2.1 293 = .ok (.aload_n 0, 1) := by decide +kernel
theorem dL_law_294 : decode yL_law.2.1 294 = .ok (.iload_n 3, 1) := by decide +kernel
theorem dL_law_295 : decode yL_law.2.1 295 = .ok (.iconst 1, 1) := by decide +kernel
theorem dL_law_296 : decode yL_law.2.1 296 = .ok (.iadd, 1) := by decide +kernel
theorem dL_law_297 : decode yL_law.2.1 297 = .ok (.iaload, 1) := by decide +kernel
theorem dL_law_298 : decode yL_law.2.1 298 = .ok (.aload_n 0, 1) := by decide +kernel
theorem dL_law_299 : decode yL_law.2.1 299 = .ok (.iload_n 3, 1) := by decide +kernel
theorem dL_law_300 : decode yL_law.2.1 300 = .ok (.iconst 2, 1) := by decide +kernel
theorem dL_law_301 : decode yL_law.2.1 301 = .ok (.iadd, 1) := by decide +kernel
theorem dL_law_302 : decode yL_law.2.1 302 = .ok (.iaload, 1) := by decide +kernel
theorem dL_law_303 : decode yL_law.2.1 303 = .ok (.aload_n 0, 1) := by decide +kernel
theorem dL_law_304 : decode yL_law.2.1 304 = .ok (.iload_n 3, 1) := by decide +kernel
theorem dL_law_305 : decode yL_law.2.1 305 = .ok (.iconst 3, 1) := by decide +kernel
theorem dL_law_306 : decode yL_law.2.1 306 = .ok (.iadd, 1) := by decide +kernel
theorem dL_law_307 : decode yL_law.2.1 307 = .ok (.iaload, 1) := by decide +kernel
theorem dL_law_308 : decode yL_law.2.1 308 = .ok (.invokevirtual 22, 3) := by decide +kernel
theorem dL_law_311 : decode yL_law.2.1 311 = .ok (.if_icmp .eq 1519, 3) := by decide +kernel
theorem dL_law_314 : decode yL_law.2.1 314 = .ok (.iconst 0, 1) := by decide +kernel
theorem dL_law_315 : decode yL_law.2.1 315 = .ok (.ireturn, 1) := by decide +kernel
theorem dL_law_316 : decode yL_law.2.1 316 = .ok (.aload_n 1, 1) := by decide +kernel
theorem dL_law_317 : decode yL_law.2.1 317 = .ok (.aload_n 0, 1) := by decide +kernel
theorem dL_law_318 : decode yL_law.2.1 318 = .ok (.iload_n 3, 1) := by decide +kernel
theorem dL_law_319 : decode yL_law.2.1 319 = .ok (.iconst 1, 1) := by decide +kernel
theorem dL_law_320 : decode yL_law.2.1 320 = .ok (.iadd, 1) := by decide +kernel
theorem dL_law_321 : decode yL_law.2.1 321 = .ok (.iaload, 1) := by decide +kernel
theorem dL_law_322 : decode yL_law.2.1 322 = .ok (.aload_n 0, 1) := by decide +kernel
theorem dL_law_323 : decode yL_law.2.1 323 = .ok (.iload_n 3, 1) := by decide +kernel
theorem dL_law_324 : decode yL_law.2.1 324 = .ok (.iconst 2, 1) := by decide +kernel
theorem dL_law_325 : decode yL_law.2.1 325 = .ok (.iadd, 1) := by decide +kernel
theorem dL_law_326 : decode yL_law.2.1 326 = .ok (.iaload, 1) := by decide +kernel
theorem dL_law_327 : decode yL_law.2.1 327 = .ok (.invokevirtual 23, 3) := by decide +kernel
theorem dL_law_330 : decode yL_law.2.1 330 = .ok (.aload_n 2, 1) := by decide +kernel
theorem dL_law_331 : decode yL_law.2.1 331 = .ok (.aload_n 0, 1) := by decide +kernel
theorem dL_law_332 : decode yL_law.2.1 332 = .ok (.iload_n 3, 1) := by decide +kernel
theorem dL_law_333 : decode yL_law.2.1 333 = .ok (.iconst 1, 1) := by decide +kernel
theorem dL_law_334 : decode yL_law.2.1 334 = .ok (.iadd, 1) := by decide +kernel
theorem dL_law_335 : decode yL_law.2.1 335 = .ok (.iaload, 1) := by decide +kernel
theorem dL_law_336 : decode yL_law.2.1 336 = .ok (.aload_n 0, 1) := by decide +kernel
theorem dL_law_337 : decode yL_law.2.1 337 = .ok (.iload_n 3, 1) := by decide +kernel
theorem dL_law_338 : decode yL_law.2.1 338 = .ok (.iconst 2, 1) := by decide +kernel
theorem dL_law_339 : decode yL_law.2.1 339 = .ok (.iadd, 1) := by decide +kernel
theorem dL_law_340 : decode yL_law.2.1 340 = .ok (.iaload, 1) := by decide +kernel
theorem dL_law_341 : decode yL_law.2.1 341 = .ok (.invokevirtual 26, 3) := by decide +kernel
theorem dL_law_344 : decode yL_law.2.1 344 = .ok (.if_icmp .eq 1486, 3) := by decide +kernel
theorem dL_law_347 : decode yL_law.2.1 347 = .ok (.iconst 0, 1) := by decide +kernel
theorem dL_law_348 : decode yL_law.2.1 348 = .ok (.ireturn, 1) := by decide +kernel
theorem dL_law_349 : decode yL_law.2.1 349 = .ok (.aload_n 1, 1) := by decide +kernel
theorem dL_law_350 : decode yL_law.2.1 350 = .ok (.aload_n 0, 1) := by decide +kernel
theorem dL_law_351 : decode yL_law.2.1 351 = .ok (.iload_n 3, 1) := by decide +kernel
theorem dL_law_352 : decode yL_law.2.1 352 = .ok (.iconst 1, 1) := by decide +kernel
theorem dL_law_353 : decode yL_law.2.1 353 = .ok (.iadd, 1) := by decide +kernel
theorem dL_law_354 : decode yL_law.2.1 354 = .ok (.iaload, 1) := by decide +kernel
theorem dL_law_355 : decode yL_law.2.1 355 = .ok (.invokevirtual 27, 3) := by decide +kernel
theorem dL_law_358 : decode yL_law.2.1 358 = .ok (.aload_n 2, 1) := by decide +kernel
theorem dL_law_359 : decode yL_law.2.1 359 = .ok (.aload_n 0, 1) := by decide +kernel
theorem dL_law_360 : decode yL_law.2.1 360 = .ok (.iload_n 3, 1) := by decide +kernel
theorem dL_law_361 : decode yL_law.2.1 361 = .ok (.iconst 1, 1) := by decide +kernel
theorem dL_law_362 : decode yL_law.2.1 362 = .ok (.iadd, 1) := by decide +kernel
theorem dL_law_363 : decode yL_law.2.1 363 = .ok (.iaload, 1) := by decide +kernel
theorem dL_law_364 : decode yL_law.2.1 364 = .ok (.invokevirtual 31, 3) := by decide +kernel
theorem dL_law_367 : decode yL_law.2.1 367 = .ok (.if_icmp .eq 1463, 3) := by decide +kernel
theorem dL_law_370 : decode yL_law.2.1 370 = .ok (.iconst 0, 1) := by decide +kernel
theorem dL_law_371 : decode yL_law.2.1 371 = .ok (.ireturn, 1) := by decide +kernel
theorem dL_law_372 : decode yL_law.2.1 372 = .ok (.aload_n 1, 1) := by decide +kernel
theorem dL_law_373 : decode yL_law.2.1 373 = .ok (.aload_n 0, 1) := by decide +kernel
theorem dL_law_374 : decode yL_law.2.1 374 = .ok (.iload_n 3, 1) := by decide +kernel
theorem dL_law_375 : decode yL_law.2.1 375 = .ok (.iconst 1, 1) := by decide +kernel
theorem dL_law_376 : decode yL_law.2.1 376 = .ok (.iadd, 1) := by decide +kernel
theorem dL_law_377 : decode yL_law.2.1 377 = .ok (.iaload, 1) := by decide +kernel
theorem dL_law_378 : decode yL_law.2.1 378 = .ok (.aload_n 0, 1) := by decide +kernel
theorem dL_law_379 : decode yL_law.2.1 379 = .ok (.iload_n 3, 1) := by decide +kernel
theorem dL_law_380 : decode yL_law.2.1 380 = .ok (.iconst 2, 1) := by decide +kernel
theorem dL_law_381 : decode yL_law.2.1 381 = .ok (.iadd, 1) := by decide +kernel
theorem dL_law_382 : decode yL_law.2.1 382 = .ok (.iaload, 1) := by decide +kernel
theorem dL_law_383 : decode yL_law.2.1 383 = .ok (.aload_n 0, 1) := by decide +kernel
theorem dL_law_384 : decode yL_law.2.1 384 = .ok (.iload_n 3, 1) := by decide +kernel
theorem dL_law_385 : decode yL_law.2.1 385 = .ok (.iconst 3, 1) := by decide +kernel
theorem dL_law_386 : decode yL_law.2.1 386 = .ok (.iadd, 1) := by decide +kernel
theorem dL_law_387 : decode yL_law.2.1 387 = .ok (.iaload, 1) := by decide +kernel
theorem dL_law_388 : decode yL_law.2.1 388 = .ok (.aload_n 0, 1) := by decide +kernel
theorem dL_law_389 : decode yL_law.2.1 389 = .ok (.iload_n 3, 1) := by decide +kernel
theorem dL_law_390 : decode yL_law.2.1 390 = .ok (.iconst 4, 1) := by decide +kernel
theorem dL_law_391 : decode yL_law.2.1 391 = .ok (.iadd, 1) := by decide +kernel
theorem dL_law_392 : decode yL_law.2.1 392 = .ok (.iaload, 1) := by decide +kernel
theorem dL_law_393 : decode yL_law.2.1 393 = .ok (.aload_n 0, 1) := by decide +kernel
theorem dL_law_394 : decode yL_law.2.1 394 = .ok (.iload_n 3, 1) := by decide +kernel
theorem dL_law_395 : decode yL_law.2.1 395 = .ok (.iconst 5, 1) := by decide +kernel
theorem dL_law_396 : decode yL_law.2.1 396 = .ok (.iadd, 1) := by decide +kernel
theorem dL_law_397 : decode yL_law.2.1 397 = .ok (.iaload, 1) := by decide +kernel
theorem dL_law_398 : decode yL_law.2.1 398 = .ok (.invokevirtual 32, 3) := by decide +kernel
theorem dL_law_401 : decode yL_law.2.1 401 = .ok (.aload_n 2, 1) := by decide +kernel
theorem dL_law_402 : decode yL_law.2.1 402 = .ok (.aload_n 0, 1) := by decide +kernel
theorem dL_law_403 : decode yL_law.2.1 403 = .ok (.iload_n 3, 1) := by decide +kernel
theorem dL_law_404 : decode yL_law.2.1 404 = .ok (.iconst 1, 1) := by decide +kernel
theorem dL_law_405 : decode yL_law.2.1 405 = .ok (.iadd, 1) := by decide +kernel
theorem dL_law_406 : decode yL_law.2.1 406 = .ok (.iaload, 1) := by decide +kernel
theorem dL_law_407 : decode yL_law.2.1 407 = .ok (.aload_n 0, 1) := by decide +kernel
theorem dL_law_408 : decode yL_law.2.1 408 = .ok (.iload_n 3, 1) := by decide +kernel
theorem dL_law_409 : decode yL_law.2.1 409 = .ok (.iconst 2, 1) := by decide +kernel
theorem dL_law_410 : decode yL_law.2.1 410 = .ok (.iadd, 1) := by decide +kernel
theorem dL_law_411 : decode yL_law.2.1 411 = .ok (.iaload, 1) := by decide +kernel
theorem dL_law_412 : decode yL_law.2.1 412 = .ok (.aload_n 0, 1) := by decide +kernel
theorem dL_law_413 : decode yL_law.2.1 413 = .ok (.iload_n 3, 1) := by decide +kernel
theorem dL_law_414 : decode yL_law.2.1 414 = .ok (.iconst 3, 1) := by decide +kernel
theorem dL_law_415 : decode yL_law.2.1 415 = .ok (.iadd, 1) := by decide +kernel
theorem dL_law_416 : decode yL_law.2.1 416 = .ok (.iaload, 1) := by decide +kernel
theorem dL_law_417 : decode yL_law.2.1 417 = .ok (.aload_n 0, 1) := by decide +kernel
theorem dL_law_418 : decode yL_law.2.1 418 = .ok (.iload_n 3, 1) := by decide +kernel
theorem dL_law_419 : decode yL_law.2.1 419 = .ok (.iconst 4, 1) := by decide +kernel
theorem dL_law_420 : decode yL_law.2.1 420 = .ok (.iadd, 1) := by decide +kernel
theorem dL_law_421 : decode yL_law.2.1 421 = .ok (.iaload, 1) := by decide +kernel
theorem dL_law_422 : decode yL_law.2.1 422 = .ok (.aload_n 0, 1) := by decide +kernel
theorem dL_law_423 : decode yL_law.2.1 423 = .ok (.iload_n 3, 1) := by decide +kernel
theorem dL_law_424 : decode yL_law.2.1 424 = .ok (.iconst 5, 1) := by decide +kernel
theorem dL_law_425 : decode yL_law.2.1 425 = .ok (.iadd, 1) := by decide +kernel
theorem dL_law_426 : decode yL_law.2.1 426 = .ok (.iaload, 1) := by decide +kernel
theorem dL_law_427 : decode yL_law.2.1 427 = .ok (.invokevirtual 36, 3) := by decide +kernel
theorem dL_law_430 : decode yL_law.2.1 430 = .ok (.if_icmp .eq 1400, 3) := by decide +kernel
theorem dL_law_433 : decode yL_law.2.1 433 = .ok (.iconst 0, 1) := by decide +kernel
theorem dL_law_434 : decode yL_law.2.1 434 = .ok (.ireturn, 1) := by decide +kernel
theorem dL_law_435 : decode yL_law.2.1 435 = .ok (.aload_n 1, 1) := by decide +kernel
theorem dL_law_436 : decode yL_law.2.1 436 = .ok (.aload_n 0, 1) := by decide +kernel
theorem dL_law_437 : decode yL_law.2.1 437 = .ok (.iload_n 3, 1) := by decide +kernel
theorem dL_law_438 : decode yL_law.2.1 438 = .ok (.iconst 1, 1) := by decide +kernel
theorem dL_law_439 : decode yL_law.2.1 439 = .ok (.iadd, 1) := by decide +kernel
theorem dL_law_440 : decode yL_law.2.1 440 = .ok (.iaload, 1) := by decide +kernel
theorem dL_law_441 : decode yL_law.2.1 441 = .ok (.invokevirtual 37, 3) := by decide +kernel
theorem dL_law_444 : decode yL_law.2.1 444 = .ok (.aload_n 2, 1) := by decide +kernel
theorem dL_law_445 : decode yL_law.2.1 445 = .ok (.aload_n 0, 1) := by decide +kernel
theorem dL_law_446 : decode yL_law.2.1 446 = .ok (.iload_n 3, 1) := by decide +kernel
theorem dL_law_447 : decode yL_law.2.1 447 = .ok (.iconst 1, 1) := by decide +kernel
theorem dL_law_448 : decode yL_law.2.1 448 = .ok (.iadd, 1) := by decide +kernel
theorem dL_law_449 : decode yL_law.2.1 449 = .ok (.iaload, 1) := by decide +kernel
theorem dL_law_450 : decode yL_law.2.1 450 = .ok (.invokevirtual 40, 3) := by decide +kernel
theorem dL_law_453 : decode yL_law.2.1 453 = .ok (.if_icmp .eq 1377, 3) := by decide +kernel
theorem dL_law_456 : decode yL_law.2.1 456 = .ok (.iconst 0, 1) := by decide +kernel
theorem dL_law_457 : decode yL_law.2.1 457 = .ok (.ireturn, 1) := by decide +kernel
theorem dL_law_458 : decode yL_law.2.1 458 = .ok (.aload_n 1, 1) := by decide +kernel
theorem dL_law_459 : decode yL_law.2.1 459 = .ok (.aload_n 0, 1) := by decide +kernel
theorem dL_law_460 : decode yL_law.2.1 460 = .ok (.iload_n 3, 1) := by decide +kernel
theorem dL_law_461 : decode yL_law.2.1 461 = .ok (.iconst 1, 1) := by decide +kernel
theorem dL_law_462 : decode yL_law.2.1 462 = .ok (.iadd, 1) := by decide +kernel
theorem dL_law_463 : decode yL_law.2.1 463 = .ok (.iaload, 1) := by decide +kernel
theorem dL_law_464 : decode yL_law.2.1 464 = .ok (.aload_n 0, 1) := by decide +kernel
theorem dL_law_465 : decode yL_law.2.1 465 = .ok (.iload_n 3, 1) := by decide +kernel
theorem dL_law_466 : decode yL_law.2.1 466 = .ok (.iconst 2, 1) := by decide +kernel
theorem dL_law_467 : decode yL_law.2.1 467 = .ok (.iadd, 1) := by decide +kernel
theorem dL_law_468 : decode yL_law.2.1 468 = .ok (.iaload, 1) := by decide +kernel
theorem dL_law_469 : decode yL_law.2.1 469 = .ok (.invokevirtual 41, 3) := by decide +kernel
theorem dL_law_472 : decode yL_law.2.1 472 = .ok (.aload_n 2, 1) := by decide +kernel
theorem dL_law_473 : decode yL_law.2.1 473 = .ok (.aload_n 0, 1) := by decide +kernel
theorem dL_law_474 : decode yL_law.2.1 474 = .ok (.iload_n 3, 1) := by decide +kernel
theorem dL_law_475 : decode yL_law.2.1 475 = .ok (.iconst 1, 1) := by decide +kernel
theorem dL_law_476 : decode yL_law.2.1 476 = .ok (.iadd, 1) := by decide +kernel
theorem dL_law_477 : decode yL_law.2.1 477 = .ok (.iaload, 1) := by decide +kernel
theorem dL_law_478 : decode yL_law.2.1 478 = .ok (.aload_n 0, 1) := by decide +kernel
theorem dL_law_479 : decode yL_law.2.1 479 = .ok (.iload_n 3, 1) := by decide +kernel
theorem dL_law_480 : decode yL_law.2.1 480 = .ok (.iconst 2, 1) := by decide +kernel
theorem dL_law_481 : decode yL_law.2.1 481 = .ok (.iadd, 1) := by decide +kernel
theorem dL_law_482 : decode yL_law.2.1 482 = .ok (.iaload, 1) := by decide +kernel
theorem dL_law_483 : decode yL_law.2.1 483 = .ok (.invokevirtual 44, 3) := by decide +kernel
theorem dL_law_486 : decode yL_law.2.1 486 = .ok (.if_icmp .eq 1344, 3) := by decide +kernel
theorem dL_law_489 : decode yL_law.2.1 489 = .ok (.iconst 0, 1) := by decide +kernel
theorem dL_law_490 : decode yL_law.2.1 490 = .ok (.ireturn, 1) := by decide +kernel
theorem dL_law_491 : decode yL_law.2.1 491 = .ok (.aload_n 1, 1) := by decide +kernel
theorem dL_law_492 : decode yL_law.2.1 492 = .ok (.aload_n 0, 1) := by decide +kernel
theorem dL_law_493 : decode yL_law.2.1 493 = .ok (.iload_n 3, 1) := by decide +kernel
theorem dL_law_494 : decode yL_law.2.1 494 = .ok (.iconst 1, 1) := by decide +kernel
theorem dL_law_495 : decode yL_law.2.1 495 = .ok (.iadd, 1) := by decide +kernel
theorem dL_law_496 : decode yL_law.2.1 496 = .ok (.iaload, 1) := by decide +kernel
theorem dL_law_497 : decode yL_law.2.1 497 = .ok (.aload_n 0, 1) := by decide +kernel
theorem dL_law_498 : decode yL_law.2.1 498 = .ok (.iload_n 3, 1) := by decide +kernel
theorem dL_law_499 : decode yL_law.2.1 499 = .ok (.iconst 2, 1) := by decide +kernel
theorem dL_law_500 : decode yL_law.2.1 500 = .ok (.iadd, 1) := by decide +kernel
theorem dL_law_501 : decode yL_law.2.1 501 = .ok (.iaload, 1) := by decide +kernel
theorem dL_law_502 : decode yL_law.2.1 502 = .ok (.aload_n 0, 1) := by decide +kernel
theorem dL_law_503 : decode yL_law.2.1 503 = .ok (.iload_n 3, 1) := by decide +kernel
theorem dL_law_504 : decode yL_law.2.1 504 = .ok (.iconst 3, 1) := by decide +kernel
theorem dL_law_505 : decode yL_law.2.1 505 = .ok (.iadd, 1) := by decide +kernel
theorem dL_law_506 : decode yL_law.2.1 506 = .ok (.iaload, 1) := by decide +kernel
theorem dL_law_507 : decode yL_law.2.1 507 = .ok (.invokevirtual 45, 3) := by decide +kernel
theorem dL_law_510 : decode yL_law.2.1 510 = .ok (.aload_n 2, 1) := by decide +kernel
theorem dL_law_511 : decode yL_law.2.1 511 = .ok (.aload_n 0, 1) := by decide +kernel
theorem dL_law_512 : decode yL_law.2.1 512 = .ok (.iload_n 3, 1) := by decide +kernel
theorem dL_law_513 : decode yL_law.2.1 513 = .ok (.iconst 1, 1) := by decide +kernel
theorem dL_law_514 : decode yL_law.2.1 514 = .ok (.iadd, 1) := by decide +kernel
theorem dL_law_515 : decode yL_law.2.1 515 = .ok (.iaload, 1) := by decide +kernel
theorem dL_law_516 : decode yL_law.2.1 516 = .ok (.aload_n 0, 1) := by decide +kernel
theorem dL_law_517 : decode yL_law.2.1 517 = .ok (.iload_n 3, 1) := by decide +kernel
theorem dL_law_518 : decode yL_law.2.1 518 = .ok (.iconst 2, 1) := by decide +kernel
theorem dL_law_519 : decode yL_law.2.1 519 = .ok (.iadd, 1) := by decide +kernel
theorem dL_law_520 : decode yL_law.2.1 520 = .ok (.iaload, 1) := by decide +kernel
theorem dL_law_521 : decode yL_law.2.1 521 = .ok (.aload_n 0, 1) := by decide +kernel
theorem dL_law_522 : decode yL_law.2.1 522 = .ok (.iload_n 3, 1) := by decide +kernel
theorem dL_law_523 : decode yL_law.2.1 523 = .ok (.iconst 3, 1) := by decide +kernel
theorem dL_law_524 : decode yL_law.2.1 524 = .ok (.iadd, 1) := by decide +kernel
theorem dL_law_525 : decode yL_law.2.1 525 = .ok (.iaload, 1) := by decide +kernel
theorem dL_law_526 : decode yL_law.2.1 526 = .ok (.invokevirtual 48, 3) := by decide +kernel
theorem dL_law_529 : decode yL_law.2.1 529 = .ok (.if_icmp .eq 1301, 3) := by decide +kernel
theorem dL_law_532 : decode yL_law.2.1 532 = .ok (.iconst 0, 1) := by decide +kernel
theorem dL_law_533 : decode yL_law.2.1 533 = .ok (.ireturn, 1) := by decide +kernel
theorem dL_law_534 : decode yL_law.2.1 534 = .ok (.aload_n 1, 1) := by decide +kernel
theorem dL_law_535 : decode yL_law.2.1 535 = .ok (.aload_n 0, 1) := by decide +kernel
theorem dL_law_536 : decode yL_law.2.1 536 = .ok (.iload_n 3, 1) := by decide +kernel
theorem dL_law_537 : decode yL_law.2.1 537 = .ok (.iconst 1, 1) := by decide +kernel
theorem dL_law_538 : decode yL_law.2.1 538 = .ok (.iadd, 1) := by decide +kernel
theorem dL_law_539 : decode yL_law.2.1 539 = .ok (.iaload, 1) := by decide +kernel
theorem dL_law_540 : decode yL_law.2.1 540 = .ok (.invokevirtual 49, 3) := by decide +kernel
theorem dL_law_543 : decode yL_law.2.1 543 = .ok (.aload_n 2, 1) := by decide +kernel
theorem dL_law_544 : decode yL_law.2.1 544 = .ok (.aload_n 0, 1) := by decide +kernel
theorem dL_law_545 : decode yL_law.2.1 545 = .ok (.iload_n 3, 1) := by decide +kernel
theorem dL_law_546 : decode yL_law.2.1 546 = .ok (.iconst 1, 1) := by decide +kernel
theorem dL_law_547 : decode yL_law.2.1 547 = .ok (.iadd, 1) := by decide +kernel
theorem dL_law_548 : decode yL_law.2.1 548 = .ok (.iaload, 1) := by decide +kernel
theorem dL_law_549 : decode yL_law.2.1 549 = .ok (.invokevirtual 52, 3) := by decide +kernel
theorem dL_law_552 : decode yL_law.2.1 552 = .ok (.if_icmp .eq 1278, 3) := by decide +kernel
theorem dL_law_555 : decode yL_law.2.1 555 = .ok (.iconst 0, 1) := by decide +kernel
theorem dL_law_556 : decode yL_law.2.1 556 = .ok (.ireturn, 1) := by decide +kernel
theorem dL_law_557 : decode yL_law.2.1 557 = .ok (.aload_n 1, 1) := by decide +kernel
theorem dL_law_558 : decode yL_law.2.1 558 = .ok (.aload_n 0, 1) := by decide +kernel
theorem dL_law_559 : decode yL_law.2.1 559 = .ok (.iload_n 3, 1) := by decide +kernel
theorem dL_law_560 : decode yL_law.2.1 560 = .ok (.iconst 1, 1) := by decide +kernel
theorem dL_law_561 : decode yL_law.2.1 561 = .ok (.iadd, 1) := by decide +kernel
theorem dL_law_562 : decode yL_law.2.1 562 = .ok (.iaload, 1) := by decide +kernel
theorem dL_law_563 : decode yL_law.2.1 563 = .ok (.aload_n 0, 1) := by decide +kernel
theorem dL_law_564 : decode yL_law.2.1 564 = .ok (.iload_n 3, 1) := by decide +kernel
theorem dL_law_565 : decode yL_law.2.1 565 = .ok (.iconst 2, 1) := by decide +kernel
theorem dL_law_566 : decode yL_law.2.1 566 = .ok (.iadd, 1) := by decide +kernel
theorem dL_law_567 : decode yL_law.2.1 567 = .ok (.iaload, 1) := by decide +kernel
theorem dL_law_568 : decode yL_law.2.1 568 = .ok (.invokevirtual 53, 3) := by decide +kernel
theorem dL_law_571 : decode yL_law.2.1 571 = .ok (.aload_n 2, 1) := by decide +kernel
theorem dL_law_572 : decode yL_law.2.1 572 = .ok (.aload_n 0, 1) := by decide +kernel
theorem dL_law_573 : decode yL_law.2.1 573 = .ok (.iload_n 3, 1) := by decide +kernel
theorem dL_law_574 : decode yL_law.2.1 574 = .ok (.iconst 1, 1) := by decide +kernel
theorem dL_law_575 : decode yL_law.2.1 575 = .ok (.iadd, 1) := by decide +kernel
theorem dL_law_576 : decode yL_law.2.1 576 = .ok (.iaload, 1) := by decide +kernel
theorem dL_law_577 : decode yL_law.2.1 577 = .ok (.aload_n 0, 1) := by decide +kernel
theorem dL_law_578 : decode yL_law.2.1 578 = .ok (.iload_n 3, 1) := by decide +kernel
theorem dL_law_579 : decode yL_law.2.1 579 = .ok (.iconst 2, 1) := by decide +kernel
theorem dL_law_580 : decode yL_law.2.1 580 = .ok (.iadd, 1) := by decide +kernel
theorem dL_law_581 : decode yL_law.2.1 581 = .ok (.iaload, 1) := by decide +kernel
theorem dL_law_582 : decode yL_law.2.1 582 = .ok (.invokevirtual 56, 3) := by decide +kernel
theorem dL_law_585 : decode yL_law.2.1 585 = .ok (.if_icmp .eq 1245, 3) := by decide +kernel
theorem dL_law_588 : decode yL_law.2.1 588 = .ok (.iconst 0, 1) := by decide +kernel
theorem dL_law_589 : decode yL_law.2.1 589 = .ok (.ireturn, 1) := by decide +kernel
theorem dL_law_590 : decode yL_law.2.1 590 = .ok (.aload_n 1, 1) := by decide +kernel
theorem dL_law_591 : decode yL_law.2.1 591 = .ok (.aload_n 0, 1) := by decide +kernel
theorem dL_law_592 : decode yL_law.2.1 592 = .ok (.iload_n 3, 1) := by decide +kernel
theorem dL_law_593 : decode yL_law.2.1 593 = .ok (.iconst 1, 1) := by decide +kernel
theorem dL_law_594 : decode yL_law.2.1 594 = .ok (.iadd, 1) := by decide +kernel
theorem dL_law_595 : decode yL_law.2.1 595 = .ok (.iaload, 1) := by decide +kernel
theorem dL_law_596 : decode yL_law.2.1 596 = .ok (.invokevirtual 57, 3) := by decide +kernel
theorem dL_law_599 : decode yL_law.2.1 599 = .ok (.aload_n 2, 1) := by decide +kernel
theorem dL_law_600 : decode yL_law.2.1 600 = .ok (.aload_n 0, 1) := by decide +kernel
theorem dL_law_601 : decode yL_law.2.1 601 = .ok (.iload_n 3, 1) := by decide +kernel
theorem dL_law_602 : decode yL_law.2.1 602 = .ok (.iconst 1, 1) := by decide +kernel
theorem dL_law_603 : decode yL_law.2.1 603 = .ok (.iadd, 1) := by decide +kernel
theorem dL_law_604 : decode yL_law.2.1 604 = .ok (.iaload, 1) := by decide +kernel
theorem dL_law_605 : decode yL_law.2.1 605 = .ok (.invokevirtual 60, 3) := by decide +kernel
theorem dL_law_608 : decode yL_law.2.1 608 = .ok (.if_icmp .eq 1222, 3) := by decide +kernel
theorem dL_law_611 : decode yL_law.2.1 611 = .ok (.iconst 0, 1) := by decide +kernel
theorem dL_law_612 : decode yL_law.2.1 612 = .ok (.ireturn, 1) := by decide +kernel
theorem dL_law_613 : decode yL_law.2.1 613 = .ok (.aload_n 1, 1) := by decide +kernel
theorem dL_law_614 : decode yL_law.2.1 614 = .ok (.aload_n 0, 1) := by decide +kernel
theorem dL_law_615 : decode yL_law.2.1 615 = .ok (.iload_n 3, 1) := by decide +kernel
theorem dL_law_616 : decode yL_law.2.1 616 = .ok (.iconst 1, 1) := by decide +kernel
theorem dL_law_617 : decode yL_law.2.1 617 = .ok (.iadd, 1) := by decide +kernel
theorem dL_law_618 : decode yL_law.2.1 618 = .ok (.iaload, 1) := by decide +kernel
theorem dL_law_619 : decode yL_law.2.1 619 = .ok (.aload_n 0, 1) := by decide +kernel
theorem dL_law_620 : decode yL_law.2.1 620 = .ok (.iload_n 3, 1) := by decide +kernel
theorem dL_law_621 : decode yL_law.2.1 621 = .ok (.iconst 2, 1) := by decide +kernel
theorem dL_law_622 : decode yL_law.2.1 622 = .ok (.iadd, 1) := by decide +kernel
theorem dL_law_623 : decode yL_law.2.1 623 = .ok (.iaload, 1) := by decide +kernel
theorem dL_law_624 : decode yL_law.2.1 624 = .ok (.invokevirtual 61, 3) := by decide +kernel
theorem dL_law_627 : decode yL_law.2.1 627 = .ok (.aload_n 2, 1) := by decide +kernel
theorem dL_law_628 : decode yL_law.2.1 628 = .ok (.aload_n 0, 1) := by decide +kernel
theorem dL_law_629 : decode yL_law.2.1 629 = .ok (.iload_n 3, 1) := by decide +kernel
theorem dL_law_630 : decode yL_law.2.1 630 = .ok (.iconst 1, 1) := by decide +kernel
theorem dL_law_631 : decode yL_law.2.1 631 = .ok (.iadd, 1) := by decide +kernel
theorem dL_law_632 : decode yL_law.2.1 632 = .ok (.iaload, 1) := by decide +kernel
theorem dL_law_633 : decode yL_law.2.1 633 = .ok (.aload_n 0, 1) := by decide +kernel
theorem dL_law_634 : decode yL_law.2.1 634 = .ok (.iload_n 3, 1) := by decide +kernel
theorem dL_law_635 : decode yL_law.2.1 635 = .ok (.iconst 2, 1) := by decide +kernel
theorem dL_law_636 : decode yL_law.2.1 636 = .ok (.iadd, 1) := by decide +kernel
theorem dL_law_637 : decode yL_law.2.1 637 = .ok (.iaload, 1) := by decide +kernel
theorem dL_law_638 : decode yL_law.2.1 638 = .ok (.invokevirtual 64, 3) := by decide +kernel
theorem dL_law_641 : decode yL_law.2.1 641 = .ok (.if_icmp .eq 1189, 3) := by decide +kernel
theorem dL_law_644 : decode yL_law.2.1 644 = .ok (.iconst 0, 1) := by decide +kernel
theorem dL_law_645 : decode yL_law.2.1 645 = .ok (.ireturn, 1) := by decide +kernel
theorem dL_law_646 : decode yL_law.2.1 646 = .ok (.aload_n 1, 1) := by decide +kernel
theorem dL_law_647 : decode yL_law.2.1 647 = .ok (.aload_n 0, 1) := by decide +kernel
theorem dL_law_648 : decode yL_law.2.1 648 = .ok (.iload_n 3, 1) := by decide +kernel
theorem dL_law_649 : decode yL_law.2.1 649 = .ok (.iconst 1, 1) := by decide +kernel
theorem dL_law_650 : decode yL_law.2.1 650 = .ok (.iadd, 1) := by decide +kernel
theorem dL_law_651 : decode yL_law.2.1 651 = .ok (.iaload, 1) := by decide +kernel
theorem dL_law_652 : decode yL_law.2.1 652 = .ok (.aload_n 0, 1) := by decide +kernel
theorem dL_law_653 : decode yL_law.2.1 653 = .ok (.iload_n 3, 1) := by decide +kernel
theorem dL_law_654 : decode yL_law.2.1 654 = .ok (.iconst 2, 1) := by decide +kernel
theorem dL_law_655 : decode yL_law.2.1 655 = .ok (.iadd, 1) := by decide +kernel
theorem dL_law_656 : decode yL_law.2.1 656 = .ok (.iaload, 1) := by decide +kernel
theorem dL_law_657 : decode yL_law.2.1 657 = .ok (.aload_n 0, 1) := by decide +kernel
theorem dL_law_658 : decode yL_law.2.1 658 = .ok (.iload_n 3, 1) := by decide +kernel
theorem dL_law_659 : decode yL_law.2.1 659 = .ok (.iconst 3, 1) := by decide +kernel
theorem dL_law_660 : decode yL_law.2.1 660 = .ok (.iadd, 1) := by decide +kernel
theorem dL_law_661 : decode yL_law.2.1 661 = .ok (.iaload, 1) := by decide +kernel
theorem dL_law_662 : decode yL_law.2.1 662 = .ok (.invokevirtual 65, 3) := by decide +kernel
theorem dL_law_665 : decode yL_law.2.1 665 = .ok (.aload_n 2, 1) := by decide +kernel
theorem dL_law_666 : decode yL_law.2.1 666 = .ok (.aload_n 0, 1) := by decide +kernel
theorem dL_law_667 : decode yL_law.2.1 667 = .ok (.iload_n 3, 1) := by decide +kernel
theorem dL_law_668 : decode yL_law.2.1 668 = .ok (.iconst 1, 1) := by decide +kernel
theorem dL_law_669 : decode yL_law.2.1 669 = .ok (.iadd, 1) := by decide +kernel
theorem dL_law_670 : decode yL_law.2.1 670 = .ok (.iaload, 1) := by decide +kernel
theorem dL_law_671 : decode yL_law.2.1 671 = .ok (.aload_n 0, 1) := by decide +kernel
theorem dL_law_672 : decode yL_law.2.1 672 = .ok (.iload_n 3, 1) := by decide +kernel
theorem dL_law_673 : decode yL_law.2.1 673 = .ok (.iconst 2, 1) := by decide +kernel
theorem dL_law_674 : decode yL_law.2.1 674 = .ok (.iadd, 1) := by decide +kernel
theorem dL_law_675 : decode yL_law.2.1 675 = .ok (.iaload, 1) := by decide +kernel
theorem dL_law_676 : decode yL_law.2.1 676 = .ok (.aload_n 0, 1) := by decide +kernel
theorem dL_law_677 : decode yL_law.2.1 677 = .ok (.iload_n 3, 1) := by decide +kernel
theorem dL_law_678 : decode yL_law.2.1 678 = .ok (.iconst 3, 1) := by decide +kernel
theorem dL_law_679 : decode yL_law.2.1 679 = .ok (.iadd, 1) := by decide +kernel
theorem dL_law_680 : decode yL_law.2.1 680 = .ok (.iaload, 1) := by decide +kernel
theorem dL_law_681 : decode yL_law.2.1 681 = .ok (.invokevirtual 68, 3) := by decide +kernel
theorem dL_law_684 : decode yL_law.2.1 684 = .ok (.if_icmp .eq 1146, 3) := by decide +kernel
theorem dL_law_687 : decode yL_law.2.1 687 = .ok (.iconst 0, 1) := by decide +kernel
theorem dL_law_688 : decode yL_law.2.1 688 = .ok (.ireturn, 1) := by decide +kernel
theorem dL_law_689 : decode yL_law.2.1 689 = .ok (.aload_n 1, 1) := by decide +kernel
theorem dL_law_690 : decode yL_law.2.1 690 = .ok (.aload_n 0, 1) := by decide +kernel
theorem dL_law_691 : decode yL_law.2.1 691 = .ok (.iload_n 3, 1) := by decide +kernel
theorem dL_law_692 : decode yL_law.2.1 692 = .ok (.iconst 1, 1) := by decide +kernel
theorem dL_law_693 : decode yL_law.2.1 693 = .ok (.iadd, 1) := by decide +kernel
theorem dL_law_694 : decode yL_law.2.1 694 = .ok (.iaload, 1) := by decide +kernel
theorem dL_law_695 : decode yL_law.2.1 695 = .ok (.aload_n 0, 1) := by decide +kernel
theorem dL_law_696 : decode yL_law.2.1 696 = .ok (.iload_n 3, 1) := by decide +kernel
theorem dL_law_697 : decode yL_law.2.1 697 = .ok (.iconst 2, 1) := by decide +kernel
theorem dL_law_698 : decode yL_law.2.1 698 = .ok (.iadd, 1) := by decide +kernel
theorem dL_law_699 : decode yL_law.2.1 699 = .ok (.iaload, 1) := by decide +kernel
theorem dL_law_700 : decode yL_law.2.1 700 = .ok (.aload_n 0, 1) := by decide +kernel
theorem dL_law_701 : decode yL_law.2.1 701 = .ok (.iload_n 3, 1) := by decide +kernel
theorem dL_law_702 : decode yL_law.2.1 702 = .ok (.iconst 3, 1) := by decide +kernel
theorem dL_law_703 : decode yL_law.2.1 703 = .ok (.iadd, 1) := by decide +kernel
theorem dL_law_704 : decode yL_law.2.1 704 = .ok (.iaload, 1) := by decide +kernel
theorem dL_law_705 : decode yL_law.2.1 705 = .ok (.aload_n 0, 1) := by decide +kernel
theorem dL_law_706 : decode yL_law.2.1 706 = .ok (.iload_n 3, 1) := by decide +kernel
theorem dL_law_707 : decode yL_law.2.1 707 = .ok (.iconst 4, 1) := by decide +kernel
theorem dL_law_708 : decode yL_law.2.1 708 = .ok (.iadd, 1) := by decide +kernel
theorem dL_law_709 : decode yL_law.2.1 709 = .ok (.iaload, 1) := by decide +kernel
theorem dL_law_710 : decode yL_law.2.1 710 = .ok (.invokevirtual 69, 3) := by decide +kernel
theorem dL_law_713 : decode yL_law.2.1 713 = .ok (.aload_n 2, 1) := by decide +kernel
theorem dL_law_714 : decode yL_law.2.1 714 = .ok (.aload_n 0, 1) := by decide +kernel
theorem dL_law_715 : decode yL_law.2.1 715 = .ok (.iload_n 3, 1) := by decide +kernel
theorem dL_law_716 : decode yL_law.2.1 716 = .ok (.iconst 1, 1) := by decide +kernel
theorem dL_law_717 : decode yL_law.2.1 717 = .ok (.iadd, 1) := by decide +kernel
theorem dL_law_718 : decode yL_law.2.1 718 = .ok (.iaload, 1) := by decide +kernel
theorem dL_law_719 : decode yL_law.2.1 719 = .ok (.aload_n 0, 1) := by decide +kernel
theorem dL_law_720 : decode yL_law.2.1 720 = .ok (.iload_n 3, 1) := by decide +kernel
theorem dL_law_721 : decode yL_law.2.1 721 = .ok (.iconst 2, 1) := by decide +kernel
theorem dL_law_722 : decode yL_law.2.1 722 = .ok (.iadd, 1) := by decide +kernel
theorem dL_law_723 : decode yL_law.2.1 723 = .ok (.iaload, 1) := by decide +kernel
theorem dL_law_724 : decode yL_law.2.1 724 = .ok (.aload_n 0, 1) := by decide +kernel
theorem dL_law_725 : decode yL_law.2.1 725 = .ok (.iload_n 3, 1) := by decide +kernel
theorem dL_law_726 : decode yL_law.2.1 726 = .ok (.iconst 3, 1) := by decide +kernel
theorem dL_law_727 : decode yL_law.2.1 727 = .ok (.iadd, 1) := by decide +kernel
theorem dL_law_728 : decode yL_law.2.1 728 = .ok (.iaload, 1) := by decide +kernel
theorem dL_law_729 : decode yL_law.2.1 729 = .ok (.aload_n 0, 1) := by decide +kernel
theorem dL_law_730 : decode yL_law.2.1 730 = .ok (.iload_n 3, 1) := by decide +kernel
theorem dL_law_731 : decode yL_law.2.1 731 = .ok (.iconst 4, 1) := by decide +kernel
theorem dL_law_732 : decode yL_law.2.1 732 = .ok (.iadd, 1) := by decide +kernel
theorem dL_law_733 : decode yL_law.2.1 733 = .ok (.iaload, 1) := by decide +kernel
theorem dL_law_734 : decode yL_law.2.1 734 = .ok (.invokevirtual 73, 3) := by decide +kernel
theorem dL_law_737 : decode yL_law.2.1 737 = .ok (.if_icmp .eq 1093, 3) := by decide +kernel
theorem dL_law_740 : decode yL_law.2.1 740 = .ok (.iconst 0, 1) := by decide +kernel
theorem dL_law_741 : decode yL_law.2.1 741 = .ok (.ireturn, 1) := by decide +kernel
theorem dL_law_742 : decode yL_law.2.1 742 = .ok (.aload_n 1, 1) := by decide +kernel
theorem dL_law_743 : decode yL_law.2.1 743 = .ok (.aload_n 0, 1) := by decide +kernel
theorem dL_law_744 : decode yL_law.2.1 744 = .ok (.iload_n 3, 1) := by decide +kernel
theorem dL_law_745 : decode yL_law.2.1 745 = .ok (.iconst 1, 1) := by decide +kernel
theorem dL_law_746 : decode yL_law.2.1 746 = .ok (.iadd, 1) := by decide +kernel
theorem dL_law_747 : decode yL_law.2.1 747 = .ok (.iaload, 1) := by decide +kernel
theorem dL_law_748 : decode yL_law.2.1 748 = .ok (.aload_n 0, 1) := by decide +kernel
theorem dL_law_749 : decode yL_law.2.1 749 = .ok (.iload_n 3, 1) := by decide +kernel
theorem dL_law_750 : decode yL_law.2.1 750 = .ok (.iconst 2, 1) := by decide +kernel
theorem dL_law_751 : decode yL_law.2.1 751 = .ok (.iadd, 1) := by decide +kernel
theorem dL_law_752 : decode yL_law.2.1 752 = .ok (.iaload, 1) := by decide +kernel
theorem dL_law_753 : decode yL_law.2.1 753 = .ok (.aload_n 0, 1) := by decide +kernel
theorem dL_law_754 : decode yL_law.2.1 754 = .ok (.iload_n 3, 1) := by decide +kernel
theorem dL_law_755 : decode yL_law.2.1 755 = .ok (.iconst 3, 1) := by decide +kernel
theorem dL_law_756 : decode yL_law.2.1 756 = .ok (.iadd, 1) := by decide +kernel
theorem dL_law_757 : decode yL_law.2.1 757 = .ok (.iaload, 1) := by decide +kernel
theorem dL_law_758 : decode yL_law.2.1 758 = .ok (.invokevirtual 74, 3) := by decide +kernel
theorem dL_law_761 : decode yL_law.2.1 761 = .ok (.aload_n 2, 1) := by decide +kernel
theorem dL_law_762 : decode yL_law.2.1 762 = .ok (.aload_n 0, 1) := by decide +kernel
theorem dL_law_763 : decode yL_law.2.1 763 = .ok (.iload_n 3, 1) := by decide +kernel
theorem dL_law_764 : decode yL_law.2.1 764 = .ok (.iconst 1, 1) := by decide +kernel
theorem dL_law_765 : decode yL_law.2.1 765 = .ok (.iadd, 1) := by decide +kernel
theorem dL_law_766 : decode yL_law.2.1 766 = .ok (.iaload, 1) := by decide +kernel
theorem dL_law_767 : decode yL_law.2.1 767 = .ok (.aload_n 0, 1) := by decide +kernel
theorem dL_law_768 : decode yL_law.2.1 768 = .ok (.iload_n 3, 1) := by decide +kernel
theorem dL_law_769 : decode yL_law.2.1 769 = .ok (.iconst 2, 1) := by decide +kernel
theorem dL_law_770 : decode yL_law.2.1 770 = .ok (.iadd, 1) := by decide +kernel
theorem dL_law_771 : decode yL_law.2.1 771 = .ok (.iaload, 1) := by decide +kernel
theorem dL_law_772 : decode yL_law.2.1 772 = .ok (.aload_n 0, 1) := by decide +kernel
theorem dL_law_773 : decode yL_law.2.1 773 = .ok (.iload_n 3, 1) := by decide +kernel
theorem dL_law_774 : decode yL_law.2.1 774 = .ok (.iconst 3, 1) := by decide +kernel
theorem dL_law_775 : decode yL_law.2.1 775 = .ok (.iadd, 1) := by decide +kernel
theorem dL_law_776 : decode yL_law.2.1 776 = .ok (.iaload, 1) := by decide +kernel
theorem dL_law_777 : decode yL_law.2.1 777 = .ok (.invokevirtual 77, 3) := by decide +kernel
theorem dL_law_780 : decode yL_law.2.1 780 = .ok (.if_icmp .eq 1050, 3) := by decide +kernel
theorem dL_law_783 : decode yL_law.2.1 783 = .ok (.iconst 0, 1) := by decide +kernel
theorem dL_law_784 : decode yL_law.2.1 784 = .ok (.ireturn, 1) := by decide +kernel
theorem dL_law_785 : decode yL_law.2.1 785 = .ok (.aload_n 1, 1) := by decide +kernel
theorem dL_law_786 : decode yL_law.2.1 786 = .ok (.aload_n 0, 1) := by decide +kernel
theorem dL_law_787 : decode yL_law.2.1 787 = .ok (.iload_n 3, 1) := by decide +kernel
theorem dL_law_788 : decode yL_law.2.1 788 = .ok (.iconst 1, 1) := by decide +kernel
theorem dL_law_789 : decode yL_law.2.1 789 = .ok (.iadd, 1) := by decide +kernel
theorem dL_law_790 : decode yL_law.2.1 790 = .ok (.iaload, 1) := by decide +kernel
theorem dL_law_791 : decode yL_law.2.1 791 = .ok (.aload_n 0, 1) := by decide +kernel
theorem dL_law_792 : decode yL_law.2.1 792 = .ok (.iload_n 3, 1) := by decide +kernel
theorem dL_law_793 : decode yL_law.2.1 793 = .ok (.iconst 2, 1) := by decide +kernel
theorem dL_law_794 : decode yL_law.2.1 794 = .ok (.iadd, 1) := by decide +kernel
theorem dL_law_795 : decode yL_law.2.1 795 = .ok (.iaload, 1) := by decide +kernel
theorem dL_law_796 : decode yL_law.2.1 796 = .ok (.aload_n 0, 1) := by decide +kernel
theorem dL_law_797 : decode yL_law.2.1 797 = .ok (.iload_n 3, 1) := by decide +kernel
theorem dL_law_798 : decode yL_law.2.1 798 = .ok (.iconst 3, 1) := by decide +kernel
theorem dL_law_799 : decode yL_law.2.1 799 = .ok (.iadd, 1) := by decide +kernel
theorem dL_law_800 : decode yL_law.2.1 800 = .ok (.iaload, 1) := by decide +kernel
theorem dL_law_801 : decode yL_law.2.1 801 = .ok (.invokevirtual 78, 3) := by decide +kernel
theorem dL_law_804 : decode yL_law.2.1 804 = .ok (.aload_n 2, 1) := by decide +kernel
theorem dL_law_805 : decode yL_law.2.1 805 = .ok (.aload_n 0, 1) := by decide +kernel
theorem dL_law_806 : decode yL_law.2.1 806 = .ok (.iload_n 3, 1) := by decide +kernel
theorem dL_law_807 : decode yL_law.2.1 807 = .ok (.iconst 1, 1) := by decide +kernel
theorem dL_law_808 : decode yL_law.2.1 808 = .ok (.iadd, 1) := by decide +kernel
theorem dL_law_809 : decode yL_law.2.1 809 = .ok (.iaload, 1) := by decide +kernel
theorem dL_law_810 : decode yL_law.2.1 810 = .ok (.aload_n 0, 1) := by decide +kernel
theorem dL_law_811 : decode yL_law.2.1 811 = .ok (.iload_n 3, 1) := by decide +kernel
theorem dL_law_812 : decode yL_law.2.1 812 = .ok (.iconst 2, 1) := by decide +kernel
theorem dL_law_813 : decode yL_law.2.1 813 = .ok (.iadd, 1) := by decide +kernel
theorem dL_law_814 : decode yL_law.2.1 814 = .ok (.iaload, 1) := by decide +kernel
theorem dL_law_815 : decode yL_law.2.1 815 = .ok (.aload_n 0, 1) := by decide +kernel
theorem dL_law_816 : decode yL_law.2.1 816 = .ok (.iload_n 3, 1) := by decide +kernel
theorem dL_law_817 : decode yL_law.2.1 817 = .ok (.iconst 3, 1) := by decide +kernel
theorem dL_law_818 : decode yL_law.2.1 818 = .ok (.iadd, 1) := by decide +kernel
theorem dL_law_819 : decode yL_law.2.1 819 = .ok (.iaload, 1) := by decide +kernel
theorem dL_law_820 : decode yL_law.2.1 820 = .ok (.invokevirtual 81, 3) := by decide +kernel
theorem dL_law_823 : decode yL_law.2.1 823 = .ok (.if_icmp .eq 1007, 3) := by decide +kernel
theorem dL_law_826 : decode yL_law.2.1 826 = .ok (.iconst 0, 1) := by decide +kernel
theorem dL_law_827 : decode yL_law.2.1 827 = .ok (.ireturn, 1) := by decide +kernel
theorem dL_law_828 : decode yL_law.2.1 828 = .ok (.aload_n 1, 1) := by decide +kernel
theorem dL_law_829 : decode yL_law.2.1 829 = .ok (.aload_n 0, 1) := by decide +kernel
theorem dL_law_830 : decode yL_law.2.1 830 = .ok (.iload_n 3, 1) := by decide +kernel
theorem dL_law_831 : decode yL_law.2.1 831 = .ok (.iconst 1, 1) := by decide +kernel
theorem dL_law_832 : decode yL_law.2.1 832 = .ok (.iadd, 1) := by decide +kernel
theorem dL_law_833 : decode yL_law.2.1 833 = .ok (.iaload, 1) := by decide +kernel
theorem dL_law_834 : decode yL_law.2.1 834 = .ok (.invokevirtual 82, 3) := by decide +kernel
theorem dL_law_837 : decode yL_law.2.1 837 = .ok (.aload_n 2, 1) := by decide +kernel
theorem dL_law_838 : decode yL_law.2.1 838 = .ok (.aload_n 0, 1) := by decide +kernel
theorem dL_law_839 : decode yL_law.2.1 839 = .ok (.iload_n 3, 1) := by decide +kernel
theorem dL_law_840 : decode yL_law.2.1 840 = .ok (.iconst 1, 1) := by decide +kernel
theorem dL_law_841 : decode yL_law.2.1 841 = .ok (.iadd, 1) := by decide +kernel
theorem dL_law_842 : decode yL_law.2.1 842 = .ok (.iaload, 1) := by decide +kernel
theorem dL_law_843 : decode yL_law.2.1 843 = .ok (.invokevirtual 85, 3) := by decide +kernel
theorem dL_law_846 : decode yL_law.2.1 846 = .ok (.if_icmp .eq 984, 3) := by decide +kernel
theorem dL_law_849 : decode yL_law.2.1 849 = .ok (.iconst 0, 1) := by decide +kernel
theorem dL_law_850 : decode yL_law.2.1 850 = .ok (.ireturn, 1) := by decide +kernel
theorem dL_law_851 : decode yL_law.2.1 851 = .ok (.aload_n 1, 1) := by decide +kernel
theorem dL_law_852 : decode yL_law.2.1 852 = .ok (.aload_n 0, 1) := by decide +kernel
theorem dL_law_853 : decode yL_law.2.1 853 = .ok (.iload_n 3, 1) := by decide +kernel
theorem dL_law_854 : decode yL_law.2.1 854 = .ok (.iconst 1, 1) := by decide +kernel
theorem dL_law_855 : decode yL_law.2.1 855 = .ok (.iadd, 1) := by decide +kernel
theorem dL_law_856 : decode yL_law.2.1 856 = .ok (.iaload, 1) := by decide +kernel
theorem dL_law_857 : decode yL_law.2.1 857 = .ok (.invokevirtual 86, 3) := by decide +kernel
theorem dL_law_860 : decode yL_law.2.1 860 = .ok (.aload_n 2, 1) := by decide +kernel
theorem dL_law_861 : decode yL_law.2.1 861 = .ok (.aload_n 0, 1) := by decide +kernel
theorem dL_law_862 : decode yL_law.2.1 862 = .ok (.iload_n 3, 1) := by decide +kernel
theorem dL_law_863 : decode yL_law.2.1 863 = .ok (.iconst 1, 1) := by decide +kernel
theorem dL_law_864 : decode yL_law.2.1 864 = .ok (.iadd, 1) := by decide +kernel
theorem dL_law_865 : decode yL_law.2.1 865 = .ok (.iaload, 1) := by decide +kernel
theorem dL_law_866 : decode yL_law.2.1 866 = .ok (.invokevirtual 89, 3) := by decide +kernel
theorem dL_law_869 : decode yL_law.2.1 869 = .ok (.if_icmp .eq 961, 3) := by decide +kernel
theorem dL_law_872 : decode yL_law.2.1 872 = .ok (.iconst 0, 1) := by decide +kernel
theorem dL_law_873 : decode yL_law.2.1 873 = .ok (.ireturn, 1) := by decide +kernel
theorem dL_law_874 : decode yL_law.2.1 874 = .ok (.aload_n 1, 1) := by decide +kernel
theorem dL_law_875 : decode yL_law.2.1 875 = .ok (.aload_n 0, 1) := by decide +kernel
theorem dL_law_876 : decode yL_law.2.1 876 = .ok (.iload_n 3, 1) := by decide +kernel
theorem dL_law_877 : decode yL_law.2.1 877 = .ok (.iconst 1, 1) := by decide +kernel
theorem dL_law_878 : decode yL_law.2.1 878 = .ok (.iadd, 1) := by decide +kernel
theorem dL_law_879 : decode yL_law.2.1 879 = .ok (.iaload, 1) := by decide +kernel
theorem dL_law_880 : decode yL_law.2.1 880 = .ok (.aload_n 0, 1) := by decide +kernel
theorem dL_law_881 : decode yL_law.2.1 881 = .ok (.iload_n 3, 1) := by decide +kernel
theorem dL_law_882 : decode yL_law.2.1 882 = .ok (.iconst 2, 1) := by decide +kernel
theorem dL_law_883 : decode yL_law.2.1 883 = .ok (.iadd, 1) := by decide +kernel
theorem dL_law_884 : decode yL_law.2.1 884 = .ok (.iaload, 1) := by decide +kernel
theorem dL_law_885 : decode yL_law.2.1 885 = .ok (.invokevirtual 90, 3) := by decide +kernel
theorem dL_law_888 : decode yL_law.2.1 888 = .ok (.aload_n 2, 1) := by decide +kernel
theorem dL_law_889 : decode yL_law.2.1 889 = .ok (.aload_n 0, 1) := by decide +kernel
theorem dL_law_890 : decode yL_law.2.1 890 = .ok (.iload_n 3, 1) := by decide +kernel
theorem dL_law_891 : decode yL_law.2.1 891 = .ok (.iconst 1, 1) := by decide +kernel
theorem dL_law_892 : decode yL_law.2.1 892 = .ok (.iadd, 1) := by decide +kernel
theorem dL_law_893 : decode yL_law.2.1 893 = .ok (.iaload, 1) := by decide +kernel
theorem dL_law_894 : decode yL_law.2.1 894 = .ok (.aload_n 0, 1) := by decide +kernel
theorem dL_law_895 : decode yL_law.2.1 895 = .ok (.iload_n 3, 1) := by decide +kernel
theorem dL_law_896 : decode yL_law.2.1 896 = .ok (.iconst 2, 1) := by decide +kernel
theorem dL_law_897 : decode yL_law.2.1 897 = .ok (.iadd, 1) := by decide +kernel
theorem dL_law_898 : decode yL_law.2.1 898 = .ok (.iaload, 1) := by decide +kernel
theorem dL_law_899 : decode yL_law.2.1 899 = .ok (.invokevirtual 93, 3) := by decide +kernel
theorem dL_law_902 : decode yL_law.2.1 902 = .ok (.if_icmp .eq 928, 3) := by decide +kernel
theorem dL_law_905 : decode yL_law.2.1 905 = .ok (.iconst 0, 1) := by decide +kernel
theorem dL_law_906 : decode yL_law.2.1 906 = .ok (.ireturn, 1) := by decide +kernel
theorem dL_law_907 : decode yL_law.2.1 907 = .ok (.aload_n 1, 1) := by decide +kernel
theorem dL_law_908 : decode yL_law.2.1 908 = .ok (.aload_n 0, 1) := by decide +kernel
theorem dL_law_909 : decode yL_law.2.1 909 = .ok (.iload_n 3, 1) := by decide +kernel
theorem dL_law_910 : decode yL_law.2.1 910 = .ok (.iconst 1, 1) := by decide +kernel
theorem dL_law_911 : decode yL_law.2.1 911 = .ok (.iadd, 1) := by decide +kernel
theorem dL_law_912 : decode yL_law.2.1 912 = .ok (.iaload, 1) := by decide +kernel
theorem dL_law_913 : decode yL_law.2.1 913 = .ok (.invokevirtual 94, 3) := by decide +kernel
theorem dL_law_916 : decode yL_law.2.1 916 = .ok (.aload_n 2, 1) := by decide +kernel
theorem dL_law_917 : decode yL_law.2.1 917 = .ok (.aload_n 0, 1) := by decide +kernel
theorem dL_law_918 : decode yL_law.2.1 918 = .ok (.iload_n 3, 1) := by decide +kernel
theorem dL_law_919 : decode yL_law.2.1 919 = .ok (.iconst 1, 1) := by decide +kernel
theorem dL_law_920 : decode yL_law.2.1 920 = .ok (.iadd, 1) := by decide +kernel
theorem dL_law_921 : decode yL_law.2.1 921 = .ok (.iaload, 1) := by decide +kernel
theorem dL_law_922 : decode yL_law.2.1 922 = .ok (.invokevirtual 97, 3) := by decide +kernel
theorem dL_law_925 : decode yL_law.2.1 925 = .ok (.if_icmp .eq 905, 3) := by decide +kernel
theorem dL_law_928 : decode yL_law.2.1 928 = .ok (.iconst 0, 1) := by decide +kernel
theorem dL_law_929 : decode yL_law.2.1 929 = .ok (.ireturn, 1) := by decide +kernel
theorem dL_law_930 : decode yL_law.2.1 930 = .ok (.aload_n 1, 1) := by decide +kernel
theorem dL_law_931 : decode yL_law.2.1 931 = .ok (.aload_n 0, 1) := by decide +kernel
theorem dL_law_932 : decode yL_law.2.1 932 = .ok (.iload_n 3, 1) := by decide +kernel
theorem dL_law_933 : decode yL_law.2.1 933 = .ok (.iconst 1, 1) := by decide +kernel
theorem dL_law_934 : decode yL_law.2.1 934 = .ok (.iadd, 1) := by decide +kernel
theorem dL_law_935 : decode yL_law.2.1 935 = .ok (.iaload, 1) := by decide +kernel
theorem dL_law_936 : decode yL_law.2.1 936 = .ok (.aload_n 0, 1) := by decide +kernel
theorem dL_law_937 : decode yL_law.2.1 937 = .ok (.iload_n 3, 1) := by decide +kernel
theorem dL_law_938 : decode yL_law.2.1 938 = .ok (.iconst 2, 1) := by decide +kernel
theorem dL_law_939 : decode yL_law.2.1 939 = .ok (.iadd, 1) := by decide +kernel
theorem dL_law_940 : decode yL_law.2.1 940 = .ok (.iaload, 1) := by decide +kernel
theorem dL_law_941 : decode yL_law.2.1 941 = .ok (.invokevirtual 98, 3) := by decide +kernel
theorem dL_law_944 : decode yL_law.2.1 944 = .ok (.aload_n 2, 1) := by decide +kernel
theorem dL_law_945 : decode yL_law.2.1 945 = .ok (.aload_n 0, 1) := by decide +kernel
theorem dL_law_946 : decode yL_law.2.1 946 = .ok (.iload_n 3, 1) := by decide +kernel
theorem dL_law_947 : decode yL_law.2.1 947 = .ok (.iconst 1, 1) := by decide +kernel
theorem dL_law_948 : decode yL_law.2.1 948 = .ok (.iadd, 1) := by decide +kernel
theorem dL_law_949 : decode yL_law.2.1 949 = .ok (.iaload, 1) := by decide +kernel
theorem dL_law_950 : decode yL_law.2.1 950 = .ok (.aload_n 0, 1) := by decide +kernel
theorem dL_law_951 : decode yL_law.2.1 951 = .ok (.iload_n 3, 1) := by decide +kernel
theorem dL_law_952 : decode yL_law.2.1 952 = .ok (.iconst 2, 1) := by decide +kernel
theorem dL_law_953 : decode yL_law.2.1 953 = .ok (.iadd, 1) := by decide +kernel
theorem dL_law_954 : decode yL_law.2.1 954 = .ok (.iaload, 1) := by decide +kernel
theorem dL_law_955 : decode yL_law.2.1 955 = .ok (.invokevirtual 101, 3) := by decide +kernel
theorem dL_law_958 : decode yL_law.2.1 958 = .ok (.if_icmp .eq 872, 3) := by decide +kernel
theorem dL_law_961 : decode yL_law.2.1 961 = .ok (.iconst 0, 1) := by decide +kernel
theorem dL_law_962 : decode yL_law.2.1 962 = .ok (.ireturn, 1) := by decide +kernel
theorem dL_law_963 : decode yL_law.2.1 963 = .ok (.aload_n 1, 1) := by decide +kernel
theorem dL_law_964 : decode yL_law.2.1 964 = .ok (.aload_n 0, 1) := by decide +kernel
theorem dL_law_965 : decode yL_law.2.1 965 = .ok (.iload_n 3, 1) := by decide +kernel
theorem dL_law_966 : decode yL_law.2.1 966 = .ok (.iconst 1, 1) := by decide +kernel
theorem dL_law_967 : decode yL_law.2.1 967 = .ok (.iadd, 1) := by decide +kernel
theorem dL_law_968 : decode yL_law.2.1 968 = .ok (.iaload, 1) := by decide +kernel
theorem dL_law_969 : decode yL_law.2.1 969 = .ok (.aload_n 0, 1) := by decide +kernel
theorem dL_law_970 : decode yL_law.2.1 970 = .ok (.iload_n 3, 1) := by decide +kernel
theorem dL_law_971 : decode yL_law.2.1 971 = .ok (.iconst 2, 1) := by decide +kernel
theorem dL_law_972 : decode yL_law.2.1 972 = .ok (.iadd, 1) := by decide +kernel
theorem dL_law_973 : decode yL_law.2.1 973 = .ok (.iaload, 1) := by decide +kernel
theorem dL_law_974 : decode yL_law.2.1 974 = .ok (.invokevirtual 102, 3) := by decide +kernel
theorem dL_law_977 : decode yL_law.2.1 977 = .ok (.aload_n 2, 1) := by decide +kernel
theorem dL_law_978 : decode yL_law.2.1 978 = .ok (.aload_n 0, 1) := by decide +kernel
theorem dL_law_979 : decode yL_law.2.1 979 = .ok (.iload_n 3, 1) := by decide +kernel
theorem dL_law_980 : decode yL_law.2.1 980 = .ok (.iconst 1, 1) := by decide +kernel
theorem dL_law_981 : decode yL_law.2.1 981 = .ok (.iadd, 1) := by decide +kernel
theorem dL_law_982 : decode yL_law.2.1 982 = .ok (.iaload, 1) := by decide +kernel
theorem dL_law_983 : decode yL_law.2.1 983 = .ok (.aload_n 0, 1) := by decide +kernel
theorem dL_law_984 : decode yL_law.2.1 984 = .ok (.iload_n 3, 1) := by decide +kernel
theorem dL_law_985 : decode yL_law.2.1 985 = .ok (.iconst 2, 1) := by decide +kernel
theorem dL_law_986 : decode yL_law.2.1 986 = .ok (.iadd, 1) := by decide +kernel
theorem dL_law_987 : decode yL_law.2.1 987 = .ok (.iaload, 1) := by decide +kernel
theorem dL_law_988 : decode yL_law.2.1 988 = .ok (.invokevirtual 105, 3) := by decide +kernel
theorem dL_law_991 : decode yL_law.2.1 991 = .ok (.if_icmp .eq 839, 3) := by decide +kernel
theorem dL_law_994 : decode yL_law.2.1 994 = .ok (.iconst 0, 1) := by decide +kernel
theorem dL_law_995 : decode yL_law.2.1 995 = .ok (.ireturn, 1) := by decide +kernel
theorem dL_law_996 : decode yL_law.2.1 996 = .ok (.aload_n 1, 1) := by decide +kernel
theorem dL_law_997 : decode yL_law.2.1 997 = .ok (.aload_n 0, 1) := by decide +kernel
theorem dL_law_998 : decode yL_law.2.1 998 = .ok (.iload_n 3, 1) := by decide +kernel
theorem dL_law_999 : decode yL_law.2.1 999 = .ok (.iconst 1, 1) := by decide +kernel
theorem dL_law_1000 : decode yL_law.2.1 1000 = .ok (.iadd, 1) := by decide +kernel
theorem dL_law_1001 : decode yL_law.2.1 1001 = .ok (.iaload, 1) := by decide +kernel
theorem dL_law_1002 : decode yL_law.2.1 1002 = .ok (.aload_n 0, 1) := by decide +kernel
theorem dL_law_1003 : decode yL_law.2.1 1003 = .ok (.iload_n 3, 1) := by decide +kernel
theorem dL_law_1004 : decode yL_law.2.1 1004 = .ok (.iconst 2, 1) := by decide +kernel
theorem dL_law_1005 : decode yL_law.2.1 1005 = .ok (.iadd, 1) := by decide +kernel
theorem dL_law_1006 : decode yL_law.2.1 1006 = .ok (.iaload, 1) := by decide +kernel
theorem dL_law_1007 : decode yL_law.2.1 1007 = .ok (.aload_n 0, 1) := by decide +kernel
theorem dL_law_1008 : decode yL_law.2.1 1008 = .ok (.iload_n 3, 1) := by decide +kernel
theorem dL_law_1009 : decode yL_law.2.1 1009 = .ok (.iconst 3, 1) := by decide +kernel
theorem dL_law_1010 : decode yL_law.2.1 1010 = .ok (.iadd, 1) := by decide +kernel
theorem dL_law_1011 : decode yL_law.2.1 1011 = .ok (.iaload, 1) := by decide +kernel
theorem dL_law_1012 : decode yL_law.2.1 1012 = .ok (.aload_n 0, 1) := by decide +kernel
theorem dL_law_1013 : decode yL_law.2.1 1013 = .ok (.iload_n 3, 1) := by decide +kernel
theorem dL_law_1014 : decode yL_law.2.1 1014 = .ok (.iconst 4, 1) := by decide +kernel
theorem dL_law_1015 : decode yL_law.2.1 1015 = .ok (.iadd, 1) := by decide +kernel
theorem dL_law_1016 : decode yL_law.2.1 1016 = .ok (.iaload, 1) := by decide +kernel
theorem dL_law_1017 : decode yL_law.2.1 1017 = .ok (.ifCond .eq 7, 3) := by decide +kernel
theorem dL_law_1020 : decode yL_law.2.1 1020 = .ok (.iconst 1, 1) := by decide +kernel
theorem dL_law_1021 : decode yL_law.2.1 1021 = .ok (.goto 4, 3) := by decide +kernel
theorem dL_law_1024 : decode yL_law.2.1 1024 = .ok (.iconst 0, 1) := by decide +kernel
theorem dL_law_1025 : decode yL_law.2.1 1025 = .ok (.invokevirtual 106, 3) := by decide +kernel
theorem dL_law_1028 : decode yL_law.2.1 1028 = .ok (.aload_n 2, 1) := by decide +kernel
theorem dL_law_1029 : decode yL_law.2.1 1029 = .ok (.aload_n 0, 1) := by decide +kernel
theorem dL_law_1030 : decode yL_law.2.1 1030 = .ok (.iload_n 3, 1) := by decide +kernel
theorem dL_law_1031 : decode yL_law.2.1 1031 = .ok (.iconst 1, 1) := by decide +kernel
theorem dL_law_1032 : decode yL_law.2.1 1032 = .ok (.iadd, 1) := by decide +kernel
theorem dL_law_1033 : decode yL_law.2.1 1033 = .ok (.iaload, 1) := by decide +kernel
theorem dL_law_1034 : decode yL_law.2.1 1034 = .ok (.aload_n 0, 1) := by decide +kernel
theorem dL_law_1035 : decode yL_law.2.1 1035 = .ok (.iload_n 3, 1) := by decide +kernel
theorem dL_law_1036 : decode yL_law.2.1 1036 = .ok (.iconst 2, 1) := by decide +kernel
theorem dL_law_1037 : decode yL_law.2.1 1037 = .ok (.iadd, 1) := by decide +kernel
theorem dL_law_1038 : decode yL_law.2.1 1038 = .ok (.iaload, 1) := by decide +kernel
theorem dL_law_1039 : decode yL_law.2.1 1039 = .ok (.aload_n 0, 1) := by decide +kernel
theorem dL_law_1040 : decode yL_law.2.1 1040 = .ok (.iload_n 3, 1) := by decide +kernel
theorem dL_law_1041 : decode yL_law.2.1 1041 = .ok (.iconst 3, 1) := by decide +kernel
theorem dL_law_1042 : decode yL_law.2.1 1042 = .ok (.iadd, 1) := by decide +kernel
theorem dL_law_1043 : decode yL_law.2.1 1043 = .ok (.iaload, 1) := by decide +kernel
theorem dL_law_1044 : decode yL_law.2.1 1044 = .ok (.aload_n 0, 1) := by decide +kernel
theorem dL_law_1045 : decode yL_law.2.1 1045 = .ok (.iload_n 3, 1) := by decide +kernel
theorem dL_law_1046 : decode yL_law.2.1 1046 = .ok (.iconst 4, 1) := by decide +kernel
theorem dL_law_1047 : decode yL_law.2.1 1047 = .ok (.iadd, 1) := by decide +kernel
theorem dL_law_1048 : decode yL_law.2.1 1048 = .ok (.iaload, 1) := by decide +kernel
theorem dL_law_1049 : decode yL_law.2.1 1049 = .ok (.ifCond .eq 7, 3) := by decide +kernel
theorem dL_law_1052 : decode yL_law.2.1 1052 = .ok (.iconst 1, 1) := by decide +kernel
theorem dL_law_1053 : decode yL_law.2.1 1053 = .ok (.goto 4, 3) := by decide +kernel
theorem dL_law_1056 : decode yL_law.2.1 1056 = .ok (.iconst 0, 1) := by decide +kernel
theorem dL_law_1057 : decode yL_law.2.1 1057 = .ok (.invokevirtual 110, 3) := by decide +kernel
theorem dL_law_1060 : decode yL_law.2.1 1060 = .ok (.if_icmp .eq 770, 3) := by decide +kernel
theorem dL_law_1063 : decode yL_law.2.1 1063 = .ok (.iconst 0, 1) := by decide +kernel
theorem dL_law_1064 : decode yL_law.2.1 1064 = .ok (.ireturn, 1) := by decide +kernel
theorem dL_law_1065 : decode yL_law.2.1 1065 = .ok (.aload_n 1, 1) := by decide +kernel
theorem dL_law_1066 : decode yL_law.2.1 1066 = .ok (.aload_n 0, 1) := by decide +kernel
theorem dL_law_1067 : decode yL_law.2.1 1067 = .ok (.iload_n 3, 1) := by decide +kernel
theorem dL_law_1068 : decode yL_law.2.1 1068 = .ok (.iconst 1, 1) := by decide +kernel
theorem dL_law_1069 : decode yL_law.2.1 1069 = .ok (.iadd, 1) := by decide +kernel
theorem dL_law_1070 : decode yL_law.2.1 1070 = .ok (.iaload, 1) := by decide +kernel
theorem dL_law_1071 : decode yL_law.2.1 1071 = .ok (.aload_n 0, 1) := by decide +kernel
theorem dL_law_1072 : decode yL_law.2.1 1072 = .ok (.iload_n 3, 1) := by decide +kernel
theorem dL_law_1073 : decode yL_law.2.1 1073 = .ok (.iconst 2, 1) := by decide +kernel
theorem dL_law_1074 : decode yL_law.2.1 1074 = .ok (.iadd, 1) := by decide +kernel
theorem dL_law_1075 : decode yL_law.2.1 1075 = .ok (.iaload, 1) := by decide +kernel
theorem dL_law_1076 : decode yL_law.2.1 1076 = .ok (.aload_n 0, 1) := by decide +kernel
theorem dL_law_1077 : decode yL_law.2.1 1077 = .ok (.iload_n 3, 1) := by decide +kernel
theorem dL_law_1078 : decode yL_law.2.1 1078 = .ok (.iconst 3, 1) := by decide +kernel
theorem dL_law_1079 : decode yL_law.2.1 1079 = .ok (.iadd, 1) := by decide +kernel
theorem dL_law_1080 : decode yL_law.2.1 1080 = .ok (.iaload, 1) := by decide +kernel
theorem dL_law_1081 : decode yL_law.2.1 1081 = .ok (.ifCond .eq 7, 3) := by decide +kernel
theorem dL_law_1084 : decode yL_law.2.1 1084 = .ok (.iconst 1, 1) := by decide +kernel
theorem dL_law_1085 : decode yL_law.2.1 1085 = .ok (.goto 4, 3) := by decide +kernel
theorem dL_law_1088 : decode yL_law.2.1 1088 = .ok (.iconst 0, 1) := by decide +kernel
theorem dL_law_1089 : decode yL_law.2.1 1089 = .ok (.invokevirtual 111, 3) := by decide +kernel
theorem dL_law_1092 : decode yL_law.2.1 1092 = .ok (.aload_n 2, 1) := by decide +kernel
theorem dL_law_1093 : decode yL_law.2.1 1093 = .ok (.aload_n 0, 1) := by decide +kernel
theorem dL_law_1094 : decode yL_law.2.1 1094 = .ok (.iload_n 3, 1) := by decide +kernel
theorem dL_law_1095 : decode yL_law.2.1 1095 = .ok (.iconst 1, 1) := by decide +kernel
theorem dL_law_1096 : decode yL_law.2.1 1096 = .ok (.iadd, 1) := by decide +kernel
theorem dL_law_1097 : decode yL_law.2.1 1097 = .ok (.iaload, 1) := by decide +kernel
theorem dL_law_1098 : decode yL_law.2.1 1098 = .ok (.aload_n 0, 1) := by decide +kernel
theorem dL_law_1099 : decode yL_law.2.1 1099 = .ok (.iload_n 3, 1) := by decide +kernel
theorem dL_law_1100 : decode yL_law.2.1 1100 = .ok (.iconst 2, 1) := by decide +kernel
theorem dL_law_1101 : decode yL_law.2.1 1101 = .ok (.iadd, 1) := by decide +kernel
theorem dL_law_1102 : decode yL_law.2.1 1102 = .ok (.iaload, 1) := by decide +kernel
theorem dL_law_1103 : decode yL_law.2.1 1103 = .ok (.aload_n 0, 1) := by decide +kernel
theorem dL_law_1104 : decode yL_law.2.1 1104 = .ok (.iload_n 3, 1) := by decide +kernel
theorem dL_law_1105 : decode yL_law.2.1 1105 = .ok (.iconst 3, 1) := by decide +kernel
theorem dL_law_1106 : decode yL_law.2.1 1106 = .ok (.iadd, 1) := by decide +kernel
theorem dL_law_1107 : decode yL_law.2.1 1107 = .ok (.iaload, 1) := by decide +kernel
theorem dL_law_1108 : decode yL_law.2.1 1108 = .ok (.ifCond .eq 7, 3) := by decide +kernel
theorem dL_law_1111 : decode yL_law.2.1 1111 = .ok (.iconst 1, 1) := by decide +kernel
theorem dL_law_1112 : decode yL_law.2.1 1112 = .ok (.goto 4, 3) := by decide +kernel
theorem dL_law_1115 : decode yL_law.2.1 1115 = .ok (.iconst 0, 1) := by decide +kernel
theorem dL_law_1116 : decode yL_law.2.1 1116 = .ok (.invokevirtual 115, 3) := by decide +kernel
theorem dL_law_1119 : decode yL_law.2.1 1119 = .ok (.if_icmp .eq 711, 3) := by decide +kernel
theorem dL_law_1122 : decode yL_law.2.1 1122 = .ok (.iconst 0, 1) := by decide +kernel
theorem dL_law_1123 : decode yL_law.2.1 1123 = .ok (.ireturn, 1) := by decide +kernel
theorem dL_law_1124 : decode yL_law.2.1 1124 = .ok (.aload_n 1, 1) := by decide +kernel
theorem dL_law_1125 : decode yL_law.2.1 1125 = .ok (.aload_n 0, 1) := by decide +kernel
theorem dL_law_1126 : decode yL_law.2.1 1126 = .ok (.iload_n 3, 1) := by decide +kernel
theorem dL_law_1127 : decode yL_law.2.1 1127 = .ok (.iconst 1, 1) := by decide +kernel
theorem dL_law_1128 : decode yL_law.2.1 1128 = .ok (.iadd, 1) := by decide +kernel
theorem dL_law_1129 : decode yL_law.2.1 1129 = .ok (.iaload, 1) := by decide +kernel
theorem dL_law_1130 : decode yL_law.2.1 1130 = .ok (.aload_n 0, 1) := by decide +kernel
theorem dL_law_1131 : decode yL_law.2.1 1131 = .ok (.iload_n 3, 1) := by decide +kernel
theorem dL_law_1132 : decode yL_law.2.1 1132 = .ok (.iconst 2, 1) := by decide +kernel
theorem dL_law_1133 : decode yL_law.2.1 1133 = .ok (.iadd, 1) := by decide +kernel
theorem dL_law_1134 : decode yL_law.2.1 1134 = .ok (.iaload, 1) := by decide +kernel
theorem dL_law_1135 : decode yL_law.2.1 1135 = .ok (.aload_n 0, 1) := by decide +kernel
theorem dL_law_1136 : decode yL_law.2.1 1136 = .ok (.iload_n 3, 1) := by decide +kernel
theorem dL_law_1137 : decode yL_law.2.1 1137 = .ok (.iconst 3, 1) := by decide +kernel
theorem dL_law_1138 : decode yL_law.2.1 1138 = .ok (.iadd, 1) := by decide +kernel
theorem dL_law_1139 : decode yL_law.2.1 1139 = .ok (.iaload, 1) := by decide +kernel
theorem dL_law_1140 : decode yL_law.2.1 1140 = .ok (.invokevirtual 116, 3) := by decide +kernel
theorem dL_law_1143 : decode yL_law.2.1 1143 = .ok (.aload_n 2, 1) := by decide +kernel
theorem dL_law_1144 : decode yL_law.2.1 1144 = .ok (.aload_n 0, 1) := by decide +kernel
theorem dL_law_1145 : decode yL_law.2.1 1145 = .ok (.iload_n 3, 1) := by decide +kernel
theorem dL_law_1146 : decode yL_law.2.1 1146 = .ok (.iconst 1, 1) := by decide +kernel
theorem dL_law_1147 : decode yL_law.2.1 1147 = .ok (.iadd, 1) := by decide +kernel
theorem dL_law_1148 : decode yL_law.2.1 1148 = .ok (.iaload, 1) := by decide +kernel
theorem dL_law_1149 : decode yL_law.2.1 1149 = .ok (.aload_n 0, 1) := by decide +kernel
theorem dL_law_1150 : decode yL_law.2.1 1150 = .ok (.iload_n 3, 1) := by decide +kernel
theorem dL_law_1151 : decode yL_law.2.1 1151 = .ok (.iconst 2, 1) := by decide +kernel
theorem dL_law_1152 : decode yL_law.2.1 1152 = .ok (.iadd, 1) := by decide +kernel
theorem dL_law_1153 : decode yL_law.2.1 1153 = .ok (.iaload, 1) := by decide +kernel
theorem dL_law_1154 : decode yL_law.2.1 1154 = .ok (.aload_n 0, 1) := by decide +kernel
theorem dL_law_1155 : decode yL_law.2.1 1155 = .ok (.iload_n 3, 1) := by decide +kernel
theorem dL_law_1156 : decode yL_law.2.1 1156 = .ok (.iconst 3, 1) := by decide +kernel
theorem dL_law_1157 : decode yL_law.2.1 1157 = .ok (.iadd, 1) := by decide +kernel
theorem dL_law_1158 : decode yL_law.2.1 1158 = .ok (.iaload, 1) := by decide +kernel
theorem dL_law_1159 : decode yL_law.2.1 1159 = .ok (.invokevirtual 119, 3) := by decide +kernel
theorem dL_law_1162 : decode yL_law.2.1 1162 = .ok (.if_icmp .eq 668, 3) := by decide +kernel
theorem dL_law_1165 : decode yL_law.2.1 1165 = .ok (.iconst 0, 1) := by decide +kernel
theorem dL_law_1166 : decode yL_law.2.1 1166 = .ok (.ireturn, 1) := by decide +kernel
theorem dL_law_1167 : decode yL_law.2.1 1167 = .ok (.aload_n 1, 1) := by decide +kernel
theorem dL_law_1168 : decode yL_law.2.1 1168 = .ok (.aload_n 0, 1) := by decide +kernel
theorem dL_law_1169 : decode yL_law.2.1 1169 = .ok (.iload_n 3, 1) := by decide +kernel
theorem dL_law_1170 : decode yL_law.2.1 1170 = .ok (.iconst 1, 1) := by decide +kernel
theorem dL_law_1171 : decode yL_law.2.1 1171 = .ok (.iadd, 1) := by decide +kernel
theorem dL_law_1172 : decode yL_law.2.1 1172 = .ok (.iaload, 1) := by decide +kernel
theorem dL_law_1173 : decode yL_law.2.1 1173 = .ok (.aload_n 0, 1) := by decide +kernel
theorem dL_law_1174 : decode yL_law.2.1 1174 = .ok (.iload_n 3, 1) := by decide +kernel
theorem dL_law_1175 : decode yL_law.2.1 1175 = .ok (.iconst 2, 1) := by decide +kernel
theorem dL_law_1176 : decode yL_law.2.1 1176 = .ok (.iadd, 1) := by decide +kernel
theorem dL_law_1177 : decode yL_law.2.1 1177 = .ok (.iaload, 1) := by decide +kernel
theorem dL_law_1178 : decode yL_law.2.1 1178 = .ok (.invokevirtual 120, 3) := by decide +kernel
theorem dL_law_1181 : decode yL_law.2.1 1181 = .ok (.aload_n 2, 1) := by decide +kernel
theorem dL_law_1182 : decode yL_law.2.1 1182 = .ok (.aload_n 0, 1) := by decide +kernel
theorem dL_law_1183 : decode yL_law.2.1 1183 = .ok (.iload_n 3, 1) := by decide +kernel
theorem dL_law_1184 : decode yL_law.2.1 1184 = .ok (.iconst 1, 1) := by decide +kernel
theorem dL_law_1185 : decode yL_law.2.1 1185 = .ok (.iadd, 1) := by decide +kernel
theorem dL_law_1186 : decode yL_law.2.1 1186 = .ok (.iaload, 1) := by decide +kernel
theorem dL_law_1187 : decode yL_law.2.1 1187 = .ok (.aload_n 0, 1) := by decide +kernel
theorem dL_law_1188 : decode yL_law.2.1 1188 = .ok (.iload_n 3, 1) := by decide +kernel
theorem dL_law_1189 : decode yL_law.2.1 1189 = .ok (.iconst 2, 1) := by decide +kernel
theorem dL_law_1190 : decode yL_law.2.1 1190 = .ok (.iadd, 1) := by decide +kernel
theorem dL_law_1191 : decode yL_law.2.1 1191 = .ok (.iaload, 1) := by decide +kernel
theorem dL_law_1192 : decode yL_law.2.1 1192 = .ok (.invokevirtual 123, 3) := by decide +kernel
theorem dL_law_1195 : decode yL_law.2.1 1195 = .ok (.if_icmp .eq 635, 3) := by decide +kernel
theorem dL_law_1198 : decode yL_law.2.1 1198 = .ok (.iconst 0, 1) := by decide +kernel
theorem dL_law_1199 : decode yL_law.2.1 1199 = .ok (.ireturn, 1) := by decide +kernel
theorem dL_law_1200 : decode yL_law.2.1 1200 = .ok (.aload_n 1, 1) := by decide +kernel
theorem dL_law_1201 : decode yL_law.2.1 1201 = .ok (.aload_n 0, 1) := by decide +kernel
theorem dL_law_1202 : decode yL_law.2.1 1202 = .ok (.iload_n 3, 1) := by decide +kernel
theorem dL_law_1203 : decode yL_law.2.1 1203 = .ok (.iconst 1, 1) := by decide +kernel
theorem dL_law_1204 : decode yL_law.2.1 1204 = .ok (.iadd, 1) := by decide +kernel
theorem dL_law_1205 : decode yL_law.2.1 1205 = .ok (.iaload, 1) := by decide +kernel
theorem dL_law_1206 : decode yL_law.2.1 1206 = .ok (.aload_n 0, 1) := by decide +kernel
theorem dL_law_1207 : decode yL_law.2.1 1207 = .ok (.iload_n 3, 1) := by decide +kernel
theorem dL_law_1208 : decode yL_law.2.1 1208 = .ok (.iconst 2, 1) := by decide +kernel
theorem dL_law_1209 : decode yL_law.2.1 1209 = .ok (.iadd, 1) := by decide +kernel
theorem dL_law_1210 : decode yL_law.2.1 1210 = .ok (.iaload, 1) := by decide +kernel
theorem dL_law_1211 : decode yL_law.2.1 1211 = .ok (.invokevirtual 124, 3) := by decide +kernel
theorem dL_law_1214 : decode yL_law.2.1 1214 = .ok (.aload_n 2, 1) := by decide +kernel
theorem dL_law_1215 : decode yL_law.2.1 1215 = .ok (.aload_n 0, 1) := by decide +kernel
theorem dL_law_1216 : decode yL_law.2.1 1216 = .ok (.iload_n 3, 1) := by decide +kernel
theorem dL_law_1217 : decode yL_law.2.1 1217 = .ok (.iconst 1, 1) := by decide +kernel
theorem dL_law_1218 : decode yL_law.2.1 1218 = .ok (.iadd, 1) := by decide +kernel
theorem dL_law_1219 : decode yL_law.2.1 1219 = .ok (.iaload, 1) := by decide +kernel
theorem dL_law_1220 : decode yL_law.2.1 1220 = .ok (.aload_n 0, 1) := by decide +kernel
theorem dL_law_1221 : decode yL_law.2.1 1221 = .ok (.iload_n 3, 1) := by decide +kernel
theorem dL_law_1222 : decode yL_law.2.1 1222 = .ok (.iconst 2, 1) := by decide +kernel
theorem dL_law_1223 : decode yL_law.2.1 1223 = .ok (.iadd, 1) := by decide +kernel
theorem dL_law_1224 : decode yL_law.2.1 1224 = .ok (.iaload, 1) := by decide +kernel
theorem dL_law_1225 : decode yL_law.2.1 1225 = .ok (.invokevirtual 127, 3) := by decide +kernel
theorem dL_law_1228 : decode yL_law.2.1 1228 = .ok (.if_icmp .eq 602, 3) := by decide +kernel
theorem dL_law_1231 : decode yL_law.2.1 1231 = .ok (.iconst 0, 1) := by decide +kernel
theorem dL_law_1232 : decode yL_law.2.1 1232 = .ok (.ireturn, 1) := by decide +kernel
theorem dL_law_1233 : decode yL_law.2.1 1233 = .ok (.aload_n 1, 1) := by decide +kernel
theorem dL_law_1234 : decode yL_law.2.1 1234 = .ok (.aload_n 0, 1) := by decide +kernel
theorem dL_law_1235 : decode yL_law.2.1 1235 = .ok (.iload_n 3, 1) := by decide +kernel
theorem dL_law_1236 : decode yL_law.2.1 1236 = .ok (.iconst 1, 1) := by decide +kernel
theorem dL_law_1237 : decode yL_law.2.1 1237 = .ok (.iadd, 1) := by decide +kernel
theorem dL_law_1238 : decode yL_law.2.1 1238 = .ok (.iaload, 1) := by decide +kernel
theorem dL_law_1239 : decode yL_law.2.1 1239 = .ok (.aload_n 0, 1) := by decide +kernel
theorem dL_law_1240 : decode yL_law.2.1 1240 = .ok (.iload_n 3, 1) := by decide +kernel
theorem dL_law_1241 : decode yL_law.2.1 1241 = .ok (.iconst 2, 1) := by decide +kernel
theorem dL_law_1242 : decode yL_law.2.1 1242 = .ok (.iadd, 1) := by decide +kernel
theorem dL_law_1243 : decode yL_law.2.1 1243 = .ok (.iaload, 1) := by decide +kernel
theorem dL_law_1244 : decode yL_law.2.1 1244 = .ok (.invokevirtual 128, 3) := by decide +kernel
theorem dL_law_1247 : decode yL_law.2.1 1247 = .ok (.aload_n 2, 1) := by decide +kernel
theorem dL_law_1248 : decode yL_law.2.1 1248 = .ok (.aload_n 0, 1) := by decide +kernel
theorem dL_law_1249 : decode yL_law.2.1 1249 = .ok (.iload_n 3, 1) := by decide +kernel
theorem dL_law_1250 : decode yL_law.2.1 1250 = .ok (.iconst 1, 1) := by decide +kernel
theorem dL_law_1251 : decode yL_law.2.1 1251 = .ok (.iadd, 1) := by decide +kernel
theorem dL_law_1252 : decode yL_law.2.1 1252 = .ok (.iaload, 1) := by decide +kernel
theorem dL_law_1253 : decode yL_law.2.1 1253 = .ok (.aload_n 0, 1) := by decide +kernel
theorem dL_law_1254 : decode yL_law.2.1 1254 = .ok (.iload_n 3, 1) := by decide +kernel
theorem dL_law_1255 : decode yL_law.2.1 1255 = .ok (.iconst 2, 1) := by decide +kernel
theorem dL_law_1256 : decode yL_law.2.1 1256 = .ok (.iadd, 1) := by decide +kernel
theorem dL_law_1257 : decode yL_law.2.1 1257 = .ok (.iaload, 1) := by decide +kernel
theorem dL_law_1258 : decode yL_law.2.1 1258 = .ok (.invokevirtual 131, 3) := by decide +kernel
theorem dL_law_1261 : decode yL_law.2.1 1261 = .ok (.if_icmp .eq 569, 3) := by decide +kernel
theorem dL_law_1264 : decode yL_law.2.1 1264 = .ok (.iconst 0, 1) := by decide +kernel
theorem dL_law_1265 : decode yL_law.2.1 1265 = .ok (.ireturn, 1) := by decide +kernel
theorem dL_law_1266 : decode yL_law.2.1 1266 = .ok (.aload_n 1, 1) := by decide +kernel
theorem dL_law_1267 : decode yL_law.2.1 1267 = .ok (.aload_n 0, 1) := by decide +kernel
theorem dL_law_1268 : decode yL_law.2.1 1268 = .ok (.iload_n 3, 1) := by decide +kernel
theorem dL_law_1269 : decode yL_law.2.1 1269 = .ok (.iconst 1, 1) := by decide +kernel
theorem dL_law_1270 : decode yL_law.2.1 1270 = .ok (.iadd, 1) := by decide +kernel
theorem dL_law_1271 : decode yL_law.2.1 1271 = .ok (.iaload, 1) := by decide +kernel
theorem dL_law_1272 : decode yL_law.2.1 1272 = .ok (.aload_n 0, 1) := by decide +kernel
theorem dL_law_1273 : decode yL_law.2.1 1273 = .ok (.iload_n 3, 1) := by decide +kernel
theorem dL_law_1274 : decode yL_law.2.1 1274 = .ok (.iconst 2, 1) := by decide +kernel
theorem dL_law_1275 : decode yL_law.2.1 1275 = .ok (.iadd, 1) := by decide +kernel
theorem dL_law_1276 : decode yL_law.2.1 1276 = .ok (.iaload, 1) := by decide +kernel
theorem dL_law_1277 : decode yL_law.2.1 1277 = .ok (.aload_n 0, 1) := by decide +kernel
theorem dL_law_1278 : decode yL_law.2.1 1278 = .ok (.iload_n 3, 1) := by decide +kernel
theorem dL_law_1279 : decode yL_law.2.1 1279 = .ok (.iconst 3, 1) := by decide +kernel
theorem dL_law_1280 : decode yL_law.2.1 1280 = .ok (.iadd, 1) := by decide +kernel
theorem dL_law_1281 : decode yL_law.2.1 1281 = .ok (.iaload, 1) := by decide +kernel
theorem dL_law_1282 : decode yL_law.2.1 1282 = .ok (.aload_n 0, 1) := by decide +kernel
theorem dL_law_1283 : decode yL_law.2.1 1283 = .ok (.iload_n 3, 1) := by decide +kernel
theorem dL_law_1284 : decode yL_law.2.1 1284 = .ok (.iconst 4, 1) := by decide +kernel
theorem dL_law_1285 : decode yL_law.2.1 1285 = .ok (.iadd, 1) := by decide +kernel
theorem dL_law_1286 : decode yL_law.2.1 1286 = .ok (.iaload, 1) := by decide +kernel
theorem dL_law_1287 : decode yL_law.2.1 1287 = .ok (.invokevirtual 132, 3) := by decide +kernel
theorem dL_law_1290 : decode yL_law.2.1 1290 = .ok (.aload_n 2, 1) := by decide +kernel
theorem dL_law_1291 : decode yL_law.2.1 1291 = .ok (.aload_n 0, 1) := by decide +kernel
theorem dL_law_1292 : decode yL_law.2.1 1292 = .ok (.iload_n 3, 1) := by decide +kernel
theorem dL_law_1293 : decode yL_law.2.1 1293 = .ok (.iconst 1, 1) := by decide +kernel
theorem dL_law_1294 : decode yL_law.2.1 1294 = .ok (.iadd, 1) := by decide +kernel
theorem dL_law_1295 : decode yL_law.2.1 1295 = .ok (.iaload, 1) := by decide +kernel
theorem dL_law_1296 : decode yL_law.2.1 1296 = .ok (.aload_n 0, 1) := by decide +kernel
theorem dL_law_1297 : decode yL_law.2.1 1297 = .ok (.iload_n 3, 1) := by decide +kernel
theorem dL_law_1298 : decode yL_law.2.1 1298 = .ok (.iconst 2, 1) := by decide +kernel
theorem dL_law_1299 : decode yL_law.2.1 1299 = .ok (.iadd, 1) := by decide +kernel
theorem dL_law_1300 : decode yL_law.2.1 1300 = .ok (.iaload, 1) := by decide +kernel
theorem dL_law_1301 : decode yL_law.2.1 1301 = .ok (.aload_n 0, 1) := by decide +kernel
theorem dL_law_1302 : decode yL_law.2.1 1302 = .ok (.iload_n 3, 1) := by decide +kernel
theorem dL_law_1303 : decode yL_law.2.1 1303 = .ok (.iconst 3, 1) := by decide +kernel
theorem dL_law_1304 : decode yL_law.2.1 1304 = .ok (.iadd, 1) := by decide +kernel
theorem dL_law_1305 : decode yL_law.2.1 1305 = .ok (.iaload, 1) := by decide +kernel
theorem dL_law_1306 : decode yL_law.2.1 1306 = .ok (.aload_n 0, 1) := by decide +kernel
theorem dL_law_1307 : decode yL_law.2.1 1307 = .ok (.iload_n 3, 1) := by decide +kernel
theorem dL_law_1308 : decode yL_law.2.1 1308 = .ok (.iconst 4, 1) := by decide +kernel
theorem dL_law_1309 : decode yL_law.2.1 1309 = .ok (.iadd, 1) := by decide +kernel
theorem dL_law_1310 : decode yL_law.2.1 1310 = .ok (.iaload, 1) := by decide +kernel
theorem dL_law_1311 : decode yL_law.2.1 1311 = .ok (.invokevirtual 135, 3) := by decide +kernel
theorem dL_law_1314 : decode yL_law.2.1 1314 = .ok (.if_icmp .eq 516, 3) := by decide +kernel
theorem dL_law_1317 : decode yL_law.2.1 1317 = .ok (.iconst 0, 1) := by decide +kernel
theorem dL_law_1318 : decode yL_law.2.1 1318 = .ok (.ireturn, 1) := by decide +kernel
theorem dL_law_1319 : decode yL_law.2.1 1319 = .ok (.aload_n 1, 1) := by decide +kernel
theorem dL_law_1320 : decode yL_law.2.1 1320 = .ok (.aload_n 0, 1) := by decide +kernel
theorem dL_law_1321 : decode yL_law.2.1 1321 = .ok (.iload_n 3, 1) := by decide +kernel
theorem dL_law_1322 : decode yL_law.2.1 1322 = .ok (.iconst 1, 1) := by decide +kernel
theorem dL_law_1323 : decode yL_law.2.1 1323 = .ok (.iadd, 1) := by decide +kernel
theorem dL_law_1324 : decode yL_law.2.1 1324 = .ok (.iaload, 1) := by decide +kernel
theorem dL_law_1325 : decode yL_law.2.1 1325 = .ok (.invokevirtual 136, 3) := by decide +kernel
theorem dL_law_1328 : decode yL_law.2.1 1328 = .ok (.aload_n 2, 1) := by decide +kernel
theorem dL_law_1329 : decode yL_law.2.1 1329 = .ok (.aload_n 0, 1) := by decide +kernel
theorem dL_law_1330 : decode yL_law.2.1 1330 = .ok (.iload_n 3, 1) := by decide +kernel
theorem dL_law_1331 : decode yL_law.2.1 1331 = .ok (.iconst 1, 1) := by decide +kernel
theorem dL_law_1332 : decode yL_law.2.1 1332 = .ok (.iadd, 1) := by decide +kernel
theorem dL_law_1333 : decode yL_law.2.1 1333 = .ok (.iaload, 1) := by decide +kernel
theorem dL_law_1334 : decode yL_law.2.1 1334 = .ok (.invokevirtual 139, 3) := by decide +kernel
theorem dL_law_1337 : decode yL_law.2.1 1337 = .ok (.if_icmp .eq 493, 3) := by decide +kernel
theorem dL_law_1340 : decode yL_law.2.1 1340 = .ok (.iconst 0, 1) := by decide +kernel
theorem dL_law_1341 : decode yL_law.2.1 1341 = .ok (.ireturn, 1) := by decide +kernel
theorem dL_law_1342 : decode yL_law.2.1 1342 = .ok (.aload_n 1, 1) := by decide +kernel
theorem dL_law_1343 : decode yL_law.2.1 1343 = .ok (.aload_n 0, 1) := by decide +kernel
theorem dL_law_1344 : decode yL_law.2.1 1344 = .ok (.iload_n 3, 1) := by decide +kernel
theorem dL_law_1345 : decode yL_law.2.1 1345 = .ok (.iconst 1, 1) := by decide +kernel
theorem dL_law_1346 : decode yL_law.2.1 1346 = .ok (.iadd, 1) := by decide +kernel
theorem dL_law_1347 : decode yL_law.2.1 1347 = .ok (.iaload, 1) := by decide +kernel
theorem dL_law_1348 : decode yL_law.2.1 1348 = .ok (.aload_n 0, 1) := by decide +kernel
theorem dL_law_1349 : decode yL_law.2.1 1349 = .ok (.iload_n 3, 1) := by decide +kernel
theorem dL_law_1350 : decode yL_law.2.1 1350 = .ok (.iconst 2, 1) := by decide +kernel
theorem dL_law_1351 : decode yL_law.2.1 1351 = .ok (.iadd, 1) := by decide +kernel
theorem dL_law_1352 : decode yL_law.2.1 1352 = .ok (.iaload, 1) := by decide +kernel
theorem dL_law_1353 : decode yL_law.2.1 1353 = .ok (.invokevirtual 140, 3) := by decide +kernel
theorem dL_law_1356 : decode yL_law.2.1 1356 = .ok (.aload_n 2, 1) := by decide +kernel
theorem dL_law_1357 : decode yL_law.2.1 1357 = .ok (.aload_n 0, 1) := by decide +kernel
theorem dL_law_1358 : decode yL_law.2.1 1358 = .ok (.iload_n 3, 1) := by decide +kernel
theorem dL_law_1359 : decode yL_law.2.1 1359 = .ok (.iconst 1, 1) := by decide +kernel
theorem dL_law_1360 : decode yL_law.2.1 1360 = .ok (.iadd, 1) := by decide +kernel
theorem dL_law_1361 : decode yL_law.2.1 1361 = .ok (.iaload, 1) := by decide +kernel
theorem dL_law_1362 : decode yL_law.2.1 1362 = .ok (.aload_n 0, 1) := by decide +kernel
theorem dL_law_1363 : decode yL_law.2.1 1363 = .ok (.iload_n 3, 1) := by decide +kernel
theorem dL_law_1364 : decode yL_law.2.1 1364 = .ok (.iconst 2, 1) := by decide +kernel
theorem dL_law_1365 : decode yL_law.2.1 1365 = .ok (.iadd, 1) := by decide +kernel
theorem dL_law_1366 : decode yL_law.2.1 1366 = .ok (.iaload, 1) := by decide +kernel
theorem dL_law_1367 : decode yL_law.2.1 1367 = .ok (.invokevirtual 143, 3) := by decide +kernel
theorem dL_law_1370 : decode yL_law.2.1 1370 = .ok (.if_icmp .eq 460, 3) := by decide +kernel
theorem dL_law_1373 : decode yL_law.2.1 1373 = .ok (.iconst 0, 1) := by decide +kernel
theorem dL_law_1374 : decode yL_law.2.1 1374 = .ok (.ireturn, 1) := by decide +kernel
theorem dL_law_1375 : decode yL_law.2.1 1375 = .ok (.aload_n 1, 1) := by decide +kernel
theorem dL_law_1376 : decode yL_law.2.1 1376 = .ok (.aload_n 0, 1) := by decide +kernel
theorem dL_law_1377 : decode yL_law.2.1 1377 = .ok (.iload_n 3, 1) := by decide +kernel
theorem dL_law_1378 : decode yL_law.2.1 1378 = .ok (.iconst 1, 1) := by decide +kernel
theorem dL_law_1379 : decode yL_law.2.1 1379 = .ok (.iadd, 1) := by decide +kernel
theorem dL_law_1380 : decode yL_law.2.1 1380 = .ok (.iaload, 1) := by decide +kernel
theorem dL_law_1381 : decode yL_law.2.1 1381 = .ok (.aload_n 0, 1) := by decide +kernel
theorem dL_law_1382 : decode yL_law.2.1 1382 = .ok (.iload_n 3, 1) := by decide +kernel
theorem dL_law_1383 : decode yL_law.2.1 1383 = .ok (.iconst 2, 1) := by decide +kernel
theorem dL_law_1384 : decode yL_law.2.1 1384 = .ok (.iadd, 1) := by decide +kernel
theorem dL_law_1385 : decode yL_law.2.1 1385 = .ok (.iaload, 1) := by decide +kernel
theorem dL_law_1386 : decode yL_law.2.1 1386 = .ok (.invokevirtual 144, 3) := by decide +kernel
theorem dL_law_1389 : decode yL_law.2.1 1389 = .ok (.aload_n 2, 1) := by decide +kernel
theorem dL_law_1390 : decode yL_law.2.1 1390 = .ok (.aload_n 0, 1) := by decide +kernel
theorem dL_law_1391 : decode yL_law.2.1 1391 = .ok (.iload_n 3, 1) := by decide +kernel
theorem dL_law_1392 : decode yL_law.2.1 1392 = .ok (.iconst 1, 1) := by decide +kernel
theorem dL_law_1393 : decode yL_law.2.1 1393 = .ok (.iadd, 1) := by decide +kernel
theorem dL_law_1394 : decode yL_law.2.1 1394 = .ok (.iaload, 1) := by decide +kernel
theorem dL_law_1395 : decode yL_law.2.1 1395 = .ok (.aload_n 0, 1) := by decide +kernel
theorem dL_law_1396 : decode yL_law.2.1 1396 = .ok (.iload_n 3, 1) := by decide +kernel
theorem dL_law_1397 : decode yL_law.2.1 1397 = .ok (.iconst 2, 1) := by decide +kernel
theorem dL_law_1398 : decode yL_law.2.1 1398 = .ok (.iadd, 1) := by decide +kernel
theorem dL_law_1399 : decode yL_law.2.1 1399 = .ok (.iaload, 1) := by decide +kernel
theorem dL_law_1400 : decode yL_law.2.1 1400 = .ok (.invokevirtual 147, 3) := by decide +kernel
theorem dL_law_1403 : decode yL_law.2.1 1403 = .ok (.if_icmp .eq 427, 3) := by decide +kernel
theorem dL_law_1406 : decode yL_law.2.1 1406 = .ok (.iconst 0, 1) := by decide +kernel
theorem dL_law_1407 : decode yL_law.2.1 1407 = .ok (.ireturn, 1) := by decide +kernel
theorem dL_law_1408 : decode yL_law.2.1 1408 = .ok (.aload_n 1, 1) := by decide +kernel
theorem dL_law_1409 : decode yL_law.2.1 1409 = .ok (.aload_n 0, 1) := by decide +kernel
theorem dL_law_1410 : decode yL_law.2.1 1410 = .ok (.iload_n 3, 1) := by decide +kernel
theorem dL_law_1411 : decode yL_law.2.1 1411 = .ok (.iconst 1, 1) := by decide +kernel
theorem dL_law_1412 : decode yL_law.2.1 1412 = .ok (.iadd, 1) := by decide +kernel
theorem dL_law_1413 : decode yL_law.2.1 1413 = .ok (.iaload, 1) := by decide +kernel
theorem dL_law_1414 : decode yL_law.2.1 1414 = .ok (.aload_n 0, 1) := by decide +kernel
theorem dL_law_1415 : decode yL_law.2.1 1415 = .ok (.iload_n 3, 1) := by decide +kernel
theorem dL_law_1416 : decode yL_law.2.1 1416 = .ok (.iconst 2, 1) := by decide +kernel
theorem dL_law_1417 : decode yL_law.2.1 1417 = .ok (.iadd, 1) := by decide +kernel
theorem dL_law_1418 : decode yL_law.2.1 1418 = .ok (.iaload, 1) := by decide +kernel
theorem dL_law_1419 : decode yL_law.2.1 1419 = .ok (.aload_n 0, 1) := by decide +kernel
theorem dL_law_1420 : decode yL_law.2.1 1420 = .ok (.iload_n 3, 1) := by decide +kernel
theorem dL_law_1421 : decode yL_law.2.1 1421 = .ok (.iconst 3, 1) := by decide +kernel
theorem dL_law_1422 : decode yL_law.2.1 1422 = .ok (.iadd, 1) := by decide +kernel
theorem dL_law_1423 : decode yL_law.2.1 1423 = .ok (.iaload, 1) := by decide +kernel
theorem dL_law_1424 : decode yL_law.2.1 1424 = .ok (.invokevirtual 148, 3) := by decide +kernel
theorem dL_law_1427 : decode yL_law.2.1 1427 = .ok (.aload_n 2, 1) := by decide +kernel
theorem dL_law_1428 : decode yL_law.2.1 1428 = .ok (.aload_n 0, 1) := by decide +kernel
theorem dL_law_1429 : decode yL_law.2.1 1429 = .ok (.iload_n 3, 1) := by decide +kernel
theorem dL_law_1430 : decode yL_law.2.1 1430 = .ok (.iconst 1, 1) := by decide +kernel
theorem dL_law_1431 : decode yL_law.2.1 1431 = .ok (.iadd, 1) := by decide +kernel
theorem dL_law_1432 : decode yL_law.2.1 1432 = .ok (.iaload, 1) := by decide +kernel
theorem dL_law_1433 : decode yL_law.2.1 1433 = .ok (.aload_n 0, 1) := by decide +kernel
theorem dL_law_1434 : decode yL_law.2.1 1434 = .ok (.iload_n 3, 1) := by decide +kernel
theorem dL_law_1435 : decode yL_law.2.1 1435 = .ok (.iconst 2, 1) := by decide +kernel
theorem dL_law_1436 : decode yL_law.2.1 1436 = .ok (.iadd, 1) := by decide +kernel
theorem dL_law_1437 : decode yL_law.2.1 1437 = .ok (.iaload, 1) := by decide +kernel
theorem dL_law_1438 : decode yL_law.2.1 1438 = .ok (.aload_n 0, 1) := by decide +kernel
theorem dL_law_1439 : decode yL_law.2.1 1439 = .ok (.iload_n 3, 1) := by decide +kernel
theorem dL_law_1440 : decode yL_law.2.1 1440 = .ok (.iconst 3, 1) := by decide +kernel
theorem dL_law_1441 : decode yL_law.2.1 1441 = .ok (.iadd, 1) := by decide +kernel
theorem dL_law_1442 : decode yL_law.2.1 1442 = .ok (.iaload, 1) := by decide +kernel
theorem dL_law_1443 : decode yL_law.2.1 1443 = .ok (.invokevirtual 151, 3) := by decide +kernel
theorem dL_law_1446 : decode yL_law.2.1 1446 = .ok (.if_icmp .eq 384, 3) := by decide +kernel
theorem dL_law_1449 : decode yL_law.2.1 1449 = .ok (.iconst 0, 1) := by decide +kernel
theorem dL_law_1450 : decode yL_law.2.1 1450 = .ok (.ireturn, 1) := by decide +kernel
theorem dL_law_1451 : decode yL_law.2.1 1451 = .ok (.aload_n 1, 1) := by decide +kernel
theorem dL_law_1452 : decode yL_law.2.1 1452 = .ok (.aload_n 0, 1) := by decide +kernel
theorem dL_law_1453 : decode yL_law.2.1 1453 = .ok (.iload_n 3, 1) := by decide +kernel
theorem dL_law_1454 : decode yL_law.2.1 1454 = .ok (.iconst 1, 1) := by decide +kernel
theorem dL_law_1455 : decode yL_law.2.1 1455 = .ok (.iadd, 1) := by decide +kernel
theorem dL_law_1456 : decode yL_law.2.1 1456 = .ok (.iaload, 1) := by decide +kernel
theorem dL_law_1457 : decode yL_law.2.1 1457 = .ok (.aload_n 0, 1) := by decide +kernel
theorem dL_law_1458 : decode yL_law.2.1 1458 = .ok (.iload_n 3, 1) := by decide +kernel
theorem dL_law_1459 : decode yL_law.2.1 1459 = .ok (.iconst 2, 1) := by decide +kernel
theorem dL_law_1460 : decode yL_law.2.1 1460 = .ok (.iadd, 1) := by decide +kernel
theorem dL_law_1461 : decode yL_law.2.1 1461 = .ok (.iaload, 1) := by decide +kernel
theorem dL_law_1462 : decode yL_law.2.1 1462 = .ok (.aload_n 0, 1) := by decide +kernel
theorem dL_law_1463 : decode yL_law.2.1 1463 = .ok (.iload_n 3, 1) := by decide +kernel
theorem dL_law_1464 : decode yL_law.2.1 1464 = .ok (.iconst 3, 1) := by decide +kernel
theorem dL_law_1465 : decode yL_law.2.1 1465 = .ok (.iadd, 1) := by decide +kernel
theorem dL_law_1466 : decode yL_law.2.1 1466 = .ok (.iaload, 1) := by decide +kernel
theorem dL_law_1467 : decode yL_law.2.1 1467 = .ok (.invokevirtual 152, 3) := by decide +kernel
theorem dL_law_1470 : decode yL_law.2.1 1470 = .ok (.aload_n 2, 1) := by decide +kernel
theorem dL_law_1471 : decode yL_law.2.1 1471 = .ok (.aload_n 0, 1) := by decide +kernel
theorem dL_law_1472 : decode yL_law.2.1 1472 = .ok (.iload_n 3, 1) := by decide +kernel
theorem dL_law_1473 : decode yL_law.2.1 1473 = .ok (.iconst 1, 1) := by decide +kernel
theorem dL_law_1474 : decode yL_law.2.1 1474 = .ok (.iadd, 1) := by decide +kernel
theorem dL_law_1475 : decode yL_law.2.1 1475 = .ok (.iaload, 1) := by decide +kernel
theorem dL_law_1476 : decode yL_law.2.1 1476 = .ok (.aload_n 0, 1) := by decide +kernel
theorem dL_law_1477 : decode yL_law.2.1 1477 = .ok (.iload_n 3, 1) := by decide +kernel
theorem dL_law_1478 : decode yL_law.2.1 1478 = .ok (.iconst 2, 1) := by decide +kernel
theorem dL_law_1479 : decode yL_law.2.1 1479 = .ok (.iadd, 1) := by decide +kernel
theorem dL_law_1480 : decode yL_law.2.1 1480 = .ok (.iaload, 1) := by decide +kernel
theorem dL_law_1481 : decode yL_law.2.1 1481 = .ok (.aload_n 0, 1) := by decide +kernel
theorem dL_law_1482 : decode yL_law.2.1 1482 = .ok (.iload_n 3, 1) := by decide +kernel
theorem dL_law_1483 : decode yL_law.2.1 1483 = .ok (.iconst 3, 1) := by decide +kernel
theorem dL_law_1484 : decode yL_law.2.1 1484 = .ok (.iadd, 1) := by decide +kernel
theorem dL_law_1485 : decode yL_law.2.1 1485 = .ok (.iaload, 1) := by decide +kernel
theorem dL_law_1486 : decode yL_law.2.1 1486 = .ok (.invokevirtual 155, 3) := by decide +kernel
theorem dL_law_1489 : decode yL_law.2.1 1489 = .ok (.if_icmp .eq 341, 3) := by decide +kernel
theorem dL_law_1492 : decode yL_law.2.1 1492 = .ok (.iconst 0, 1) := by decide +kernel
theorem dL_law_1493 : decode yL_law.2.1 1493 = .ok (.ireturn, 1) := by decide +kernel
theorem dL_law_1494 : decode yL_law.2.1 1494 = .ok (.aload_n 1, 1) := by decide +kernel
theorem dL_law_1495 : decode yL_law.2.1 1495 = .ok (.aload_n 0, 1) := by decide +kernel
theorem dL_law_1496 : decode yL_law.2.1 1496 = .ok (.iload_n 3, 1) := by decide +kernel
theorem dL_law_1497 : decode yL_law.2.1 1497 = .ok (.iconst 1, 1) := by decide +kernel
theorem dL_law_1498 : decode yL_law.2.1 1498 = .ok (.iadd, 1) := by decide +kernel
theorem dL_law_1499 : decode yL_law.2.1 1499 = .ok (.iaload, 1) := by decide +kernel
theorem dL_law_1500 : decode yL_law.2.1 1500 = .ok (.aload_n 0, 1) := by decide +kernel
theorem dL_law_1501 : decode yL_law.2.1 1501 = .ok (.iload_n 3, 1) := by decide +kernel
theorem dL_law_1502 : decode yL_law.2.1 1502 = .ok (.iconst 2, 1) := by decide +kernel
theorem dL_law_1503 : decode yL_law.2.1 1503 = .ok (.iadd, 1) := by decide +kernel
theorem dL_law_1504 : decode yL_law.2.1 1504 = .ok (.iaload, 1) := by decide +kernel
theorem dL_law_1505 : decode yL_law.2.1 1505 = .ok (.invokevirtual 156, 3) := by decide +kernel
theorem dL_law_1508 : decode yL_law.2.1 1508 = .ok (.aload_n 2, 1) := by decide +kernel
theorem dL_law_1509 : decode yL_law.2.1 1509 = .ok (.aload_n 0, 1) := by decide +kernel
theorem dL_law_1510 : decode yL_law.2.1 1510 = .ok (.iload_n 3, 1) := by decide +kernel
theorem dL_law_1511 : decode yL_law.2.1 1511 = .ok (.iconst 1, 1) := by decide +kernel
theorem dL_law_1512 : decode yL_law.2.1 1512 = .ok (.iadd, 1) := by decide +kernel
theorem dL_law_1513 : decode yL_law.2.1 1513 = .ok (.iaload, 1) := by decide +kernel
theorem dL_law_1514 : decode yL_law.2.1 1514 = .ok (.aload_n 0, 1) := by decide +kernel
theorem dL_law_1515 : decode yL_law.2.1 1515 = .ok (.iload_n 3, 1) := by decide +kernel
theorem dL_law_1516 : decode yL_law.2.1 1516 = .ok (.iconst 2, 1) := by decide +kernel
theorem dL_law_1517 : decode yL_law.2.1 1517 = .ok (.iadd, 1) := by decide +kernel
theorem dL_law_1518 : decode yL_law.2.1 1518 = .ok (.iaload, 1) := by decide +kernel
theorem dL_law_1519 : decode yL_law.2.1 1519 = .ok (.invokevirtual 159, 3) := by decide +kernel
theorem dL_law_1522 : decode yL_law.2.1 1522 = .ok (.if_icmp .eq 308, 3) := by decide +kernel
theorem dL_law_1525 : decode yL_law.2.1 1525 = .ok (.iconst 0, 1) := by decide +kernel
theorem dL_law_1526 : decode yL_law.2.1 1526 = .ok (.ireturn, 1) := by decide +kernel
theorem dL_law_1527 : decode yL_law.2.1 1527 = .ok (.aload_n 1, 1) := by decide +kernel
theorem dL_law_1528 : decode yL_law.2.1 1528 = .ok (.aload_n 0, 1) := by decide +kernel
theorem dL_law_1529 : decode yL_law.2.1 1529 = .ok (.iload_n 3, 1) := by decide +kernel
theorem dL_law_1530 : decode yL_law.2.1 1530 = .ok (.iconst 1, 1) := by decide +kernel
theorem dL_law_1531 : decode yL_law.2.1 1531 = .ok (.iadd, 1) := by decide +kernel
theorem dL_law_1532 : decode yL_law.2.1 1532 = .ok (.iaload, 1) := by decide +kernel
theorem dL_law_1533 : decode yL_law.2.1 1533 = .ok (.aload_n 0, 1) := by decide +kernel
theorem dL_law_1534 : decode yL_law.2.1 1534 = .ok (.iload_n 3, 1) := by decide +kernel
theorem dL_law_1535 : decode yL_law.2.1 1535 = .ok (.iconst 2, 1) := by decide +kernel
theorem dL_law_1536 : decode yL_law.2.1 1536 = .ok (.iadd, 1) := by decide +kernel
theorem dL_law_1537 : decode yL_law.2.1 1537 = .ok (.iaload, 1) := by decide +kernel
theorem dL_law_1538 : decode yL_law.2.1 1538 = .ok (.invokevirtual 160, 3) := by decide +kernel
theorem dL_law_1541 : decode yL_law.2.1 1541 = .ok (.aload_n 2, 1) := by decide +kernel
theorem dL_law_1542 : decode yL_law.2.1 1542 = .ok (.aload_n 0, 1) := by decide +kernel
theorem dL_law_1543 : decode yL_law.2.1 1543 = .ok (.iload_n 3, 1) := by decide +kernel
theorem dL_law_1544 : decode yL_law.2.1 1544 = .ok (.iconst 1, 1) := by decide +kernel
theorem dL_law_1545 : decode yL_law.2.1 1545 = .ok (.iadd, 1) := by decide +kernel
theorem dL_law_1546 : decode yL_law.2.1 1546 = .ok (.iaload, 1) := by decide +kernel
theorem dL_law_1547 : decode yL_law.2.1 1547 = .ok (.aload_n 0, 1) := by decide +kernel
theorem dL_law_1548 : decode yL_law.2.1 1548 = .ok (.iload_n 3, 1) := by decide +kernel
theorem dL_law_1549 : decode yL_law.2.1 1549 = .ok (.iconst 2, 1) := by decide +kernel
theorem dL_law_1550 : decode yL_law.2.1 1550 = .ok (.iadd, 1) := by decide +kernel
theorem dL_law_1551 : decode yL_law.2.1 1551 = .ok (.iaload, 1) := by decide +kernel
theorem dL_law_1552 : decode yL_law.2.1 1552 = .ok (.invokevirtual 163, 3) := by decide +kernel
theorem dL_law_1555 : decode yL_law.2.1 1555 = .ok (.if_icmp .eq 275, 3) := by decide +kernel
theorem dL_law_1558 : decode yL_law.2.1 1558 = .ok (.iconst 0, 1) := by decide +kernel
theorem dL_law_1559 : decode yL_law.2.1 1559 = .ok (.ireturn, 1) := by decide +kernel
theorem dL_law_1560 : decode yL_law.2.1 1560 = .ok (.aload_n 1, 1) := by decide +kernel
theorem dL_law_1561 : decode yL_law.2.1 1561 = .ok (.aload_n 0, 1) := by decide +kernel
theorem dL_law_1562 : decode yL_law.2.1 1562 = .ok (.iload_n 3, 1) := by decide +kernel
theorem dL_law_1563 : decode yL_law.2.1 1563 = .ok (.iconst 1, 1) := by decide +kernel
theorem dL_law_1564 : decode yL_law.2.1 1564 = .ok (.iadd, 1) := by decide +kernel
theorem dL_law_1565 : decode yL_law.2.1 1565 = .ok (.iaload, 1) := by decide +kernel
theorem dL_law_1566 : decode yL_law.2.1 1566 = .ok (.aload_n 0, 1) := by decide +kernel
theorem dL_law_1567 : decode yL_law.2.1 1567 = .ok (.iload_n 3, 1) := by decide +kernel
theorem dL_law_1568 : decode yL_law.2.1 1568 = .ok (.iconst 2, 1) := by decide +kernel
theorem dL_law_1569 : decode yL_law.2.1 1569 = .ok (.iadd, 1) := by decide +kernel
theorem dL_law_1570 : decode yL_law.2.1 1570 = .ok (.iaload, 1) := by decide +kernel
theorem dL_law_1571 : decode yL_law.2.1 1571 = .ok (.invokevirtual 164, 3) := by decide +kernel
theorem dL_law_1574 : decode yL_law.2.1 1574 = .ok (.aload_n 2, 1) := by decide +kernel
theorem dL_law_1575 : decode yL_law.2.1 1575 = .ok (.aload_n 0, 1) := by decide +kernel
theorem dL_law_1576 : decode yL_law.2.1 1576 = .ok (.iload_n 3, 1) := by decide +kernel
theorem dL_law_1577 : decode yL_law.2.1 1577 = .ok (.iconst 1, 1) := by decide +kernel
theorem dL_law_1578 : decode yL_law.2.1 1578 = .ok (.iadd, 1) := by decide +kernel
theorem dL_law_1579 : decode yL_law.2.1 1579 = .ok (.iaload, 1) := by decide +kernel
theorem dL_law_1580 : decode yL_law.2.1 1580 = .ok (.aload_n 0, 1) := by decide +kernel
theorem dL_law_1581 : decode yL_law.2.1 1581 = .ok (.iload_n 3, 1) := by decide +kernel
theorem dL_law_1582 : decode yL_law.2.1 1582 = .ok (.iconst 2, 1) := by decide +kernel
theorem dL_law_1583 : decode yL_law.2.1 1583 = .ok (.iadd, 1) := by decide +kernel
theorem dL_law_1584 : decode yL_law.2.1 1584 = .ok (.iaload, 1) := by decide +kernel
theorem dL_law_1585 : decode yL_law.2.1 1585 = .ok (.invokevirtual 167, 3) := by decide +kernel
theorem dL_law_1588 : decode yL_law.2.1 1588 = .ok (.if_icmp .eq 242, 3) := by decide +kernel
theorem dL_law_1591 : decode yL_law.2.1 1591 = .ok (.iconst 0, 1) := by decide +kernel
theorem dL_law_1592 : decode yL_law.2.1 1592 = .ok (.ireturn, 1) := by decide +kernel
theorem dL_law_1593 : decode yL_law.2.1 1593 = .ok (.aload_n 1, 1) := by decide +kernel
theorem dL_law_1594 : decode yL_law.2.1 1594 = .ok (.aload_n 0, 1) := by decide +kernel
theorem dL_law_1595 : decode yL_law.2.1 1595 = .ok (.iload_n 3, 1) := by decide +kernel
theorem dL_law_1596 : decode yL_law.2.1 1596 = .ok (.iconst 1, 1) := by decide +kernel
theorem dL_law_1597 : decode yL_law.2.1 1597 = .ok (.iadd, 1) := by decide +kernel
theorem dL_law_1598 : decode yL_law.2.1 1598 = .ok (.iaload, 1) := by decide +kernel
theorem dL_law_1599 : decode yL_law.2.1 1599 = .ok (.aload_n 0, 1) := by decide +kernel
theorem dL_law_1600 : decode yL_law.2.1 1600 = .ok (.iload_n 3, 1) := by decide +kernel
theorem dL_law_1601 : decode yL_law.2.1 1601 = .ok (.iconst 2, 1) := by decide +kernel
theorem dL_law_1602 : decode yL_law.2.1 1602 = .ok (.iadd, 1) := by decide +kernel
theorem dL_law_1603 : decode yL_law.2.1 1603 = .ok (.iaload, 1) := by decide +kernel
theorem dL_law_1604 : decode yL_law.2.1 1604 = .ok (.aload_n 0, 1) := by decide +kernel
theorem dL_law_1605 : decode yL_law.2.1 1605 = .ok (.iload_n 3, 1) := by decide +kernel
theorem dL_law_1606 : decode yL_law.2.1 1606 = .ok (.iconst 3, 1) := by decide +kernel
theorem dL_law_1607 : decode yL_law.2.1 1607 = .ok (.iadd, 1) := by decide +kernel
theorem dL_law_1608 : decode yL_law.2.1 1608 = .ok (.iaload, 1) := by decide +kernel
theorem dL_law_1609 : decode yL_law.2.1 1609 = .ok (.invokevirtual 168, 3) := by decide +kernel
theorem dL_law_1612 : decode yL_law.2.1 1612 = .ok (.aload_n 2, 1) := by decide +kernel
theorem dL_law_1613 : decode yL_law.2.1 1613 = .ok (.aload_n 0, 1) := by decide +kernel
theorem dL_law_1614 : decode yL_law.2.1 1614 = .ok (.iload_n 3, 1) := by decide +kernel
theorem dL_law_1615 : decode yL_law.2.1 1615 = .ok (.iconst 1, 1) := by decide +kernel
theorem dL_law_1616 : decode yL_law.2.1 1616 = .ok (.iadd, 1) := by decide +kernel
theorem dL_law_1617 : decode yL_law.2.1 1617 = .ok (.iaload, 1) := by decide +kernel
theorem dL_law_1618 : decode yL_law.2.1 1618 = .ok (.aload_n 0, 1) := by decide +kernel
theorem dL_law_1619 : decode yL_law.2.1 1619 = .ok (.iload_n 3, 1) := by decide +kernel
theorem dL_law_1620 : decode yL_law.2.1 1620 = .ok (.iconst 2, 1) := by decide +kernel
theorem dL_law_1621 : decode yL_law.2.1 1621 = .ok (.iadd, 1) := by decide +kernel
theorem dL_law_1622 : decode yL_law.2.1 1622 = .ok (.iaload, 1) := by decide +kernel
theorem dL_law_1623 : decode yL_law.2.1 1623 = .ok (.aload_n 0, 1) := by decide +kernel
theorem dL_law_1624 : decode yL_law.2.1 1624 = .ok (.iload_n 3, 1) := by decide +kernel
theorem dL_law_1625 : decode yL_law.2.1 1625 = .ok (.iconst 3, 1) := by decide +kernel
theorem dL_law_1626 : decode yL_law.2.1 1626 = .ok (.iadd, 1) := by decide +kernel
theorem dL_law_1627 : decode yL_law.2.1 1627 = .ok (.iaload, 1) := by decide +kernel
theorem dL_law_1628 : decode yL_law.2.1 1628 = .ok (.invokevirtual 171, 3) := by decide +kernel
theorem dL_law_1631 : decode yL_law.2.1 1631 = .ok (.if_icmp .eq 199, 3) := by decide +kernel
theorem dL_law_1634 : decode yL_law.2.1 1634 = .ok (.iconst 0, 1) := by decide +kernel
theorem dL_law_1635 : decode yL_law.2.1 1635 = .ok (.ireturn, 1) := by decide +kernel
theorem dL_law_1636 : decode yL_law.2.1 1636 = .ok (.aload_n 1, 1) := by decide +kernel
theorem dL_law_1637 : decode yL_law.2.1 1637 = .ok (.aload_n 0, 1) := by decide +kernel
theorem dL_law_1638 : decode yL_law.2.1 1638 = .ok (.iload_n 3, 1) := by decide +kernel
theorem dL_law_1639 : decode yL_law.2.1 1639 = .ok (.iconst 1, 1) := by decide +kernel
theorem dL_law_1640 : decode yL_law.2.1 1640 = .ok (.iadd, 1) := by decide +kernel
theorem dL_law_1641 : decode yL_law.2.1 1641 = .ok (.iaload, 1) := by decide +kernel
theorem dL_law_1642 : decode yL_law.2.1 1642 = .ok (.aload_n 0, 1) := by decide +kernel
theorem dL_law_1643 : decode yL_law.2.1 1643 = .ok (.iload_n 3, 1) := by decide +kernel
theorem dL_law_1644 : decode yL_law.2.1 1644 = .ok (.iconst 2, 1) := by decide +kernel
theorem dL_law_1645 : decode yL_law.2.1 1645 = .ok (.iadd, 1) := by decide +kernel
theorem dL_law_1646 : decode yL_law.2.1 1646 = .ok (.iaload, 1) := by decide +kernel
theorem dL_law_1647 : decode yL_law.2.1 1647 = .ok (.invokevirtual 172, 3) := by decide +kernel
theorem dL_law_1650 : decode yL_law.2.1 1650 = .ok (.aload_n 2, 1) := by decide +kernel
theorem dL_law_1651 : decode yL_law.2.1 1651 = .ok (.aload_n 0, 1) := by decide +kernel
theorem dL_law_1652 : decode yL_law.2.1 1652 = .ok (.iload_n 3, 1) := by decide +kernel
theorem dL_law_1653 : decode yL_law.2.1 1653 = .ok (.iconst 1, 1) := by decide +kernel
theorem dL_law_1654 : decode yL_law.2.1 1654 = .ok (.iadd, 1) := by decide +kernel
theorem dL_law_1655 : decode yL_law.2.1 1655 = .ok (.iaload, 1) := by decide +kernel
theorem dL_law_1656 : decode yL_law.2.1 1656 = .ok (.aload_n 0, 1) := by decide +kernel
theorem dL_law_1657 : decode yL_law.2.1 1657 = .ok (.iload_n 3, 1) := by decide +kernel
theorem dL_law_1658 : decode yL_law.2.1 1658 = .ok (.iconst 2, 1) := by decide +kernel
theorem dL_law_1659 : decode yL_law.2.1 1659 = .ok (.iadd, 1) := by decide +kernel
theorem dL_law_1660 : decode yL_law.2.1 1660 = .ok (.iaload, 1) := by decide +kernel
theorem dL_law_1661 : decode yL_law.2.1 1661 = .ok (.invokevirtual 175, 3) := by decide +kernel
theorem dL_law_1664 : decode yL_law.2.1 1664 = .ok (.if_icmp .eq 166, 3) := by decide +kernel
theorem dL_law_1667 : decode yL_law.2.1 1667 = .ok (.iconst 0, 1) := by decide +kernel
theorem dL_law_1668 : decode yL_law.2.1 1668 = .ok (.ireturn, 1) := by decide +kernel
theorem dL_law_1669 : decode yL_law.2.1 1669 = .ok (.aload_n 1, 1) := by decide +kernel
theorem dL_law_1670 : decode yL_law.2.1 1670 = .ok (.aload_n 0, 1) := by decide +kernel
theorem dL_law_1671 : decode yL_law.2.1 1671 = .ok (.iload_n 3, 1) := by decide +kernel
theorem dL_law_1672 : decode yL_law.2.1 1672 = .ok (.iconst 1, 1) := by decide +kernel
theorem dL_law_1673 : decode yL_law.2.1 1673 = .ok (.iadd, 1) := by decide +kernel
theorem dL_law_1674 : decode yL_law.2.1 1674 = .ok (.iaload, 1) := by decide +kernel
theorem dL_law_1675 : decode yL_law.2.1 1675 = .ok (.aload_n 0, 1) := by decide +kernel
theorem dL_law_1676 : decode yL_law.2.1 1676 = .ok (.iload_n 3, 1) := by decide +kernel
theorem dL_law_1677 : decode yL_law.2.1 1677 = .ok (.iconst 2, 1) := by decide +kernel
theorem dL_law_1678 : decode yL_law.2.1 1678 = .ok (.iadd, 1) := by decide +kernel
theorem dL_law_1679 : decode yL_law.2.1 1679 = .ok (.iaload, 1) := by decide +kernel
theorem dL_law_1680 : decode yL_law.2.1 1680 = .ok (.invokevirtual 176, 3) := by decide +kernel
theorem dL_law_1683 : decode yL_law.2.1 1683 = .ok (.aload_n 2, 1) := by decide +kernel
theorem dL_law_1684 : decode yL_law.2.1 1684 = .ok (.aload_n 0, 1) := by decide +kernel
theorem dL_law_1685 : decode yL_law.2.1 1685 = .ok (.iload_n 3, 1) := by decide +kernel
theorem dL_law_1686 : decode yL_law.2.1 1686 = .ok (.iconst 1, 1) := by decide +kernel
theorem dL_law_1687 : decode yL_law.2.1 1687 = .ok (.iadd, 1) := by decide +kernel
theorem dL_law_1688 : decode yL_law.2.1 1688 = .ok (.iaload, 1) := by decide +kernel
theorem dL_law_1689 : decode yL_law.2.1 1689 = .ok (.aload_n 0, 1) := by decide +kernel
theorem dL_law_1690 : decode yL_law.2.1 1690 = .ok (.iload_n 3, 1) := by decide +kernel
theorem dL_law_1691 : decode yL_law.2.1 1691 = .ok (.iconst 2, 1) := by decide +kernel
theorem dL_law_1692 : decode yL_law.2.1 1692 = .ok (.iadd, 1) := by decide +kernel
theorem dL_law_1693 : decode yL_law.2.1 1693 = .ok (.iaload, 1) := by decide +kernel
theorem dL_law_1694 : decode yL_law.2.1 1694 = .ok (.invokevirtual 179, 3) := by decide +kernel
theorem dL_law_1697 : decode yL_law.2.1 1697 = .ok (.if_icmp .eq 133, 3) := by decide +kernel
theorem dL_law_1700 : decode yL_law.2.1 1700 = .ok (.iconst 0, 1) := by decide +kernel
theorem dL_law_1701 : decode yL_law.2.1 1701 = .ok (.ireturn, 1) := by decide +kernel
theorem dL_law_1702 : decode yL_law.2.1 1702 = .ok (.aload_n 1, 1) := by decide +kernel
theorem dL_law_1703 : decode yL_law.2.1 1703 = .ok (.invokevirtual 180, 3) := by decide +kernel
theorem dL_law_1706 : decode yL_law.2.1 1706 = .ok (.aload_n 2, 1) := by decide +kernel
theorem dL_law_1707 : decode yL_law.2.1 1707 = .ok (.invokevirtual 184, 3) := by decide +kernel
theorem dL_law_1710 : decode yL_law.2.1 1710 = .ok (.if_icmp .eq 120, 3) := by decide +kernel
theorem dL_law_1713 : decode yL_law.2.1 1713 = .ok (.iconst 0, 1) := by decide +kernel
theorem dL_law_1714 : decode yL_law.2.1 1714 = .ok (.ireturn, 1) := by decide +kernel
theorem dL_law_1715 : decode yL_law.2.1 1715 = .ok (.aload_n 1, 1) := by decide +kernel
theorem dL_law_1716 : decode yL_law.2.1 1716 = .ok (.invokevirtual 185, 3) := by decide +kernel
theorem dL_law_1719 : decode yL_law.2.1 1719 = .ok (.aload_n 2, 1) := by decide +kernel
theorem dL_law_1720 : decode yL_law.2.1 1720 = .ok (.invokevirtual 189, 3) := by decide +kernel
theorem dL_law_1723 : decode yL_law.2.1 1723 = .ok (.lcmp, 1) := by decide +kernel
theorem dL_law_1724 : decode yL_law.2.1 1724 = .ok (.ifCond .eq 106, 3) := by decide +kernel
theorem dL_law_1727 : decode yL_law.2.1 1727 = .ok (.iconst 0, 1) := by decide +kernel
theorem dL_law_1728 : decode yL_law.2.1 1728 = .ok (.ireturn, 1) := by decide +kernel
theorem dL_law_1729 : decode yL_law.2.1 1729 = .ok (.aload_n 1, 1) := by decide +kernel
theorem dL_law_1730 : decode yL_law.2.1 1730 = .ok (.invokevirtual 190, 3) := by decide +kernel
theorem dL_law_1733 : decode yL_law.2.1 1733 = .ok (.aload_n 2, 1) := by decide +kernel
theorem dL_law_1734 : decode yL_law.2.1 1734 = .ok (.invokevirtual 193, 3) := by decide +kernel
theorem dL_law_1737 : decode yL_law.2.1 1737 = .ok (.lcmp, 1) := by decide +kernel
theorem dL_law_1738 : decode yL_law.2.1 1738 = .ok (.ifCond .eq 92, 3) := by decide +kernel
theorem dL_law_1741 : decode yL_law.2.1 1741 = .ok (.iconst 0, 1) := by decide +kernel
theorem dL_law_1742 : decode yL_law.2.1 1742 = .ok (.ireturn, 1) := by decide +kernel
theorem dL_law_1743 : decode yL_law.2.1 1743 = .ok (.aload_n 1, 1) := by decide +kernel
theorem dL_law_1744 : decode yL_law.2.1 1744 = .ok (.invokevirtual 194, 3) := by decide +kernel
theorem dL_law_1747 : decode yL_law.2.1 1747 = .ok (.aload_n 2, 1) := by decide +kernel
theorem dL_law_1748 : decode yL_law.2.1 1748 = .ok (.invokevirtual 197, 3) := by decide +kernel
theorem dL_law_1751 : decode yL_law.2.1 1751 = .ok (.lcmp, 1) := by decide +kernel
theorem dL_law_1752 : decode yL_law.2.1 1752 = .ok (.ifCond .eq 78, 3) := by decide +kernel
theorem dL_law_1755 : decode yL_law.2.1 1755 = .ok (.iconst 0, 1) := by decide +kernel
theorem dL_law_1756 : decode yL_law.2.1 1756 = .ok (.ireturn, 1) := by decide +kernel
theorem dL_law_1757 : decode yL_law.2.1 1757 = .ok (.aload_n 1, 1) := by decide +kernel
theorem dL_law_1758 : decode yL_law.2.1 1758 = .ok (.aload_n 0, 1) := by decide +kernel
theorem dL_law_1759 : decode yL_law.2.1 1759 = .ok (.iload_n 3, 1) := by decide +kernel
theorem dL_law_1760 : decode yL_law.2.1 1760 = .ok (.iconst 1, 1) := by decide +kernel
theorem dL_law_1761 : decode yL_law.2.1 1761 = .ok (.iadd, 1) := by decide +kernel
theorem dL_law_1762 : decode yL_law.2.1 1762 = .ok (.iaload, 1) := by decide +kernel
theorem dL_law_1763 : decode yL_law.2.1 1763 = .ok (.invokevirtual 198, 3) := by decide +kernel
theorem dL_law_1766 : decode yL_law.2.1 1766 = .ok (.aload_n 2, 1) := by decide +kernel
theorem dL_law_1767 : decode yL_law.2.1 1767 = .ok (.aload_n 0, 1) := by decide +kernel
theorem dL_law_1768 : decode yL_law.2.1 1768 = .ok (.iload_n 3, 1) := by decide +kernel
theorem dL_law_1769 : decode yL_law.2.1 1769 = .ok (.iconst 1, 1) := by decide +kernel
theorem dL_law_1770 : decode yL_law.2.1 1770 = .ok (.iadd, 1) := by decide +kernel
theorem dL_law_1771 : decode yL_law.2.1 1771 = .ok (.iaload, 1) := by decide +kernel
theorem dL_law_1772 : decode yL_law.2.1 1772 = .ok (.invokevirtual 201, 3) := by decide +kernel
theorem dL_law_1775 : decode yL_law.2.1 1775 = .ok (.if_icmp .eq 55, 3) := by decide +kernel
theorem dL_law_1778 : decode yL_law.2.1 1778 = .ok (.iconst 0, 1) := by decide +kernel
theorem dL_law_1779 : decode yL_law.2.1 1779 = .ok (.ireturn, 1) := by decide +kernel
theorem dL_law_1780 : decode yL_law.2.1 1780 = .ok (.aload_n 1, 1) := by decide +kernel
theorem dL_law_1781 : decode yL_law.2.1 1781 = .ok (.invokevirtual 202, 3) := by decide +kernel
theorem dL_law_1784 : decode yL_law.2.1 1784 = .ok (.aload_n 2, 1) := by decide +kernel
theorem dL_law_1785 : decode yL_law.2.1 1785 = .ok (.invokevirtual 205, 3) := by decide +kernel
theorem dL_law_1788 : decode yL_law.2.1 1788 = .ok (.if_icmp .eq 42, 3) := by decide +kernel
theorem dL_law_1791 : decode yL_law.2.1 1791 = .ok (.iconst 0, 1) := by decide +kernel
theorem dL_law_1792 : decode yL_law.2.1 1792 = .ok (.ireturn, 1) := by decide +kernel
theorem dL_law_1793 : decode yL_law.2.1 1793 = .ok (.aload_n 1, 1) := by decide +kernel
theorem dL_law_1794 : decode yL_law.2.1 1794 = .ok (.aload_n 0, 1) := by decide +kernel
theorem dL_law_1795 : decode yL_law.2.1 1795 = .ok (.iload_n 3, 1) := by decide +kernel
theorem dL_law_1796 : decode yL_law.2.1 1796 = .ok (.iconst 1, 1) := by decide +kernel
theorem dL_law_1797 : decode yL_law.2.1 1797 = .ok (.iadd, 1) := by decide +kernel
theorem dL_law_1798 : decode yL_law.2.1 1798 = .ok (.iaload, 1) := by decide +kernel
theorem dL_law_1799 : decode yL_law.2.1 1799 = .ok (.invokevirtual 206, 3) := by decide +kernel
theorem dL_law_1802 : decode yL_law.2.1 1802 = .ok (.aload_n 2, 1) := by decide +kernel
theorem dL_law_1803 : decode yL_law.2.1 1803 = .ok (.aload_n 0, 1) := by decide +kernel
theorem dL_law_1804 : decode yL_law.2.1 1804 = .ok (.iload_n 3, 1) := by decide +kernel
theorem dL_law_1805 : decode yL_law.2.1 1805 = .ok (.iconst 1, 1) := by decide +kernel
theorem dL_law_1806 : decode yL_law.2.1 1806 = .ok (.iadd, 1) := by decide +kernel
theorem dL_law_1807 : decode yL_law.2.1 1807 = .ok (.iaload, 1) := by decide +kernel
theorem dL_law_1808 : decode yL_law.2.1 1808 = .ok (.invokevirtual 209, 3) := by decide +kernel
theorem dL_law_1811 : decode yL_law.2.1 1811 = .ok (.if_icmp .eq 19, 3) := by decide +kernel
theorem dL_law_1814 : decode yL_law.2.1 1814 = .ok (.iconst 0, 1) := by decide +kernel
theorem dL_law_1815 : decode yL_law.2.1 1815 = .ok (.ireturn, 1) := by decide +kernel
theorem dL_law_1816 : decode yL_law.2.1 1816 = .ok (.aload_n 1, 1) := by decide +kernel
theorem dL_law_1817 : decode yL_law.2.1 1817 = .ok (.invokevirtual 210, 3) := by decide +kernel
theorem dL_law_1820 : decode yL_law.2.1 1820 = .ok (.aload_n 2, 1) := by decide +kernel
theorem dL_law_1821 : decode yL_law.2.1 1821 = .ok (.invokevirtual 213, 3) := by decide +kernel
theorem dL_law_1824 : decode yL_law.2.1 1824 = .ok (.lcmp, 1) := by decide +kernel
theorem dL_law_1825 : decode yL_law.2.1 1825 = .ok (.ifCond .eq 5, 3) := by decide +kernel
theorem dL_law_1828 : decode yL_law.2.1 1828 = .ok (.iconst 0, 1) := by decide +kernel
theorem dL_law_1829 : decode yL_law.2.1 1829 = .ok (.ireturn, 1) := by decide +kernel
theorem dL_law_1830 : decode yL_law.2.1 1830 = .ok (.iinc 3 6, 3) := by decide +kernel
theorem dL_law_1833 : decode yL_law.2.1 1833 = .ok (.goto (-1815), 3) := by decide +kernel
theorem dL_law_1836 : decode yL_law.2.1 1836 = .ok (.iconst 1, 1) := by decide +kernel
theorem dL_law_1837 : decode yL_law.2.1 1837 = .ok (.ireturn, 1) := by decide +kernel
