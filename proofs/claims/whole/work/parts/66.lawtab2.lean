/-! the law's instructions, 2 -/
theorem kw_d_274 : decode code 274 = .ok (.iload_n 3, 1) := by decide +kernel
theorem kw_d_275 : decode code 275 = .ok (.iconst 2, 1) := by decide +kernel
theorem kw_d_276 : decode code 276 = .ok (.iadd, 1) := by decide +kernel
theorem kw_d_277 : decode code 277 = .ok (.iaload, 1) := by decide +kernel
theorem kw_d_278 : decode code 278 = .ok (.invokevirtual 28, 3) := by decide +kernel
theorem kw_d_281 : decode code 281 = .ok (.aload_n 2, 1) := by decide +kernel
theorem kw_d_282 : decode code 282 = .ok (.aload_n 0, 1) := by decide +kernel
theorem kw_d_283 : decode code 283 = .ok (.iload_n 3, 1) := by decide +kernel
theorem kw_d_284 : decode code 284 = .ok (.iconst 1, 1) := by decide +kernel
theorem kw_d_285 : decode code 285 = .ok (.iadd, 1) := by decide +kernel
theorem kw_d_286 : decode code 286 = .ok (.iaload, 1) := by decide +kernel
theorem kw_d_287 : decode code 287 = .ok (.aload_n 0, 1) := by decide +kernel
theorem kw_d_288 : decode code 288 = .ok (.iload_n 3, 1) := by decide +kernel
theorem kw_d_289 : decode code 289 = .ok (.iconst 2, 1) := by decide +kernel
theorem kw_d_290 : decode code 290 = .ok (.iadd, 1) := by decide +kernel
theorem kw_d_291 : decode code 291 = .ok (.iaload, 1) := by decide +kernel
theorem kw_d_292 : decode code 292 = .ok (.invokevirtual 32, 3) := by decide +kernel
theorem kw_d_295 : decode code 295 = .ok (.if_icmp .eq 557, 3) := by decide +kernel
theorem kw_d_298 : decode code 298 = .ok (.iconst 0, 1) := by decide +kernel
theorem kw_d_299 : decode code 299 = .ok (.ireturn, 1) := by decide +kernel
theorem kw_d_300 : decode code 300 = .ok (.aload_n 1, 1) := by decide +kernel
theorem kw_d_301 : decode code 301 = .ok (.aload_n 0, 1) := by decide +kernel
theorem kw_d_302 : decode code 302 = .ok (.iload_n 3, 1) := by decide +kernel
theorem kw_d_303 : decode code 303 = .ok (.iconst 1, 1) := by decide +kernel
theorem kw_d_304 : decode code 304 = .ok (.iadd, 1) := by decide +kernel
theorem kw_d_305 : decode code 305 = .ok (.iaload, 1) := by decide +kernel
theorem kw_d_306 : decode code 306 = .ok (.aload_n 0, 1) := by decide +kernel
theorem kw_d_307 : decode code 307 = .ok (.iload_n 3, 1) := by decide +kernel
theorem kw_d_308 : decode code 308 = .ok (.iconst 2, 1) := by decide +kernel
theorem kw_d_309 : decode code 309 = .ok (.iadd, 1) := by decide +kernel
theorem kw_d_310 : decode code 310 = .ok (.iaload, 1) := by decide +kernel
theorem kw_d_311 : decode code 311 = .ok (.invokevirtual 33, 3) := by decide +kernel
theorem kw_d_314 : decode code 314 = .ok (.aload_n 2, 1) := by decide +kernel
theorem kw_d_315 : decode code 315 = .ok (.aload_n 0, 1) := by decide +kernel
theorem kw_d_316 : decode code 316 = .ok (.iload_n 3, 1) := by decide +kernel
theorem kw_d_317 : decode code 317 = .ok (.iconst 1, 1) := by decide +kernel
theorem kw_d_318 : decode code 318 = .ok (.iadd, 1) := by decide +kernel
theorem kw_d_319 : decode code 319 = .ok (.iaload, 1) := by decide +kernel
theorem kw_d_320 : decode code 320 = .ok (.aload_n 0, 1) := by decide +kernel
theorem kw_d_321 : decode code 321 = .ok (.iload_n 3, 1) := by decide +kernel
theorem kw_d_322 : decode code 322 = .ok (.iconst 2, 1) := by decide +kernel
theorem kw_d_323 : decode code 323 = .ok (.iadd, 1) := by decide +kernel
theorem kw_d_324 : decode code 324 = .ok (.iaload, 1) := by decide +kernel
theorem kw_d_325 : decode code 325 = .ok (.invokevirtual 36, 3) := by decide +kernel
theorem kw_d_328 : decode code 328 = .ok (.if_icmp .eq 524, 3) := by decide +kernel
theorem kw_d_331 : decode code 331 = .ok (.iconst 0, 1) := by decide +kernel
theorem kw_d_332 : decode code 332 = .ok (.ireturn, 1) := by decide +kernel
theorem kw_d_333 : decode code 333 = .ok (.aload_n 1, 1) := by decide +kernel
theorem kw_d_334 : decode code 334 = .ok (.aload_n 0, 1) := by decide +kernel
theorem kw_d_335 : decode code 335 = .ok (.iload_n 3, 1) := by decide +kernel
theorem kw_d_336 : decode code 336 = .ok (.iconst 1, 1) := by decide +kernel
theorem kw_d_337 : decode code 337 = .ok (.iadd, 1) := by decide +kernel
theorem kw_d_338 : decode code 338 = .ok (.iaload, 1) := by decide +kernel
theorem kw_d_339 : decode code 339 = .ok (.invokevirtual 37, 3) := by decide +kernel
theorem kw_d_342 : decode code 342 = .ok (.aload_n 2, 1) := by decide +kernel
theorem kw_d_343 : decode code 343 = .ok (.aload_n 0, 1) := by decide +kernel
theorem kw_d_344 : decode code 344 = .ok (.iload_n 3, 1) := by decide +kernel
theorem kw_d_345 : decode code 345 = .ok (.iconst 1, 1) := by decide +kernel
theorem kw_d_346 : decode code 346 = .ok (.iadd, 1) := by decide +kernel
theorem kw_d_347 : decode code 347 = .ok (.iaload, 1) := by decide +kernel
theorem kw_d_348 : decode code 348 = .ok (.invokevirtual 41, 3) := by decide +kernel
theorem kw_d_351 : decode code 351 = .ok (.if_icmp .eq 501, 3) := by decide +kernel
theorem kw_d_354 : decode code 354 = .ok (.iconst 0, 1) := by decide +kernel
theorem kw_d_355 : decode code 355 = .ok (.ireturn, 1) := by decide +kernel
theorem kw_d_356 : decode code 356 = .ok (.aload_n 1, 1) := by decide +kernel
theorem kw_d_357 : decode code 357 = .ok (.aload_n 0, 1) := by decide +kernel
theorem kw_d_358 : decode code 358 = .ok (.iload_n 3, 1) := by decide +kernel
theorem kw_d_359 : decode code 359 = .ok (.iconst 1, 1) := by decide +kernel
theorem kw_d_360 : decode code 360 = .ok (.iadd, 1) := by decide +kernel
theorem kw_d_361 : decode code 361 = .ok (.iaload, 1) := by decide +kernel
theorem kw_d_362 : decode code 362 = .ok (.invokevirtual 42, 3) := by decide +kernel
theorem kw_d_365 : decode code 365 = .ok (.aload_n 2, 1) := by decide +kernel
theorem kw_d_366 : decode code 366 = .ok (.aload_n 0, 1) := by decide +kernel
theorem kw_d_367 : decode code 367 = .ok (.iload_n 3, 1) := by decide +kernel
theorem kw_d_368 : decode code 368 = .ok (.iconst 1, 1) := by decide +kernel
theorem kw_d_369 : decode code 369 = .ok (.iadd, 1) := by decide +kernel
theorem kw_d_370 : decode code 370 = .ok (.iaload, 1) := by decide +kernel
theorem kw_d_371 : decode code 371 = .ok (.invokevirtual 46, 3) := by decide +kernel
theorem kw_d_374 : decode code 374 = .ok (.if_icmp .eq 478, 3) := by decide +kernel
theorem kw_d_377 : decode code 377 = .ok (.iconst 0, 1) := by decide +kernel
theorem kw_d_378 : decode code 378 = .ok (.ireturn, 1) := by decide +kernel
theorem kw_d_379 : decode code 379 = .ok (.aload_n 1, 1) := by decide +kernel
theorem kw_d_380 : decode code 380 = .ok (.aload_n 0, 1) := by decide +kernel
theorem kw_d_381 : decode code 381 = .ok (.iload_n 3, 1) := by decide +kernel
theorem kw_d_382 : decode code 382 = .ok (.iconst 1, 1) := by decide +kernel
theorem kw_d_383 : decode code 383 = .ok (.iadd, 1) := by decide +kernel
theorem kw_d_384 : decode code 384 = .ok (.iaload, 1) := by decide +kernel
theorem kw_d_385 : decode code 385 = .ok (.aload_n 0, 1) := by decide +kernel
theorem kw_d_386 : decode code 386 = .ok (.iload_n 3, 1) := by decide +kernel
theorem kw_d_387 : decode code 387 = .ok (.iconst 2, 1) := by decide +kernel
theorem kw_d_388 : decode code 388 = .ok (.iadd, 1) := by decide +kernel
theorem kw_d_389 : decode code 389 = .ok (.iaload, 1) := by decide +kernel
theorem kw_d_390 : decode code 390 = .ok (.ifCond .eq 7, 3) := by decide +kernel
theorem kw_d_393 : decode code 393 = .ok (.iconst 1, 1) := by decide +kernel
theorem kw_d_394 : decode code 394 = .ok (.goto 4, 3) := by decide +kernel
theorem kw_d_397 : decode code 397 = .ok (.iconst 0, 1) := by decide +kernel
theorem kw_d_398 : decode code 398 = .ok (.invokevirtual 47, 3) := by decide +kernel
theorem kw_d_401 : decode code 401 = .ok (.aload_n 2, 1) := by decide +kernel
theorem kw_d_402 : decode code 402 = .ok (.aload_n 0, 1) := by decide +kernel
theorem kw_d_403 : decode code 403 = .ok (.iload_n 3, 1) := by decide +kernel
theorem kw_d_404 : decode code 404 = .ok (.iconst 1, 1) := by decide +kernel
theorem kw_d_405 : decode code 405 = .ok (.iadd, 1) := by decide +kernel
theorem kw_d_406 : decode code 406 = .ok (.iaload, 1) := by decide +kernel
theorem kw_d_407 : decode code 407 = .ok (.aload_n 0, 1) := by decide +kernel
theorem kw_d_408 : decode code 408 = .ok (.iload_n 3, 1) := by decide +kernel
theorem kw_d_409 : decode code 409 = .ok (.iconst 2, 1) := by decide +kernel
theorem kw_d_410 : decode code 410 = .ok (.iadd, 1) := by decide +kernel
theorem kw_d_411 : decode code 411 = .ok (.iaload, 1) := by decide +kernel
theorem kw_d_412 : decode code 412 = .ok (.ifCond .eq 7, 3) := by decide +kernel
theorem kw_d_415 : decode code 415 = .ok (.iconst 1, 1) := by decide +kernel
theorem kw_d_416 : decode code 416 = .ok (.goto 4, 3) := by decide +kernel
theorem kw_d_419 : decode code 419 = .ok (.iconst 0, 1) := by decide +kernel
theorem kw_d_420 : decode code 420 = .ok (.invokevirtual 51, 3) := by decide +kernel
theorem kw_d_423 : decode code 423 = .ok (.if_icmp .eq 429, 3) := by decide +kernel
theorem kw_d_426 : decode code 426 = .ok (.iconst 0, 1) := by decide +kernel
theorem kw_d_427 : decode code 427 = .ok (.ireturn, 1) := by decide +kernel
theorem kw_d_428 : decode code 428 = .ok (.aload_n 1, 1) := by decide +kernel
theorem kw_d_429 : decode code 429 = .ok (.aload_n 0, 1) := by decide +kernel
theorem kw_d_430 : decode code 430 = .ok (.iload_n 3, 1) := by decide +kernel
theorem kw_d_431 : decode code 431 = .ok (.iconst 1, 1) := by decide +kernel
theorem kw_d_432 : decode code 432 = .ok (.iadd, 1) := by decide +kernel
theorem kw_d_433 : decode code 433 = .ok (.iaload, 1) := by decide +kernel
theorem kw_d_434 : decode code 434 = .ok (.aload_n 0, 1) := by decide +kernel
theorem kw_d_435 : decode code 435 = .ok (.iload_n 3, 1) := by decide +kernel
theorem kw_d_436 : decode code 436 = .ok (.iconst 2, 1) := by decide +kernel
theorem kw_d_437 : decode code 437 = .ok (.iadd, 1) := by decide +kernel
theorem kw_d_438 : decode code 438 = .ok (.iaload, 1) := by decide +kernel
theorem kw_d_439 : decode code 439 = .ok (.aload_n 0, 1) := by decide +kernel
theorem kw_d_440 : decode code 440 = .ok (.iload_n 3, 1) := by decide +kernel
theorem kw_d_441 : decode code 441 = .ok (.iconst 3, 1) := by decide +kernel
theorem kw_d_442 : decode code 442 = .ok (.iadd, 1) := by decide +kernel
theorem kw_d_443 : decode code 443 = .ok (.iaload, 1) := by decide +kernel
theorem kw_d_444 : decode code 444 = .ok (.aload_n 0, 1) := by decide +kernel
theorem kw_d_445 : decode code 445 = .ok (.iload_n 3, 1) := by decide +kernel
theorem kw_d_446 : decode code 446 = .ok (.iconst 4, 1) := by decide +kernel
theorem kw_d_447 : decode code 447 = .ok (.iadd, 1) := by decide +kernel
theorem kw_d_448 : decode code 448 = .ok (.iaload, 1) := by decide +kernel
theorem kw_d_449 : decode code 449 = .ok (.invokevirtual 52, 3) := by decide +kernel
theorem kw_d_452 : decode code 452 = .ok (.aload_n 2, 1) := by decide +kernel
theorem kw_d_453 : decode code 453 = .ok (.aload_n 0, 1) := by decide +kernel
theorem kw_d_454 : decode code 454 = .ok (.iload_n 3, 1) := by decide +kernel
theorem kw_d_455 : decode code 455 = .ok (.iconst 1, 1) := by decide +kernel
theorem kw_d_456 : decode code 456 = .ok (.iadd, 1) := by decide +kernel
theorem kw_d_457 : decode code 457 = .ok (.iaload, 1) := by decide +kernel
theorem kw_d_458 : decode code 458 = .ok (.aload_n 0, 1) := by decide +kernel
theorem kw_d_459 : decode code 459 = .ok (.iload_n 3, 1) := by decide +kernel
theorem kw_d_460 : decode code 460 = .ok (.iconst 2, 1) := by decide +kernel
theorem kw_d_461 : decode code 461 = .ok (.iadd, 1) := by decide +kernel
theorem kw_d_462 : decode code 462 = .ok (.iaload, 1) := by decide +kernel
theorem kw_d_463 : decode code 463 = .ok (.aload_n 0, 1) := by decide +kernel
