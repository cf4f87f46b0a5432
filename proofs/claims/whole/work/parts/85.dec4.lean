/-! the law, decoded (by program) -/
theorem d_356 : decode code 356 = .ok (.aload_n 0, 1) := by decide +kernel
theorem d_357 : decode code 357 = .ok (.iload_n 3, 1) := by decide +kernel
theorem d_358 : decode code 358 = .ok (.iconst 2, 1) := by decide +kernel
theorem d_359 : decode code 359 = .ok (.iadd, 1) := by decide +kernel
theorem d_360 : decode code 360 = .ok (.iaload, 1) := by decide +kernel
theorem d_361 : decode code 361 = .ok (.ifCond .eq 7, 3) := by decide +kernel
theorem d_364 : decode code 364 = .ok (.iconst 1, 1) := by decide +kernel
theorem d_365 : decode code 365 = .ok (.goto 4, 3) := by decide +kernel
theorem d_368 : decode code 368 = .ok (.iconst 0, 1) := by decide +kernel
theorem d_369 : decode code 369 = .ok (.invokevirtual 53, 3) := by decide +kernel
theorem d_372 : decode code 372 = .ok (.if_icmp .eq 251, 3) := by decide +kernel
theorem d_375 : decode code 375 = .ok (.iconst 0, 1) := by decide +kernel
theorem d_376 : decode code 376 = .ok (.ireturn, 1) := by decide +kernel
theorem d_377 : decode code 377 = .ok (.aload_n 1, 1) := by decide +kernel
theorem d_378 : decode code 378 = .ok (.aload_n 0, 1) := by decide +kernel
theorem d_379 : decode code 379 = .ok (.iload_n 3, 1) := by decide +kernel
theorem d_380 : decode code 380 = .ok (.iconst 1, 1) := by decide +kernel
theorem d_381 : decode code 381 = .ok (.iadd, 1) := by decide +kernel
theorem d_382 : decode code 382 = .ok (.iaload, 1) := by decide +kernel
theorem d_383 : decode code 383 = .ok (.aload_n 0, 1) := by decide +kernel
theorem d_384 : decode code 384 = .ok (.iload_n 3, 1) := by decide +kernel
theorem d_385 : decode code 385 = .ok (.iconst 2, 1) := by decide +kernel
theorem d_386 : decode code 386 = .ok (.iadd, 1) := by decide +kernel
theorem d_387 : decode code 387 = .ok (.iaload, 1) := by decide +kernel
theorem d_388 : decode code 388 = .ok (.invokevirtual 54, 3) := by decide +kernel
theorem d_391 : decode code 391 = .ok (.aload_n 2, 1) := by decide +kernel
theorem d_392 : decode code 392 = .ok (.aload_n 0, 1) := by decide +kernel
theorem d_393 : decode code 393 = .ok (.iload_n 3, 1) := by decide +kernel
theorem d_394 : decode code 394 = .ok (.iconst 1, 1) := by decide +kernel
theorem d_395 : decode code 395 = .ok (.iadd, 1) := by decide +kernel
theorem d_396 : decode code 396 = .ok (.iaload, 1) := by decide +kernel
theorem d_397 : decode code 397 = .ok (.aload_n 0, 1) := by decide +kernel
theorem d_398 : decode code 398 = .ok (.iload_n 3, 1) := by decide +kernel
theorem d_399 : decode code 399 = .ok (.iconst 2, 1) := by decide +kernel
theorem d_400 : decode code 400 = .ok (.iadd, 1) := by decide +kernel
theorem d_401 : decode code 401 = .ok (.iaload, 1) := by decide +kernel
theorem d_402 : decode code 402 = .ok (.invokevirtual 57, 3) := by decide +kernel
theorem d_405 : decode code 405 = .ok (.if_icmp .eq 218, 3) := by decide +kernel
theorem d_408 : decode code 408 = .ok (.iconst 0, 1) := by decide +kernel
theorem d_409 : decode code 409 = .ok (.ireturn, 1) := by decide +kernel
theorem d_410 : decode code 410 = .ok (.aload_n 1, 1) := by decide +kernel
theorem d_411 : decode code 411 = .ok (.aload_n 0, 1) := by decide +kernel
theorem d_412 : decode code 412 = .ok (.iload_n 3, 1) := by decide +kernel
theorem d_413 : decode code 413 = .ok (.iconst 1, 1) := by decide +kernel
theorem d_414 : decode code 414 = .ok (.iadd, 1) := by decide +kernel
theorem d_415 : decode code 415 = .ok (.iaload, 1) := by decide +kernel
theorem d_416 : decode code 416 = .ok (.invokevirtual 58, 3) := by decide +kernel
theorem d_419 : decode code 419 = .ok (.aload_n 2, 1) := by decide +kernel
theorem d_420 : decode code 420 = .ok (.aload_n 0, 1) := by decide +kernel
theorem d_421 : decode code 421 = .ok (.iload_n 3, 1) := by decide +kernel
