/-! the law, decoded (by program) -/
theorem d_290 : decode code 290 = .ok (.iadd, 1) := by decide +kernel
theorem d_291 : decode code 291 = .ok (.iaload, 1) := by decide +kernel
theorem d_292 : decode code 292 = .ok (.aload_n 0, 1) := by decide +kernel
theorem d_293 : decode code 293 = .ok (.iload_n 3, 1) := by decide +kernel
theorem d_294 : decode code 294 = .ok (.iconst 2, 1) := by decide +kernel
theorem d_295 : decode code 295 = .ok (.iadd, 1) := by decide +kernel
theorem d_296 : decode code 296 = .ok (.iaload, 1) := by decide +kernel
theorem d_297 : decode code 297 = .ok (.invokevirtual 44, 3) := by decide +kernel
theorem d_300 : decode code 300 = .ok (.if_icmp .eq 323, 3) := by decide +kernel
theorem d_303 : decode code 303 = .ok (.iconst 0, 1) := by decide +kernel
theorem d_304 : decode code 304 = .ok (.ireturn, 1) := by decide +kernel
theorem d_305 : decode code 305 = .ok (.aload_n 1, 1) := by decide +kernel
theorem d_306 : decode code 306 = .ok (.aload_n 0, 1) := by decide +kernel
theorem d_307 : decode code 307 = .ok (.iload_n 3, 1) := by decide +kernel
theorem d_308 : decode code 308 = .ok (.iconst 1, 1) := by decide +kernel
theorem d_309 : decode code 309 = .ok (.iadd, 1) := by decide +kernel
theorem d_310 : decode code 310 = .ok (.iaload, 1) := by decide +kernel
theorem d_311 : decode code 311 = .ok (.invokevirtual 45, 3) := by decide +kernel
theorem d_314 : decode code 314 = .ok (.aload_n 2, 1) := by decide +kernel
theorem d_315 : decode code 315 = .ok (.aload_n 0, 1) := by decide +kernel
theorem d_316 : decode code 316 = .ok (.iload_n 3, 1) := by decide +kernel
theorem d_317 : decode code 317 = .ok (.iconst 1, 1) := by decide +kernel
theorem d_318 : decode code 318 = .ok (.iadd, 1) := by decide +kernel
theorem d_319 : decode code 319 = .ok (.iaload, 1) := by decide +kernel
theorem d_320 : decode code 320 = .ok (.invokevirtual 48, 3) := by decide +kernel
theorem d_323 : decode code 323 = .ok (.if_icmp .eq 300, 3) := by decide +kernel
theorem d_326 : decode code 326 = .ok (.iconst 0, 1) := by decide +kernel
theorem d_327 : decode code 327 = .ok (.ireturn, 1) := by decide +kernel
theorem d_328 : decode code 328 = .ok (.aload_n 1, 1) := by decide +kernel
theorem d_329 : decode code 329 = .ok (.aload_n 0, 1) := by decide +kernel
theorem d_330 : decode code 330 = .ok (.iload_n 3, 1) := by decide +kernel
theorem d_331 : decode code 331 = .ok (.iconst 1, 1) := by decide +kernel
theorem d_332 : decode code 332 = .ok (.iadd, 1) := by decide +kernel
theorem d_333 : decode code 333 = .ok (.iaload, 1) := by decide +kernel
theorem d_334 : decode code 334 = .ok (.aload_n 0, 1) := by decide +kernel
theorem d_335 : decode code 335 = .ok (.iload_n 3, 1) := by decide +kernel
theorem d_336 : decode code 336 = .ok (.iconst 2, 1) := by decide +kernel
theorem d_337 : decode code 337 = .ok (.iadd, 1) := by decide +kernel
theorem d_338 : decode code 338 = .ok (.iaload, 1) := by decide +kernel
theorem d_339 : decode code 339 = .ok (.ifCond .eq 7, 3) := by decide +kernel
theorem d_342 : decode code 342 = .ok (.iconst 1, 1) := by decide +kernel
theorem d_343 : decode code 343 = .ok (.goto 4, 3) := by decide +kernel
theorem d_346 : decode code 346 = .ok (.iconst 0, 1) := by decide +kernel
theorem d_347 : decode code 347 = .ok (.invokevirtual 49, 3) := by decide +kernel
theorem d_350 : decode code 350 = .ok (.aload_n 2, 1) := by decide +kernel
theorem d_351 : decode code 351 = .ok (.aload_n 0, 1) := by decide +kernel
theorem d_352 : decode code 352 = .ok (.iload_n 3, 1) := by decide +kernel
theorem d_353 : decode code 353 = .ok (.iconst 1, 1) := by decide +kernel
theorem d_354 : decode code 354 = .ok (.iadd, 1) := by decide +kernel
theorem d_355 : decode code 355 = .ok (.iaload, 1) := by decide +kernel
