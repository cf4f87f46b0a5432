/-! the law, decoded (by program) -/
theorem d_232 : decode code 232 = .ok (.iconst 1, 1) := by decide +kernel
theorem d_233 : decode code 233 = .ok (.iadd, 1) := by decide +kernel
theorem d_234 : decode code 234 = .ok (.iaload, 1) := by decide +kernel
theorem d_235 : decode code 235 = .ok (.aload_n 0, 1) := by decide +kernel
theorem d_236 : decode code 236 = .ok (.iload_n 3, 1) := by decide +kernel
theorem d_237 : decode code 237 = .ok (.iconst 2, 1) := by decide +kernel
theorem d_238 : decode code 238 = .ok (.iadd, 1) := by decide +kernel
theorem d_239 : decode code 239 = .ok (.iaload, 1) := by decide +kernel
theorem d_240 : decode code 240 = .ok (.aload_n 0, 1) := by decide +kernel
theorem d_241 : decode code 241 = .ok (.iload_n 3, 1) := by decide +kernel
theorem d_242 : decode code 242 = .ok (.iconst 3, 1) := by decide +kernel
theorem d_243 : decode code 243 = .ok (.iadd, 1) := by decide +kernel
theorem d_244 : decode code 244 = .ok (.iaload, 1) := by decide +kernel
theorem d_245 : decode code 245 = .ok (.invokevirtual 36, 3) := by decide +kernel
theorem d_248 : decode code 248 = .ok (.aload_n 2, 1) := by decide +kernel
theorem d_249 : decode code 249 = .ok (.aload_n 0, 1) := by decide +kernel
theorem d_250 : decode code 250 = .ok (.iload_n 3, 1) := by decide +kernel
theorem d_251 : decode code 251 = .ok (.iconst 1, 1) := by decide +kernel
theorem d_252 : decode code 252 = .ok (.iadd, 1) := by decide +kernel
theorem d_253 : decode code 253 = .ok (.iaload, 1) := by decide +kernel
theorem d_254 : decode code 254 = .ok (.aload_n 0, 1) := by decide +kernel
theorem d_255 : decode code 255 = .ok (.iload_n 3, 1) := by decide +kernel
theorem d_256 : decode code 256 = .ok (.iconst 2, 1) := by decide +kernel
theorem d_257 : decode code 257 = .ok (.iadd, 1) := by decide +kernel
theorem d_258 : decode code 258 = .ok (.iaload, 1) := by decide +kernel
theorem d_259 : decode code 259 = .ok (.aload_n 0, 1) := by decide +kernel
theorem d_260 : decode code 260 = .ok (.iload_n 3, 1) := by decide +kernel
theorem d_261 : decode code 261 = .ok (.iconst 3, 1) := by decide +kernel
theorem d_262 : decode code 262 = .ok (.iadd, 1) := by decide +kernel
theorem d_263 : decode code 263 = .ok (.iaload, 1) := by decide +kernel
theorem d_264 : decode code 264 = .ok (.invokevirtual 40, 3) := by decide +kernel
theorem d_267 : decode code 267 = .ok (.if_icmp .eq 356, 3) := by decide +kernel
theorem d_270 : decode code 270 = .ok (.iconst 0, 1) := by decide +kernel
theorem d_271 : decode code 271 = .ok (.ireturn, 1) := by decide +kernel
theorem d_272 : decode code 272 = .ok (.aload_n 1, 1) := by decide +kernel
theorem d_273 : decode code 273 = .ok (.aload_n 0, 1) := by decide +kernel
theorem d_274 : decode code 274 = .ok (.iload_n 3, 1) := by decide +kernel
theorem d_275 : decode code 275 = .ok (.iconst 1, 1) := by decide +kernel
theorem d_276 : decode code 276 = .ok (.iadd, 1) := by decide +kernel
theorem d_277 : decode code 277 = .ok (.iaload, 1) := by decide +kernel
theorem d_278 : decode code 278 = .ok (.aload_n 0, 1) := by decide +kernel
theorem d_279 : decode code 279 = .ok (.iload_n 3, 1) := by decide +kernel
theorem d_280 : decode code 280 = .ok (.iconst 2, 1) := by decide +kernel
theorem d_281 : decode code 281 = .ok (.iadd, 1) := by decide +kernel
theorem d_282 : decode code 282 = .ok (.iaload, 1) := by decide +kernel
theorem d_283 : decode code 283 = .ok (.invokevirtual 41, 3) := by decide +kernel
theorem d_286 : decode code 286 = .ok (.aload_n 2, 1) := by decide +kernel
theorem d_287 : decode code 287 = .ok (.aload_n 0, 1) := by decide +kernel
theorem d_288 : decode code 288 = .ok (.iload_n 3, 1) := by decide +kernel
theorem d_289 : decode code 289 = .ok (.iconst 1, 1) := by decide +kernel
