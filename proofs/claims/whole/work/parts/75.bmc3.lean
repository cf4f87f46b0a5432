/-! bit maps, reckoned -/
theorem bmr_230 : ∀ W, W < 256 → bchR 230 W = true := by decide +kernel
theorem bmr_220 : ∀ W, W < 256 → bchR 220 W = true := by decide +kernel
theorem bmr_236 : ∀ W, W < 256 → bchR 236 W = true := by decide +kernel
