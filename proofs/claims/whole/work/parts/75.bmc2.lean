/-! bit maps, reckoned -/
theorem bmr_110 : ∀ W, W < 256 → bchR 110 W = true := by decide +kernel
theorem bmr_206 : ∀ W, W < 256 → bchR 206 W = true := by decide +kernel
theorem bmr_118 : ∀ W, W < 256 → bchR 118 W = true := by decide +kernel
