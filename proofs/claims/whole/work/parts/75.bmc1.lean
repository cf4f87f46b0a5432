/-! bit maps, reckoned -/
theorem bmr_174 : ∀ W, W < 256 → bchR 174 W = true := by decide +kernel
theorem bmr_186 : ∀ W, W < 256 → bchR 186 W = true := by decide +kernel
theorem bmr_234 : ∀ W, W < 256 → bchR 234 W = true := by decide +kernel
