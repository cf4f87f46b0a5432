/-! bit maps, reckoned -/
theorem bmc_182 : ∀ W, W < 256 → bchk 182 W = true := by decide +kernel
theorem bmc_214 : ∀ W, W < 256 → bchk 214 W = true := by decide +kernel
theorem bmc_218 : ∀ W, W < 256 → bchk 218 W = true := by decide +kernel
