/-! ===== the first world: what it holds ===== -/
theorem wA_v3 : ∀ k, k < 600 → g_I wA 3 k = 0 := by decide +kernel
theorem wA_v126 : ∀ k, k < 600 → g_I wA 126 k = 0 := by decide +kernel
def hl0 : HutL := ([], [], 0)
theorem wA_ro : ∀ k, k < 419 → g_I wA 603 k = row0 (hutT hl0) k := by decide +kernel
