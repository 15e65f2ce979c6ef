set_option maxRecDepth 100000 in
theorem am_mchk_0 : ∀ y, y < 40 → 0 ≤ y → am_mchk y = true := by decide +kernel
