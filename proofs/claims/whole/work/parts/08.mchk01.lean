set_option maxRecDepth 100000 in
theorem am_mchk_1 : ∀ y, y < 80 → 40 ≤ y → am_mchk y = true := by decide +kernel
