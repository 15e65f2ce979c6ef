set_option maxRecDepth 100000 in
theorem am_mchk_5 : ∀ y, y < 222 → 200 ≤ y → am_mchk y = true := by decide +kernel
