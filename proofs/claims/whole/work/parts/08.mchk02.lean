set_option maxRecDepth 100000 in
theorem am_mchk_2 : ∀ y, y < 120 → 80 ≤ y → am_mchk y = true := by decide +kernel
