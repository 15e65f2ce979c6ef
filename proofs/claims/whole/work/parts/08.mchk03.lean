set_option maxRecDepth 100000 in
theorem am_mchk_3 : ∀ y, y < 160 → 120 ≤ y → am_mchk y = true := by decide +kernel
