set_option maxRecDepth 100000 in
theorem am_mchk_4 : ∀ y, y < 200 → 160 ≤ y → am_mchk y = true := by decide +kernel
