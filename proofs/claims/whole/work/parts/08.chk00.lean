set_option maxRecDepth 100000 in
theorem am_chk_0 : ∀ y, y < 34 → 0 ≤ y → ∀ pc, pc < mlen y → am_chk y pc = true := by decide +kernel
