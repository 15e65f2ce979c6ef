set_option maxRecDepth 100000 in
theorem am_chk_1 : ∀ y, y < 60 → 34 ≤ y → ∀ pc, pc < mlen y → am_chk y pc = true := by decide +kernel
