set_option maxRecDepth 100000 in
theorem am_chk_5 : ∀ y, y < 157 → 138 ≤ y → ∀ pc, pc < mlen y → am_chk y pc = true := by decide +kernel
