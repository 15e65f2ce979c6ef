set_option maxRecDepth 100000 in
theorem am_chk_10 : ∀ y, y < 223 → 222 ≤ y → ∀ pc, pc < mlen y → am_chk y pc = true := by decide +kernel
