set_option maxRecDepth 100000 in
theorem am_chk_9 : ∀ y, y < 222 → 219 ≤ y → ∀ pc, pc < mlen y → am_chk y pc = true := by decide +kernel
