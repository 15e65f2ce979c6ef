set_option maxRecDepth 100000 in
theorem am_chk_4 : ∀ y, y < 138 → 104 ≤ y → ∀ pc, pc < mlen y → am_chk y pc = true := by decide +kernel
