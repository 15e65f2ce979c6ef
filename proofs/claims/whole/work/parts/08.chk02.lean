set_option maxRecDepth 100000 in
theorem am_chk_2 : ∀ y, y < 81 → 60 ≤ y → ∀ pc, pc < mlen y → am_chk y pc = true := by decide +kernel
