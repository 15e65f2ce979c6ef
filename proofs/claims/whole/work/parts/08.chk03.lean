set_option maxRecDepth 100000 in
theorem am_chk_3 : ∀ y, y < 104 → 81 ≤ y → ∀ pc, pc < mlen y → am_chk y pc = true := by decide +kernel
