set_option maxRecDepth 100000 in
theorem am_chk_6 : ∀ y, y < 174 → 157 ≤ y → ∀ pc, pc < mlen y → am_chk y pc = true := by decide +kernel
