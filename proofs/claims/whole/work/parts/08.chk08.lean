set_option maxRecDepth 100000 in
theorem am_chk_8 : ∀ y, y < 219 → 193 ≤ y → ∀ pc, pc < mlen y → am_chk y pc = true := by decide +kernel
