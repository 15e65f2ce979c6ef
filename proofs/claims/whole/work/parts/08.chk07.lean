set_option maxRecDepth 100000 in
theorem am_chk_7 : ∀ y, y < 193 → 174 ≤ y → ∀ pc, pc < mlen y → am_chk y pc = true := by decide +kernel
