theorem am_chk_all : ∀ y pc, am_chk y pc = true := sorry
theorem am_mchk_all : ∀ y, y < 222 → am_mchk y = true := sorry
theorem am_mml_le : ∀ y, y < 222 → mml y ≤ 40 := by decide +kernel
