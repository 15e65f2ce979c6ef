set_option maxRecDepth 100000 in
theorem am_chkL_1080 : ∀ pc, pc < 1140 → 1080 ≤ pc → am_chk 222 pc = true := by decide +kernel
set_option maxRecDepth 100000 in
theorem am_chkL_1140 : ∀ pc, pc < 1200 → 1140 ≤ pc → am_chk 222 pc = true := by decide +kernel
set_option maxRecDepth 100000 in
theorem am_chkL_1200 : ∀ pc, pc < 1260 → 1200 ≤ pc → am_chk 222 pc = true := by decide +kernel
set_option maxRecDepth 100000 in
theorem am_chkL_1260 : ∀ pc, pc < 1320 → 1260 ≤ pc → am_chk 222 pc = true := by decide +kernel
