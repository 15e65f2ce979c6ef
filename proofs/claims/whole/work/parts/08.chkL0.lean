set_option maxRecDepth 100000 in
theorem am_chkL_0 : ∀ pc, pc < 60 → 0 ≤ pc → am_chk 222 pc = true := by decide +kernel
set_option maxRecDepth 100000 in
theorem am_chkL_60 : ∀ pc, pc < 120 → 60 ≤ pc → am_chk 222 pc = true := by decide +kernel
set_option maxRecDepth 100000 in
theorem am_chkL_120 : ∀ pc, pc < 180 → 120 ≤ pc → am_chk 222 pc = true := by decide +kernel
set_option maxRecDepth 100000 in
theorem am_chkL_180 : ∀ pc, pc < 240 → 180 ≤ pc → am_chk 222 pc = true := by decide +kernel
set_option maxRecDepth 100000 in
theorem am_chkL_240 : ∀ pc, pc < 300 → 240 ≤ pc → am_chk 222 pc = true := by decide +kernel
set_option maxRecDepth 100000 in
theorem am_chkL_300 : ∀ pc, pc < 360 → 300 ≤ pc → am_chk 222 pc = true := by decide +kernel
