set_option maxRecDepth 100000 in
theorem am_chkL_360 : ∀ pc, pc < 420 → 360 ≤ pc → am_chk 222 pc = true := by decide +kernel
set_option maxRecDepth 100000 in
theorem am_chkL_420 : ∀ pc, pc < 480 → 420 ≤ pc → am_chk 222 pc = true := by decide +kernel
set_option maxRecDepth 100000 in
theorem am_chkL_480 : ∀ pc, pc < 540 → 480 ≤ pc → am_chk 222 pc = true := by decide +kernel
set_option maxRecDepth 100000 in
theorem am_chkL_540 : ∀ pc, pc < 600 → 540 ≤ pc → am_chk 222 pc = true := by decide +kernel
set_option maxRecDepth 100000 in
theorem am_chkL_600 : ∀ pc, pc < 660 → 600 ≤ pc → am_chk 222 pc = true := by decide +kernel
set_option maxRecDepth 100000 in
theorem am_chkL_660 : ∀ pc, pc < 720 → 660 ≤ pc → am_chk 222 pc = true := by decide +kernel
