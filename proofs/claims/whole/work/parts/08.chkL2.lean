set_option maxRecDepth 100000 in
theorem am_chkL_720 : ∀ pc, pc < 780 → 720 ≤ pc → am_chk 222 pc = true := by decide +kernel
set_option maxRecDepth 100000 in
theorem am_chkL_780 : ∀ pc, pc < 840 → 780 ≤ pc → am_chk 222 pc = true := by decide +kernel
set_option maxRecDepth 100000 in
theorem am_chkL_840 : ∀ pc, pc < 900 → 840 ≤ pc → am_chk 222 pc = true := by decide +kernel
set_option maxRecDepth 100000 in
theorem am_chkL_900 : ∀ pc, pc < 960 → 900 ≤ pc → am_chk 222 pc = true := by decide +kernel
set_option maxRecDepth 100000 in
theorem am_chkL_960 : ∀ pc, pc < 1020 → 960 ≤ pc → am_chk 222 pc = true := by decide +kernel
set_option maxRecDepth 100000 in
theorem am_chkL_1020 : ∀ pc, pc < 1080 → 1020 ≤ pc → am_chk 222 pc = true := by decide +kernel
