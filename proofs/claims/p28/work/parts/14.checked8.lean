/-! Printed by program: each method's instructions are checked. -/
set_option maxRecDepth 100000 in
theorem pt_k_179_96 : pt_cks 179 96 192 = true := by decide +kernel
set_option maxRecDepth 100000 in
theorem pt_k_179_192 : pt_cks 179 192 256 = true := by decide +kernel
