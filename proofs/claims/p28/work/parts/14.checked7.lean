/-! Printed by program: each method's instructions are checked. -/
set_option maxRecDepth 100000 in
theorem pt_k_179_0 : pt_cks 179 0 96 = true := by decide +kernel
