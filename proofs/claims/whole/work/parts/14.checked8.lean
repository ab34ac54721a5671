/-! Printed by program: each method's instructions are checked. -/
set_option maxRecDepth 100000 in
theorem pt_k_179_768 : pt_cks 179 768 864 = true := by decide +kernel
set_option maxRecDepth 100000 in
theorem pt_k_179_864 : pt_cks 179 864 960 = true := by decide +kernel
set_option maxRecDepth 100000 in
theorem pt_k_179_960 : pt_cks 179 960 1056 = true := by decide +kernel
set_option maxRecDepth 100000 in
theorem pt_k_179_1056 : pt_cks 179 1056 1152 = true := by decide +kernel
set_option maxRecDepth 100000 in
theorem pt_k_179_1152 : pt_cks 179 1152 1248 = true := by decide +kernel
set_option maxRecDepth 100000 in
theorem pt_k_179_1248 : pt_cks 179 1248 1344 = true := by decide +kernel
set_option maxRecDepth 100000 in
theorem pt_k_179_1344 : pt_cks 179 1344 1440 = true := by decide +kernel
set_option maxRecDepth 100000 in
theorem pt_k_179_1440 : pt_cks 179 1440 1488 = true := by decide +kernel
