/-! Printed by program: each method's instructions are checked. -/
set_option maxRecDepth 100000 in
theorem pt_k_179_0 : pt_cks 179 0 96 = true := by decide +kernel
set_option maxRecDepth 100000 in
theorem pt_k_179_96 : pt_cks 179 96 192 = true := by decide +kernel
set_option maxRecDepth 100000 in
theorem pt_k_179_192 : pt_cks 179 192 288 = true := by decide +kernel
set_option maxRecDepth 100000 in
theorem pt_k_179_288 : pt_cks 179 288 384 = true := by decide +kernel
set_option maxRecDepth 100000 in
theorem pt_k_179_384 : pt_cks 179 384 480 = true := by decide +kernel
set_option maxRecDepth 100000 in
theorem pt_k_179_480 : pt_cks 179 480 576 = true := by decide +kernel
set_option maxRecDepth 100000 in
theorem pt_k_179_576 : pt_cks 179 576 672 = true := by decide +kernel
set_option maxRecDepth 100000 in
theorem pt_k_179_672 : pt_cks 179 672 768 = true := by decide +kernel
