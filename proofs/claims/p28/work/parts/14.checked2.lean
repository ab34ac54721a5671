/-! Printed by program: each method's instructions are checked. -/
set_option maxRecDepth 100000 in
theorem pt_k_32_0 : pt_cks 32 0 16 = true := by decide +kernel
set_option maxRecDepth 100000 in
theorem pt_k_33_0 : pt_cks 33 0 32 = true := by decide +kernel
set_option maxRecDepth 100000 in
theorem pt_k_34_0 : pt_cks 34 0 32 = true := by decide +kernel
set_option maxRecDepth 100000 in
theorem pt_k_35_0 : pt_cks 35 0 48 = true := by decide +kernel
set_option maxRecDepth 100000 in
theorem pt_k_36_0 : pt_cks 36 0 80 = true := by decide +kernel
set_option maxRecDepth 100000 in
theorem pt_k_37_0 : pt_cks 37 0 80 = true := by decide +kernel
set_option maxRecDepth 100000 in
theorem pt_k_38_0 : pt_cks 38 0 16 = true := by decide +kernel
set_option maxRecDepth 100000 in
theorem pt_k_39_0 : pt_cks 39 0 16 = true := by decide +kernel
set_option maxRecDepth 100000 in
theorem pt_k_40_0 : pt_cks 40 0 16 = true := by decide +kernel
set_option maxRecDepth 100000 in
theorem pt_k_41_0 : pt_cks 41 0 16 = true := by decide +kernel
set_option maxRecDepth 100000 in
theorem pt_k_42_0 : pt_cks 42 0 16 = true := by decide +kernel
set_option maxRecDepth 100000 in
theorem pt_k_43_0 : pt_cks 43 0 16 = true := by decide +kernel
set_option maxRecDepth 100000 in
theorem pt_k_44_0 : pt_cks 44 0 16 = true := by decide +kernel
set_option maxRecDepth 100000 in
theorem pt_k_45_0 : pt_cks 45 0 16 = true := by decide +kernel
set_option maxRecDepth 100000 in
theorem pt_k_46_0 : pt_cks 46 0 16 = true := by decide +kernel
set_option maxRecDepth 100000 in
theorem pt_k_47_0 : pt_cks 47 0 16 = true := by decide +kernel
set_option maxRecDepth 100000 in
theorem pt_k_48_0 : pt_cks 48 0 16 = true := by decide +kernel
set_option maxRecDepth 100000 in
theorem pt_k_49_0 : pt_cks 49 0 32 = true := by decide +kernel
set_option maxRecDepth 100000 in
theorem pt_k_50_0 : pt_cks 50 0 16 = true := by decide +kernel
set_option maxRecDepth 100000 in
theorem pt_k_51_0 : pt_cks 51 0 16 = true := by decide +kernel
set_option maxRecDepth 100000 in
theorem pt_k_52_0 : pt_cks 52 0 16 = true := by decide +kernel
set_option maxRecDepth 100000 in
theorem pt_k_53_0 : pt_cks 53 0 112 = true := by decide +kernel
set_option maxRecDepth 100000 in
theorem pt_k_54_0 : pt_cks 54 0 112 = true := by decide +kernel
set_option maxRecDepth 100000 in
theorem pt_k_55_0 : pt_cks 55 0 48 = true := by decide +kernel
set_option maxRecDepth 100000 in
theorem pt_k_56_0 : pt_cks 56 0 112 = true := by decide +kernel
set_option maxRecDepth 100000 in
theorem pt_k_57_0 : pt_cks 57 0 96 = true := by decide +kernel
set_option maxRecDepth 100000 in
theorem pt_k_58_0 : pt_cks 58 0 112 = true := by decide +kernel
set_option maxRecDepth 100000 in
theorem pt_k_59_0 : pt_cks 59 0 112 = true := by decide +kernel
set_option maxRecDepth 100000 in
theorem pt_k_60_0 : pt_cks 60 0 80 = true := by decide +kernel
set_option maxRecDepth 100000 in
theorem pt_k_61_0 : pt_cks 61 0 48 = true := by decide +kernel
set_option maxRecDepth 100000 in
theorem pt_k_62_0 : pt_cks 62 0 16 = true := by decide +kernel
set_option maxRecDepth 100000 in
theorem pt_k_63_0 : pt_cks 63 0 16 = true := by decide +kernel
