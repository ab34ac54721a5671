/-! Printed by program: each method's instructions are checked. -/
set_option maxRecDepth 100000 in
theorem pt_k_64_0 : pt_cks 64 0 16 = true := by decide +kernel
set_option maxRecDepth 100000 in
theorem pt_k_65_0 : pt_cks 65 0 16 = true := by decide +kernel
set_option maxRecDepth 100000 in
theorem pt_k_66_0 : pt_cks 66 0 16 = true := by decide +kernel
set_option maxRecDepth 100000 in
theorem pt_k_67_0 : pt_cks 67 0 16 = true := by decide +kernel
set_option maxRecDepth 100000 in
theorem pt_k_68_0 : pt_cks 68 0 48 = true := by decide +kernel
set_option maxRecDepth 100000 in
theorem pt_k_69_0 : pt_cks 69 0 160 = true := by decide +kernel
set_option maxRecDepth 100000 in
theorem pt_k_69_160 : pt_cks 69 160 192 = true := by decide +kernel
set_option maxRecDepth 100000 in
theorem pt_k_70_0 : pt_cks 70 0 48 = true := by decide +kernel
set_option maxRecDepth 100000 in
theorem pt_k_71_0 : pt_cks 71 0 144 = true := by decide +kernel
set_option maxRecDepth 100000 in
theorem pt_k_72_0 : pt_cks 72 0 32 = true := by decide +kernel
set_option maxRecDepth 100000 in
theorem pt_k_73_0 : pt_cks 73 0 160 = true := by decide +kernel
set_option maxRecDepth 100000 in
theorem pt_k_73_160 : pt_cks 73 160 192 = true := by decide +kernel
set_option maxRecDepth 100000 in
theorem pt_k_74_0 : pt_cks 74 0 32 = true := by decide +kernel
set_option maxRecDepth 100000 in
theorem pt_k_75_0 : pt_cks 75 0 80 = true := by decide +kernel
set_option maxRecDepth 100000 in
theorem pt_k_76_0 : pt_cks 76 0 80 = true := by decide +kernel
set_option maxRecDepth 100000 in
theorem pt_k_77_0 : pt_cks 77 0 80 = true := by decide +kernel
set_option maxRecDepth 100000 in
theorem pt_k_78_0 : pt_cks 78 0 80 = true := by decide +kernel
set_option maxRecDepth 100000 in
theorem pt_k_79_0 : pt_cks 79 0 32 = true := by decide +kernel
set_option maxRecDepth 100000 in
theorem pt_k_80_0 : pt_cks 80 0 16 = true := by decide +kernel
set_option maxRecDepth 100000 in
theorem pt_k_81_0 : pt_cks 81 0 16 = true := by decide +kernel
set_option maxRecDepth 100000 in
theorem pt_k_82_0 : pt_cks 82 0 16 = true := by decide +kernel
set_option maxRecDepth 100000 in
theorem pt_k_83_0 : pt_cks 83 0 16 = true := by decide +kernel
set_option maxRecDepth 100000 in
theorem pt_k_84_0 : pt_cks 84 0 16 = true := by decide +kernel
set_option maxRecDepth 100000 in
theorem pt_k_85_0 : pt_cks 85 0 16 = true := by decide +kernel
set_option maxRecDepth 100000 in
theorem pt_k_86_0 : pt_cks 86 0 16 = true := by decide +kernel
set_option maxRecDepth 100000 in
theorem pt_k_87_0 : pt_cks 87 0 16 = true := by decide +kernel
set_option maxRecDepth 100000 in
theorem pt_k_88_0 : pt_cks 88 0 16 = true := by decide +kernel
set_option maxRecDepth 100000 in
theorem pt_k_89_0 : pt_cks 89 0 16 = true := by decide +kernel
set_option maxRecDepth 100000 in
theorem pt_k_90_0 : pt_cks 90 0 16 = true := by decide +kernel
set_option maxRecDepth 100000 in
theorem pt_k_91_0 : pt_cks 91 0 16 = true := by decide +kernel
set_option maxRecDepth 100000 in
theorem pt_k_92_0 : pt_cks 92 0 16 = true := by decide +kernel
set_option maxRecDepth 100000 in
theorem pt_k_93_0 : pt_cks 93 0 16 = true := by decide +kernel
