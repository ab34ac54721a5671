/-! Printed by program: each method's instructions are checked. -/
set_option maxRecDepth 100000 in
theorem pt_k_94_0 : pt_cks 94 0 16 = true := by decide +kernel
set_option maxRecDepth 100000 in
theorem pt_k_95_0 : pt_cks 95 0 16 = true := by decide +kernel
set_option maxRecDepth 100000 in
theorem pt_k_96_0 : pt_cks 96 0 16 = true := by decide +kernel
set_option maxRecDepth 100000 in
theorem pt_k_97_0 : pt_cks 97 0 16 = true := by decide +kernel
set_option maxRecDepth 100000 in
theorem pt_k_98_0 : pt_cks 98 0 16 = true := by decide +kernel
set_option maxRecDepth 100000 in
theorem pt_k_99_0 : pt_cks 99 0 16 = true := by decide +kernel
set_option maxRecDepth 100000 in
theorem pt_k_100_0 : pt_cks 100 0 16 = true := by decide +kernel
set_option maxRecDepth 100000 in
theorem pt_k_101_0 : pt_cks 101 0 16 = true := by decide +kernel
set_option maxRecDepth 100000 in
theorem pt_k_102_0 : pt_cks 102 0 16 = true := by decide +kernel
set_option maxRecDepth 100000 in
theorem pt_k_103_0 : pt_cks 103 0 16 = true := by decide +kernel
set_option maxRecDepth 100000 in
theorem pt_k_104_0 : pt_cks 104 0 16 = true := by decide +kernel
set_option maxRecDepth 100000 in
theorem pt_k_105_0 : pt_cks 105 0 16 = true := by decide +kernel
set_option maxRecDepth 100000 in
theorem pt_k_106_0 : pt_cks 106 0 16 = true := by decide +kernel
set_option maxRecDepth 100000 in
theorem pt_k_107_0 : pt_cks 107 0 16 = true := by decide +kernel
set_option maxRecDepth 100000 in
theorem pt_k_108_0 : pt_cks 108 0 16 = true := by decide +kernel
set_option maxRecDepth 100000 in
theorem pt_k_109_0 : pt_cks 109 0 16 = true := by decide +kernel
set_option maxRecDepth 100000 in
theorem pt_k_110_0 : pt_cks 110 0 16 = true := by decide +kernel
set_option maxRecDepth 100000 in
theorem pt_k_111_0 : pt_cks 111 0 16 = true := by decide +kernel
set_option maxRecDepth 100000 in
theorem pt_k_112_0 : pt_cks 112 0 16 = true := by decide +kernel
set_option maxRecDepth 100000 in
theorem pt_k_113_0 : pt_cks 113 0 16 = true := by decide +kernel
set_option maxRecDepth 100000 in
theorem pt_k_114_0 : pt_cks 114 0 16 = true := by decide +kernel
set_option maxRecDepth 100000 in
theorem pt_k_115_0 : pt_cks 115 0 16 = true := by decide +kernel
set_option maxRecDepth 100000 in
theorem pt_k_116_0 : pt_cks 116 0 16 = true := by decide +kernel
set_option maxRecDepth 100000 in
theorem pt_k_117_0 : pt_cks 117 0 16 = true := by decide +kernel
set_option maxRecDepth 100000 in
theorem pt_k_118_0 : pt_cks 118 0 16 = true := by decide +kernel
set_option maxRecDepth 100000 in
theorem pt_k_119_0 : pt_cks 119 0 16 = true := by decide +kernel
set_option maxRecDepth 100000 in
theorem pt_k_120_0 : pt_cks 120 0 16 = true := by decide +kernel
set_option maxRecDepth 100000 in
theorem pt_k_121_0 : pt_cks 121 0 16 = true := by decide +kernel
set_option maxRecDepth 100000 in
theorem pt_k_122_0 : pt_cks 122 0 16 = true := by decide +kernel
set_option maxRecDepth 100000 in
theorem pt_k_123_0 : pt_cks 123 0 16 = true := by decide +kernel
set_option maxRecDepth 100000 in
theorem pt_k_124_0 : pt_cks 124 0 16 = true := by decide +kernel
set_option maxRecDepth 100000 in
theorem pt_k_125_0 : pt_cks 125 0 16 = true := by decide +kernel
