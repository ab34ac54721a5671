/-! Printed by program: each method's instructions are checked. -/
set_option maxRecDepth 100000 in
theorem pt_k_126_0 : pt_cks 126 0 16 = true := by decide +kernel
set_option maxRecDepth 100000 in
theorem pt_k_127_0 : pt_cks 127 0 16 = true := by decide +kernel
set_option maxRecDepth 100000 in
theorem pt_k_128_0 : pt_cks 128 0 16 = true := by decide +kernel
set_option maxRecDepth 100000 in
theorem pt_k_129_0 : pt_cks 129 0 16 = true := by decide +kernel
set_option maxRecDepth 100000 in
theorem pt_k_130_0 : pt_cks 130 0 16 = true := by decide +kernel
set_option maxRecDepth 100000 in
theorem pt_k_131_0 : pt_cks 131 0 16 = true := by decide +kernel
set_option maxRecDepth 100000 in
theorem pt_k_132_0 : pt_cks 132 0 16 = true := by decide +kernel
set_option maxRecDepth 100000 in
theorem pt_k_133_0 : pt_cks 133 0 16 = true := by decide +kernel
set_option maxRecDepth 100000 in
theorem pt_k_134_0 : pt_cks 134 0 16 = true := by decide +kernel
set_option maxRecDepth 100000 in
theorem pt_k_135_0 : pt_cks 135 0 16 = true := by decide +kernel
set_option maxRecDepth 100000 in
theorem pt_k_136_0 : pt_cks 136 0 16 = true := by decide +kernel
set_option maxRecDepth 100000 in
theorem pt_k_137_0 : pt_cks 137 0 16 = true := by decide +kernel
set_option maxRecDepth 100000 in
theorem pt_k_138_0 : pt_cks 138 0 16 = true := by decide +kernel
set_option maxRecDepth 100000 in
theorem pt_k_139_0 : pt_cks 139 0 16 = true := by decide +kernel
set_option maxRecDepth 100000 in
theorem pt_k_140_0 : pt_cks 140 0 16 = true := by decide +kernel
set_option maxRecDepth 100000 in
theorem pt_k_141_0 : pt_cks 141 0 16 = true := by decide +kernel
set_option maxRecDepth 100000 in
theorem pt_k_142_0 : pt_cks 142 0 16 = true := by decide +kernel
set_option maxRecDepth 100000 in
theorem pt_k_143_0 : pt_cks 143 0 16 = true := by decide +kernel
set_option maxRecDepth 100000 in
theorem pt_k_144_0 : pt_cks 144 0 16 = true := by decide +kernel
set_option maxRecDepth 100000 in
theorem pt_k_145_0 : pt_cks 145 0 16 = true := by decide +kernel
set_option maxRecDepth 100000 in
theorem pt_k_146_0 : pt_cks 146 0 16 = true := by decide +kernel
set_option maxRecDepth 100000 in
theorem pt_k_147_0 : pt_cks 147 0 16 = true := by decide +kernel
set_option maxRecDepth 100000 in
theorem pt_k_148_0 : pt_cks 148 0 16 = true := by decide +kernel
set_option maxRecDepth 100000 in
theorem pt_k_149_0 : pt_cks 149 0 16 = true := by decide +kernel
set_option maxRecDepth 100000 in
theorem pt_k_150_0 : pt_cks 150 0 16 = true := by decide +kernel
set_option maxRecDepth 100000 in
theorem pt_k_151_0 : pt_cks 151 0 16 = true := by decide +kernel
set_option maxRecDepth 100000 in
theorem pt_k_152_0 : pt_cks 152 0 16 = true := by decide +kernel
set_option maxRecDepth 100000 in
theorem pt_k_153_0 : pt_cks 153 0 16 = true := by decide +kernel
set_option maxRecDepth 100000 in
theorem pt_k_154_0 : pt_cks 154 0 16 = true := by decide +kernel
set_option maxRecDepth 100000 in
theorem pt_k_155_0 : pt_cks 155 0 16 = true := by decide +kernel
set_option maxRecDepth 100000 in
theorem pt_k_156_0 : pt_cks 156 0 16 = true := by decide +kernel
set_option maxRecDepth 100000 in
theorem pt_k_157_0 : pt_cks 157 0 64 = true := by decide +kernel
