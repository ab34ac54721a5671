/-! Printed by program: each method's instructions are checked. -/
set_option maxRecDepth 100000 in
theorem pt_k_150_0 : pt_cks 150 0 32 = true := by decide +kernel
set_option maxRecDepth 100000 in
theorem pt_k_151_0 : pt_cks 151 0 32 = true := by decide +kernel
set_option maxRecDepth 100000 in
theorem pt_k_152_0 : pt_cks 152 0 16 = true := by decide +kernel
set_option maxRecDepth 100000 in
theorem pt_k_153_0 : pt_cks 153 0 64 = true := by decide +kernel
set_option maxRecDepth 100000 in
theorem pt_k_154_0 : pt_cks 154 0 16 = true := by decide +kernel
set_option maxRecDepth 100000 in
theorem pt_k_155_0 : pt_cks 155 0 128 = true := by decide +kernel
set_option maxRecDepth 100000 in
theorem pt_k_156_0 : pt_cks 156 0 160 = true := by decide +kernel
set_option maxRecDepth 100000 in
theorem pt_k_156_160 : pt_cks 156 160 176 = true := by decide +kernel
set_option maxRecDepth 100000 in
theorem pt_k_157_0 : pt_cks 157 0 64 = true := by decide +kernel
set_option maxRecDepth 100000 in
theorem pt_k_158_0 : pt_cks 158 0 16 = true := by decide +kernel
set_option maxRecDepth 100000 in
theorem pt_k_159_0 : pt_cks 159 0 32 = true := by decide +kernel
set_option maxRecDepth 100000 in
theorem pt_k_160_0 : pt_cks 160 0 32 = true := by decide +kernel
set_option maxRecDepth 100000 in
theorem pt_k_161_0 : pt_cks 161 0 32 = true := by decide +kernel
set_option maxRecDepth 100000 in
theorem pt_k_162_0 : pt_cks 162 0 32 = true := by decide +kernel
set_option maxRecDepth 100000 in
theorem pt_k_163_0 : pt_cks 163 0 32 = true := by decide +kernel
set_option maxRecDepth 100000 in
theorem pt_k_164_0 : pt_cks 164 0 32 = true := by decide +kernel
set_option maxRecDepth 100000 in
theorem pt_k_165_0 : pt_cks 165 0 32 = true := by decide +kernel
set_option maxRecDepth 100000 in
theorem pt_k_166_0 : pt_cks 166 0 32 = true := by decide +kernel
set_option maxRecDepth 100000 in
theorem pt_k_167_0 : pt_cks 167 0 16 = true := by decide +kernel
set_option maxRecDepth 100000 in
theorem pt_k_168_0 : pt_cks 168 0 32 = true := by decide +kernel
set_option maxRecDepth 100000 in
theorem pt_k_169_0 : pt_cks 169 0 32 = true := by decide +kernel
set_option maxRecDepth 100000 in
theorem pt_k_170_0 : pt_cks 170 0 16 = true := by decide +kernel
set_option maxRecDepth 100000 in
theorem pt_k_171_0 : pt_cks 171 0 32 = true := by decide +kernel
set_option maxRecDepth 100000 in
theorem pt_k_172_0 : pt_cks 172 0 32 = true := by decide +kernel
set_option maxRecDepth 100000 in
theorem pt_k_173_0 : pt_cks 173 0 32 = true := by decide +kernel
set_option maxRecDepth 100000 in
theorem pt_k_174_0 : pt_cks 174 0 32 = true := by decide +kernel
set_option maxRecDepth 100000 in
theorem pt_k_175_0 : pt_cks 175 0 32 = true := by decide +kernel
set_option maxRecDepth 100000 in
theorem pt_k_176_0 : pt_cks 176 0 32 = true := by decide +kernel
set_option maxRecDepth 100000 in
theorem pt_k_177_0 : pt_cks 177 0 32 = true := by decide +kernel
set_option maxRecDepth 100000 in
theorem pt_k_178_0 : pt_cks 178 0 32 = true := by decide +kernel
