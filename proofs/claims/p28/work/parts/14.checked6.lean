/-! Printed by program: each method's instructions are checked. -/
set_option maxRecDepth 100000 in
theorem pt_k_158_0 : pt_cks 158 0 16 = true := by decide +kernel
set_option maxRecDepth 100000 in
theorem pt_k_159_0 : pt_cks 159 0 16 = true := by decide +kernel
set_option maxRecDepth 100000 in
theorem pt_k_160_0 : pt_cks 160 0 16 = true := by decide +kernel
set_option maxRecDepth 100000 in
theorem pt_k_161_0 : pt_cks 161 0 16 = true := by decide +kernel
set_option maxRecDepth 100000 in
theorem pt_k_162_0 : pt_cks 162 0 16 = true := by decide +kernel
set_option maxRecDepth 100000 in
theorem pt_k_163_0 : pt_cks 163 0 16 = true := by decide +kernel
set_option maxRecDepth 100000 in
theorem pt_k_164_0 : pt_cks 164 0 16 = true := by decide +kernel
set_option maxRecDepth 100000 in
theorem pt_k_165_0 : pt_cks 165 0 16 = true := by decide +kernel
set_option maxRecDepth 100000 in
theorem pt_k_166_0 : pt_cks 166 0 16 = true := by decide +kernel
set_option maxRecDepth 100000 in
theorem pt_k_167_0 : pt_cks 167 0 16 = true := by decide +kernel
set_option maxRecDepth 100000 in
theorem pt_k_168_0 : pt_cks 168 0 16 = true := by decide +kernel
set_option maxRecDepth 100000 in
theorem pt_k_169_0 : pt_cks 169 0 16 = true := by decide +kernel
set_option maxRecDepth 100000 in
theorem pt_k_170_0 : pt_cks 170 0 32 = true := by decide +kernel
set_option maxRecDepth 100000 in
theorem pt_k_171_0 : pt_cks 171 0 16 = true := by decide +kernel
set_option maxRecDepth 100000 in
theorem pt_k_172_0 : pt_cks 172 0 96 = true := by decide +kernel
set_option maxRecDepth 100000 in
theorem pt_k_173_0 : pt_cks 173 0 112 = true := by decide +kernel
set_option maxRecDepth 100000 in
theorem pt_k_174_0 : pt_cks 174 0 160 = true := by decide +kernel
set_option maxRecDepth 100000 in
theorem pt_k_174_160 : pt_cks 174 160 320 = true := by decide +kernel
set_option maxRecDepth 100000 in
theorem pt_k_175_0 : pt_cks 175 0 160 = true := by decide +kernel
set_option maxRecDepth 100000 in
theorem pt_k_175_160 : pt_cks 175 160 192 = true := by decide +kernel
set_option maxRecDepth 100000 in
theorem pt_k_176_0 : pt_cks 176 0 160 = true := by decide +kernel
set_option maxRecDepth 100000 in
theorem pt_k_176_160 : pt_cks 176 160 320 = true := by decide +kernel
set_option maxRecDepth 100000 in
theorem pt_k_176_320 : pt_cks 176 320 480 = true := by decide +kernel
set_option maxRecDepth 100000 in
theorem pt_k_176_480 : pt_cks 176 480 640 = true := by decide +kernel
set_option maxRecDepth 100000 in
theorem pt_k_176_640 : pt_cks 176 640 688 = true := by decide +kernel
set_option maxRecDepth 100000 in
theorem pt_k_177_0 : pt_cks 177 0 160 = true := by decide +kernel
set_option maxRecDepth 100000 in
theorem pt_k_177_160 : pt_cks 177 160 288 = true := by decide +kernel
set_option maxRecDepth 100000 in
theorem pt_k_178_0 : pt_cks 178 0 160 = true := by decide +kernel
set_option maxRecDepth 100000 in
theorem pt_k_178_160 : pt_cks 178 160 320 = true := by decide +kernel
set_option maxRecDepth 100000 in
theorem pt_k_178_320 : pt_cks 178 320 416 = true := by decide +kernel
