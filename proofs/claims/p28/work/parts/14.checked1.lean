/-! Printed by program: each method's instructions are checked. -/
set_option maxRecDepth 100000 in
theorem pt_k_0_0 : pt_cks 0 0 16 = true := by decide +kernel
set_option maxRecDepth 100000 in
theorem pt_k_1_0 : pt_cks 1 0 112 = true := by decide +kernel
set_option maxRecDepth 100000 in
theorem pt_k_2_0 : pt_cks 2 0 80 = true := by decide +kernel
set_option maxRecDepth 100000 in
theorem pt_k_3_0 : pt_cks 3 0 160 = true := by decide +kernel
set_option maxRecDepth 100000 in
theorem pt_k_4_0 : pt_cks 4 0 48 = true := by decide +kernel
set_option maxRecDepth 100000 in
theorem pt_k_5_0 : pt_cks 5 0 64 = true := by decide +kernel
set_option maxRecDepth 100000 in
theorem pt_k_6_0 : pt_cks 6 0 48 = true := by decide +kernel
set_option maxRecDepth 100000 in
theorem pt_k_7_0 : pt_cks 7 0 112 = true := by decide +kernel
set_option maxRecDepth 100000 in
theorem pt_k_8_0 : pt_cks 8 0 128 = true := by decide +kernel
set_option maxRecDepth 100000 in
theorem pt_k_9_0 : pt_cks 9 0 128 = true := by decide +kernel
set_option maxRecDepth 100000 in
theorem pt_k_10_0 : pt_cks 10 0 32 = true := by decide +kernel
set_option maxRecDepth 100000 in
theorem pt_k_11_0 : pt_cks 11 0 112 = true := by decide +kernel
set_option maxRecDepth 100000 in
theorem pt_k_12_0 : pt_cks 12 0 32 = true := by decide +kernel
set_option maxRecDepth 100000 in
theorem pt_k_13_0 : pt_cks 13 0 32 = true := by decide +kernel
set_option maxRecDepth 100000 in
theorem pt_k_14_0 : pt_cks 14 0 48 = true := by decide +kernel
set_option maxRecDepth 100000 in
theorem pt_k_15_0 : pt_cks 15 0 48 = true := by decide +kernel
set_option maxRecDepth 100000 in
theorem pt_k_16_0 : pt_cks 16 0 48 = true := by decide +kernel
set_option maxRecDepth 100000 in
theorem pt_k_17_0 : pt_cks 17 0 32 = true := by decide +kernel
set_option maxRecDepth 100000 in
theorem pt_k_18_0 : pt_cks 18 0 64 = true := by decide +kernel
set_option maxRecDepth 100000 in
theorem pt_k_19_0 : pt_cks 19 0 96 = true := by decide +kernel
set_option maxRecDepth 100000 in
theorem pt_k_20_0 : pt_cks 20 0 64 = true := by decide +kernel
set_option maxRecDepth 100000 in
theorem pt_k_21_0 : pt_cks 21 0 80 = true := by decide +kernel
set_option maxRecDepth 100000 in
theorem pt_k_22_0 : pt_cks 22 0 48 = true := by decide +kernel
set_option maxRecDepth 100000 in
theorem pt_k_23_0 : pt_cks 23 0 16 = true := by decide +kernel
set_option maxRecDepth 100000 in
theorem pt_k_24_0 : pt_cks 24 0 64 = true := by decide +kernel
set_option maxRecDepth 100000 in
theorem pt_k_25_0 : pt_cks 25 0 80 = true := by decide +kernel
set_option maxRecDepth 100000 in
theorem pt_k_26_0 : pt_cks 26 0 32 = true := by decide +kernel
set_option maxRecDepth 100000 in
theorem pt_k_27_0 : pt_cks 27 0 96 = true := by decide +kernel
set_option maxRecDepth 100000 in
theorem pt_k_28_0 : pt_cks 28 0 16 = true := by decide +kernel
set_option maxRecDepth 100000 in
theorem pt_k_29_0 : pt_cks 29 0 16 = true := by decide +kernel
set_option maxRecDepth 100000 in
theorem pt_k_30_0 : pt_cks 30 0 32 = true := by decide +kernel
set_option maxRecDepth 100000 in
theorem pt_k_31_0 : pt_cks 31 0 32 = true := by decide +kernel
