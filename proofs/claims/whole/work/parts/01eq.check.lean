set_option maxRecDepth 100000 in
theorem k_Model_rule : em_okm 227 em_c_Model_rule em_h_Model_rule = true := by decide +kernel
set_option maxRecDepth 100000 in
theorem k_Model_told : em_okm 228 em_c_Model_told em_h_Model_told = true := by decide +kernel
set_option maxRecDepth 100000 in
theorem k_Model_outside : em_okm 229 em_c_Model_outside em_h_Model_outside = true := by decide +kernel
set_option maxRecDepth 100000 in
theorem k_Model_count2 : em_okm 230 em_c_Model_count2 em_h_Model_count2 = true := by decide +kernel
