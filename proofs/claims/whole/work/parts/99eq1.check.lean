set_option maxRecDepth 100000 in
theorem k_Model_rule : em_okm 239 em_c_Model_rule em_h_Model_rule = true := by decide +kernel
set_option maxRecDepth 100000 in
theorem k_Model_told : em_okm 240 em_c_Model_told em_h_Model_told = true := by decide +kernel
set_option maxRecDepth 100000 in
theorem k_Model_outside : em_okm 241 em_c_Model_outside em_h_Model_outside = true := by decide +kernel
set_option maxRecDepth 100000 in
theorem k_Model_count1 : em_okm 242 em_c_Model_count1 em_h_Model_count1 = true := by decide +kernel
