set_option maxRecDepth 100000 in
theorem k_Model_parts : em_okm 202 em_c_Model_parts em_h_Model_parts = true := by decide +kernel
set_option maxRecDepth 100000 in
theorem k_Model_restOf : em_okm 203 em_c_Model_restOf em_h_Model_restOf = true := by decide +kernel
set_option maxRecDepth 100000 in
theorem k_Model_backOf : em_okm 204 em_c_Model_backOf em_h_Model_backOf = true := by decide +kernel
