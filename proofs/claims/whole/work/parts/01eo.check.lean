set_option maxRecDepth 100000 in
theorem k_Model_wills : em_okm 213 em_c_Model_wills em_h_Model_wills = true := by decide +kernel
set_option maxRecDepth 100000 in
theorem k_Model_gives : em_okm 214 em_c_Model_gives em_h_Model_gives = true := by decide +kernel
set_option maxRecDepth 100000 in
theorem k_Model_keeps : em_okm 215 em_c_Model_keeps em_h_Model_keeps = true := by decide +kernel
