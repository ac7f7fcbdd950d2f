set_option maxRecDepth 100000 in
theorem k_Model_allKin : em_okm 196 em_c_Model_allKin em_h_Model_allKin = true := by decide +kernel
set_option maxRecDepth 100000 in
theorem k_Model_kin : em_okm 197 em_c_Model_kin em_h_Model_kin = true := by decide +kernel
set_option maxRecDepth 100000 in
theorem k_Model_has : em_okm 198 em_c_Model_has em_h_Model_has = true := by decide +kernel
set_option maxRecDepth 100000 in
theorem k_Model_findsHeads : em_okm 199 em_c_Model_findsHeads em_h_Model_findsHeads = true := by decide +kernel
set_option maxRecDepth 100000 in
theorem k_Model_setPart : em_okm 200 em_c_Model_setPart em_h_Model_setPart = true := by decide +kernel
set_option maxRecDepth 100000 in
theorem k_Model_count : em_okm 201 em_c_Model_count em_h_Model_count = true := by decide +kernel
