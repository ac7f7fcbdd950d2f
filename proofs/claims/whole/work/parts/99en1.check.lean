set_option maxRecDepth 100000 in
theorem k_Model_goesOn : em_okm 217 em_c_Model_goesOn em_h_Model_goesOn = true := by decide +kernel
set_option maxRecDepth 100000 in
theorem k_Model_shares : em_okm 218 em_c_Model_shares em_h_Model_shares = true := by decide +kernel
set_option maxRecDepth 100000 in
theorem k_Model_goesDown_0 : em_okm 219 (List.take 40 em_c_Model_goesDown) (List.take 40 em_h_Model_goesDown) = true := by decide +kernel
set_option maxRecDepth 100000 in
theorem k_Model_goesDown_1 : em_okm 219 (List.take 40 (List.drop 40 em_c_Model_goesDown)) (List.take 40 (List.drop 40 em_h_Model_goesDown)) = true := by decide +kernel
set_option maxRecDepth 100000 in
theorem k_Model_goesDown_2 : em_okm 219 (List.take 40 (List.drop 40 (List.drop 40 em_c_Model_goesDown))) (List.take 40 (List.drop 40 (List.drop 40 em_h_Model_goesDown))) = true := by decide +kernel
