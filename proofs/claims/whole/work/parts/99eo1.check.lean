set_option maxRecDepth 100000 in
theorem k_Model_wills_0 : em_okm 225 (List.take 40 em_c_Model_wills) (List.take 40 em_h_Model_wills) = true := by decide +kernel
set_option maxRecDepth 100000 in
theorem k_Model_wills_1 : em_okm 225 (List.take 40 (List.drop 40 em_c_Model_wills)) (List.take 40 (List.drop 40 em_h_Model_wills)) = true := by decide +kernel
set_option maxRecDepth 100000 in
theorem k_Model_wills_2 : em_okm 225 (List.take 40 (List.drop 40 (List.drop 40 em_c_Model_wills))) (List.take 40 (List.drop 40 (List.drop 40 em_h_Model_wills))) = true := by decide +kernel
set_option maxRecDepth 100000 in
theorem k_Model_wills_3 : em_okm 225 (List.take 40 (List.drop 40 (List.drop 40 (List.drop 40 em_c_Model_wills)))) (List.take 40 (List.drop 40 (List.drop 40 (List.drop 40 em_h_Model_wills)))) = true := by decide +kernel
set_option maxRecDepth 100000 in
theorem k_Model_wills_4 : em_okm 225 (List.take 40 (List.drop 40 (List.drop 40 (List.drop 40 (List.drop 40 em_c_Model_wills))))) (List.take 40 (List.drop 40 (List.drop 40 (List.drop 40 (List.drop 40 em_h_Model_wills))))) = true := by decide +kernel
