set_option maxRecDepth 100000 in
theorem k_Model_wills_5 : em_okm 225 (List.take 40 (List.drop 40 (List.drop 40 (List.drop 40 (List.drop 40 (List.drop 40 em_c_Model_wills)))))) (List.take 40 (List.drop 40 (List.drop 40 (List.drop 40 (List.drop 40 (List.drop 40 em_h_Model_wills)))))) = true := by decide +kernel
set_option maxRecDepth 100000 in
theorem k_Model_wills_6 : em_okm 225 (List.drop 40 (List.drop 40 (List.drop 40 (List.drop 40 (List.drop 40 (List.drop 40 em_c_Model_wills)))))) (List.drop 40 (List.drop 40 (List.drop 40 (List.drop 40 (List.drop 40 (List.drop 40 em_h_Model_wills)))))) = true := by decide +kernel
theorem k_Model_wills : em_okm 225 em_c_Model_wills em_h_Model_wills = true := em_okm_split 40 k_Model_wills_0 (em_okm_split 40 k_Model_wills_1 (em_okm_split 40 k_Model_wills_2 (em_okm_split 40 k_Model_wills_3 (em_okm_split 40 k_Model_wills_4 (em_okm_split 40 k_Model_wills_5 (k_Model_wills_6))))))
set_option maxRecDepth 100000 in
theorem k_Model_gives : em_okm 226 em_c_Model_gives em_h_Model_gives = true := by decide +kernel
set_option maxRecDepth 100000 in
theorem k_Model_keeps_0 : em_okm 227 (List.take 40 em_c_Model_keeps) (List.take 40 em_h_Model_keeps) = true := by decide +kernel
set_option maxRecDepth 100000 in
theorem k_Model_keeps_1 : em_okm 227 (List.take 40 (List.drop 40 em_c_Model_keeps)) (List.take 40 (List.drop 40 em_h_Model_keeps)) = true := by decide +kernel
