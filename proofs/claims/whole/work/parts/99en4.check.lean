set_option maxRecDepth 100000 in
theorem k_Model_pays_1 : em_okm 224 (List.take 40 (List.drop 40 em_c_Model_pays)) (List.take 40 (List.drop 40 em_h_Model_pays)) = true := by decide +kernel
set_option maxRecDepth 100000 in
theorem k_Model_pays_2 : em_okm 224 (List.take 40 (List.drop 40 (List.drop 40 em_c_Model_pays))) (List.take 40 (List.drop 40 (List.drop 40 em_h_Model_pays))) = true := by decide +kernel
set_option maxRecDepth 100000 in
theorem k_Model_pays_3 : em_okm 224 (List.take 40 (List.drop 40 (List.drop 40 (List.drop 40 em_c_Model_pays)))) (List.take 40 (List.drop 40 (List.drop 40 (List.drop 40 em_h_Model_pays)))) = true := by decide +kernel
set_option maxRecDepth 100000 in
theorem k_Model_pays_4 : em_okm 224 (List.drop 40 (List.drop 40 (List.drop 40 (List.drop 40 em_c_Model_pays)))) (List.drop 40 (List.drop 40 (List.drop 40 (List.drop 40 em_h_Model_pays)))) = true := by decide +kernel
theorem k_Model_pays : em_okm 224 em_c_Model_pays em_h_Model_pays = true := em_okm_split 40 k_Model_pays_0 (em_okm_split 40 k_Model_pays_1 (em_okm_split 40 k_Model_pays_2 (em_okm_split 40 k_Model_pays_3 (k_Model_pays_4))))
