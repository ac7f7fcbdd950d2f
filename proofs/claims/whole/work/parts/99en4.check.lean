set_option maxRecDepth 100000 in
theorem k_Model_pays_1_p0 : em_okm 224 (List.take 14 (List.take 40 (List.drop 40 em_c_Model_pays))) (List.take 14 (List.take 40 (List.drop 40 em_h_Model_pays))) = true := by decide +kernel
set_option maxRecDepth 100000 in
theorem k_Model_pays_1_p1 : em_okm 224 (List.take 12 (List.drop 14 (List.take 40 (List.drop 40 em_c_Model_pays)))) (List.take 12 (List.drop 14 (List.take 40 (List.drop 40 em_h_Model_pays)))) = true := by decide +kernel
set_option maxRecDepth 100000 in
theorem k_Model_pays_1_p2 : em_okm 224 (List.take 14 (List.drop 12 (List.drop 14 (List.take 40 (List.drop 40 em_c_Model_pays))))) (List.take 14 (List.drop 12 (List.drop 14 (List.take 40 (List.drop 40 em_h_Model_pays))))) = true := by decide +kernel
theorem k_Model_pays_1 : em_okm 224 (List.take 40 (List.drop 40 em_c_Model_pays)) (List.take 40 (List.drop 40 em_h_Model_pays)) = true := em_okm_split 14 k_Model_pays_1_p0 (em_okm_split 12 k_Model_pays_1_p1 (em_okm_split 14 k_Model_pays_1_p2 (rfl)))
set_option maxRecDepth 100000 in
theorem k_Model_pays_2_p0 : em_okm 224 (List.take 34 (List.take 40 (List.drop 40 (List.drop 40 em_c_Model_pays)))) (List.take 34 (List.take 40 (List.drop 40 (List.drop 40 em_h_Model_pays)))) = true := by decide +kernel
set_option maxRecDepth 100000 in
theorem k_Model_pays_2_p1 : em_okm 224 (List.take 6 (List.drop 34 (List.take 40 (List.drop 40 (List.drop 40 em_c_Model_pays))))) (List.take 6 (List.drop 34 (List.take 40 (List.drop 40 (List.drop 40 em_h_Model_pays))))) = true := by decide +kernel
theorem k_Model_pays_2 : em_okm 224 (List.take 40 (List.drop 40 (List.drop 40 em_c_Model_pays))) (List.take 40 (List.drop 40 (List.drop 40 em_h_Model_pays))) = true := em_okm_split 34 k_Model_pays_2_p0 (em_okm_split 6 k_Model_pays_2_p1 (rfl))
set_option maxRecDepth 100000 in
theorem k_Model_pays_3 : em_okm 224 (List.take 40 (List.drop 40 (List.drop 40 (List.drop 40 em_c_Model_pays)))) (List.take 40 (List.drop 40 (List.drop 40 (List.drop 40 em_h_Model_pays)))) = true := by decide +kernel
set_option maxRecDepth 100000 in
theorem k_Model_pays_4 : em_okm 224 (List.drop 40 (List.drop 40 (List.drop 40 (List.drop 40 em_c_Model_pays)))) (List.drop 40 (List.drop 40 (List.drop 40 (List.drop 40 em_h_Model_pays)))) = true := by decide +kernel
theorem k_Model_pays : em_okm 224 em_c_Model_pays em_h_Model_pays = true := em_okm_split 40 k_Model_pays_0 (em_okm_split 40 k_Model_pays_1 (em_okm_split 40 k_Model_pays_2 (em_okm_split 40 k_Model_pays_3 (k_Model_pays_4))))
