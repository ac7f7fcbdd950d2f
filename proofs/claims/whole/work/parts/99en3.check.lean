set_option maxRecDepth 100000 in
theorem k_Model_settles_0 : em_okm 223 (List.take 40 em_c_Model_settles) (List.take 40 em_h_Model_settles) = true := by decide +kernel
set_option maxRecDepth 100000 in
theorem k_Model_settles_1_p0 : em_okm 223 (List.take 29 (List.take 40 (List.drop 40 em_c_Model_settles))) (List.take 29 (List.take 40 (List.drop 40 em_h_Model_settles))) = true := by decide +kernel
set_option maxRecDepth 100000 in
theorem k_Model_settles_1_p1 : em_okm 223 (List.drop 29 (List.take 40 (List.drop 40 em_c_Model_settles))) (List.drop 29 (List.take 40 (List.drop 40 em_h_Model_settles))) = true := by decide +kernel
theorem k_Model_settles_1 : em_okm 223 (List.take 40 (List.drop 40 em_c_Model_settles)) (List.take 40 (List.drop 40 em_h_Model_settles)) = true := em_okm_split 29 k_Model_settles_1_p0 (k_Model_settles_1_p1)
set_option maxRecDepth 100000 in
theorem k_Model_settles_2_p0 : em_okm 223 (List.take 13 (List.take 40 (List.drop 40 (List.drop 40 em_c_Model_settles)))) (List.take 13 (List.take 40 (List.drop 40 (List.drop 40 em_h_Model_settles)))) = true := by decide +kernel
set_option maxRecDepth 100000 in
theorem k_Model_settles_2_p1 : em_okm 223 (List.take 5 (List.drop 13 (List.take 40 (List.drop 40 (List.drop 40 em_c_Model_settles))))) (List.take 5 (List.drop 13 (List.take 40 (List.drop 40 (List.drop 40 em_h_Model_settles))))) = true := by decide +kernel
set_option maxRecDepth 100000 in
theorem k_Model_settles_2_p2 : em_okm 223 (List.drop 5 (List.drop 13 (List.take 40 (List.drop 40 (List.drop 40 em_c_Model_settles))))) (List.drop 5 (List.drop 13 (List.take 40 (List.drop 40 (List.drop 40 em_h_Model_settles))))) = true := by decide +kernel
theorem k_Model_settles_2 : em_okm 223 (List.take 40 (List.drop 40 (List.drop 40 em_c_Model_settles))) (List.take 40 (List.drop 40 (List.drop 40 em_h_Model_settles))) = true := em_okm_split 13 k_Model_settles_2_p0 (em_okm_split 5 k_Model_settles_2_p1 (k_Model_settles_2_p2))
set_option maxRecDepth 100000 in
theorem k_Model_settles_3 : em_okm 223 (List.drop 40 (List.drop 40 (List.drop 40 em_c_Model_settles))) (List.drop 40 (List.drop 40 (List.drop 40 em_h_Model_settles))) = true := by decide +kernel
theorem k_Model_settles : em_okm 223 em_c_Model_settles em_h_Model_settles = true := em_okm_split 40 k_Model_settles_0 (em_okm_split 40 k_Model_settles_1 (em_okm_split 40 k_Model_settles_2 (k_Model_settles_3)))
set_option maxRecDepth 100000 in
theorem k_Model_pays_0 : em_okm 224 (List.take 40 em_c_Model_pays) (List.take 40 em_h_Model_pays) = true := by decide +kernel
