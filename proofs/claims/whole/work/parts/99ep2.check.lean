set_option maxRecDepth 100000 in
theorem k_Model_takesBack : em_okm 230 em_c_Model_takesBack em_h_Model_takesBack = true := by decide +kernel
set_option maxRecDepth 100000 in
theorem k_Model_isDue : em_okm 231 em_c_Model_isDue em_h_Model_isDue = true := by decide +kernel
set_option maxRecDepth 100000 in
theorem k_Model_settle_0 : em_okm 232 (List.take 40 em_c_Model_settle) (List.take 40 em_h_Model_settle) = true := by decide +kernel
set_option maxRecDepth 100000 in
theorem k_Model_settle_1 : em_okm 232 (List.take 40 (List.drop 40 em_c_Model_settle)) (List.take 40 (List.drop 40 em_h_Model_settle)) = true := by decide +kernel
set_option maxRecDepth 100000 in
theorem k_Model_settle_2_p0 : em_okm 232 (List.take 22 (List.take 40 (List.drop 40 (List.drop 40 em_c_Model_settle)))) (List.take 22 (List.take 40 (List.drop 40 (List.drop 40 em_h_Model_settle)))) = true := by decide +kernel
set_option maxRecDepth 100000 in
theorem k_Model_settle_2_p1 : em_okm 232 (List.drop 22 (List.take 40 (List.drop 40 (List.drop 40 em_c_Model_settle)))) (List.drop 22 (List.take 40 (List.drop 40 (List.drop 40 em_h_Model_settle)))) = true := by decide +kernel
theorem k_Model_settle_2 : em_okm 232 (List.take 40 (List.drop 40 (List.drop 40 em_c_Model_settle))) (List.take 40 (List.drop 40 (List.drop 40 em_h_Model_settle))) = true := em_okm_split 22 k_Model_settle_2_p0 (k_Model_settle_2_p1)
