set_option maxRecDepth 100000 in
theorem k_Model_goesDown_3 : em_okm 219 (List.take 40 (List.drop 40 (List.drop 40 (List.drop 40 em_c_Model_goesDown)))) (List.take 40 (List.drop 40 (List.drop 40 (List.drop 40 em_h_Model_goesDown)))) = true := by decide +kernel
set_option maxRecDepth 100000 in
theorem k_Model_goesDown_4 : em_okm 219 (List.drop 40 (List.drop 40 (List.drop 40 (List.drop 40 em_c_Model_goesDown)))) (List.drop 40 (List.drop 40 (List.drop 40 (List.drop 40 em_h_Model_goesDown)))) = true := by decide +kernel
theorem k_Model_goesDown : em_okm 219 em_c_Model_goesDown em_h_Model_goesDown = true := em_okm_split 40 k_Model_goesDown_0 (em_okm_split 40 k_Model_goesDown_1 (em_okm_split 40 k_Model_goesDown_2 (em_okm_split 40 k_Model_goesDown_3 (k_Model_goesDown_4))))
set_option maxRecDepth 100000 in
theorem k_Model_isOfLine : em_okm 220 em_c_Model_isOfLine em_h_Model_isOfLine = true := by decide +kernel
set_option maxRecDepth 100000 in
theorem k_Model_earns : em_okm 221 em_c_Model_earns em_h_Model_earns = true := by decide +kernel
set_option maxRecDepth 100000 in
theorem k_Model_earnsOut : em_okm 222 em_c_Model_earnsOut em_h_Model_earnsOut = true := by decide +kernel
