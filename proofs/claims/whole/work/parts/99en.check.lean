set_option maxRecDepth 100000 in
theorem k_Model_goesOn : em_okm 217 em_c_Model_goesOn em_h_Model_goesOn = true := by decide +kernel
set_option maxRecDepth 100000 in
theorem k_Model_shares : em_okm 218 em_c_Model_shares em_h_Model_shares = true := by decide +kernel
set_option maxRecDepth 100000 in
theorem k_Model_goesDown_0 : em_okm 219 (List.take 40 em_c_Model_goesDown) (List.take 40 em_h_Model_goesDown) = true := by decide +kernel
set_option maxRecDepth 100000 in
theorem k_Model_goesDown_1 : em_okm 219 (List.take 40 (List.drop 40 em_c_Model_goesDown)) (List.take 40 (List.drop 40 em_h_Model_goesDown)) = true := by decide +kernel
set_option maxRecDepth 100000 in
theorem k_Model_goesDown_2 : em_okm 219 (List.take 40 (List.drop 40 (List.drop 40 em_c_Model_goesDown))) (List.take 40 (List.drop 40 (List.drop 40 em_h_Model_goesDown))) = true := by decide +kernel
set_option maxRecDepth 100000 in
theorem k_Model_goesDown_3 : em_okm 219 (List.take 40 (List.drop 40 (List.drop 40 (List.drop 40 em_c_Model_goesDown)))) (List.take 40 (List.drop 40 (List.drop 40 (List.drop 40 em_h_Model_goesDown)))) = true := by decide +kernel
set_option maxRecDepth 100000 in
theorem k_Model_goesDown_4 : em_okm 219 (List.drop 40 (List.drop 40 (List.drop 40 (List.drop 40 em_c_Model_goesDown)))) (List.drop 40 (List.drop 40 (List.drop 40 (List.drop 40 em_h_Model_goesDown)))) = true := by decide +kernel
theorem k_Model_goesDown : em_okm 219 em_c_Model_goesDown em_h_Model_goesDown = true := em_okm_split 40 k_Model_goesDown_0 (em_okm_split 40 k_Model_goesDown_1 (em_okm_split 40 k_Model_goesDown_2 (em_okm_split 40 k_Model_goesDown_3 (k_Model_goesDown_4))))
set_option maxRecDepth 100000 in
theorem k_Model_isOfLine : em_okm 220 em_c_Model_isOfLine em_h_Model_isOfLine = true := by decide +kernel
set_option maxRecDepth 100000 in
theorem k_Model_earns : em_okm 221 em_c_Model_earns em_h_Model_earns = true := by decide +kernel
set_option maxRecDepth 100000 in
theorem k_Model_earnsOut : em_okm 222 em_c_Model_earnsOut em_h_Model_earnsOut = true := by decide +kernel
set_option maxRecDepth 100000 in
theorem k_Model_settles_0 : em_okm 223 (List.take 40 em_c_Model_settles) (List.take 40 em_h_Model_settles) = true := by decide +kernel
set_option maxRecDepth 100000 in
theorem k_Model_settles_1 : em_okm 223 (List.take 40 (List.drop 40 em_c_Model_settles)) (List.take 40 (List.drop 40 em_h_Model_settles)) = true := by decide +kernel
set_option maxRecDepth 100000 in
theorem k_Model_settles_2 : em_okm 223 (List.take 40 (List.drop 40 (List.drop 40 em_c_Model_settles))) (List.take 40 (List.drop 40 (List.drop 40 em_h_Model_settles))) = true := by decide +kernel
set_option maxRecDepth 100000 in
theorem k_Model_settles_3 : em_okm 223 (List.drop 40 (List.drop 40 (List.drop 40 em_c_Model_settles))) (List.drop 40 (List.drop 40 (List.drop 40 em_h_Model_settles))) = true := by decide +kernel
theorem k_Model_settles : em_okm 223 em_c_Model_settles em_h_Model_settles = true := em_okm_split 40 k_Model_settles_0 (em_okm_split 40 k_Model_settles_1 (em_okm_split 40 k_Model_settles_2 (k_Model_settles_3)))
set_option maxRecDepth 100000 in
theorem k_Model_pays_0 : em_okm 224 (List.take 40 em_c_Model_pays) (List.take 40 em_h_Model_pays) = true := by decide +kernel
set_option maxRecDepth 100000 in
theorem k_Model_pays_1 : em_okm 224 (List.take 40 (List.drop 40 em_c_Model_pays)) (List.take 40 (List.drop 40 em_h_Model_pays)) = true := by decide +kernel
set_option maxRecDepth 100000 in
theorem k_Model_pays_2 : em_okm 224 (List.take 40 (List.drop 40 (List.drop 40 em_c_Model_pays))) (List.take 40 (List.drop 40 (List.drop 40 em_h_Model_pays))) = true := by decide +kernel
set_option maxRecDepth 100000 in
theorem k_Model_pays_3 : em_okm 224 (List.take 40 (List.drop 40 (List.drop 40 (List.drop 40 em_c_Model_pays)))) (List.take 40 (List.drop 40 (List.drop 40 (List.drop 40 em_h_Model_pays)))) = true := by decide +kernel
set_option maxRecDepth 100000 in
theorem k_Model_pays_4 : em_okm 224 (List.drop 40 (List.drop 40 (List.drop 40 (List.drop 40 em_c_Model_pays)))) (List.drop 40 (List.drop 40 (List.drop 40 (List.drop 40 em_h_Model_pays)))) = true := by decide +kernel
theorem k_Model_pays : em_okm 224 em_c_Model_pays em_h_Model_pays = true := em_okm_split 40 k_Model_pays_0 (em_okm_split 40 k_Model_pays_1 (em_okm_split 40 k_Model_pays_2 (em_okm_split 40 k_Model_pays_3 (k_Model_pays_4))))
