set_option maxRecDepth 100000 in
theorem k_Model_wills_5_p0 : em_okm 225 (List.take 28 (List.take 40 (List.drop 40 (List.drop 40 (List.drop 40 (List.drop 40 (List.drop 40 em_c_Model_wills))))))) (List.take 28 (List.take 40 (List.drop 40 (List.drop 40 (List.drop 40 (List.drop 40 (List.drop 40 em_h_Model_wills))))))) = true := by decide +kernel
set_option maxRecDepth 100000 in
theorem k_Model_wills_5_p1 : em_okm 225 (List.take 10 (List.drop 28 (List.take 40 (List.drop 40 (List.drop 40 (List.drop 40 (List.drop 40 (List.drop 40 em_c_Model_wills)))))))) (List.take 10 (List.drop 28 (List.take 40 (List.drop 40 (List.drop 40 (List.drop 40 (List.drop 40 (List.drop 40 em_h_Model_wills)))))))) = true := by decide +kernel
theorem k_Model_wills_5 : em_okm 225 (List.take 40 (List.drop 40 (List.drop 40 (List.drop 40 (List.drop 40 (List.drop 40 em_c_Model_wills)))))) (List.take 40 (List.drop 40 (List.drop 40 (List.drop 40 (List.drop 40 (List.drop 40 em_h_Model_wills)))))) = true := em_okm_split 28 k_Model_wills_5_p0 (em_okm_split 10 k_Model_wills_5_p1 (rfl))
set_option maxRecDepth 100000 in
theorem k_Model_wills_6 : em_okm 225 (List.drop 40 (List.drop 40 (List.drop 40 (List.drop 40 (List.drop 40 (List.drop 40 em_c_Model_wills)))))) (List.drop 40 (List.drop 40 (List.drop 40 (List.drop 40 (List.drop 40 (List.drop 40 em_h_Model_wills)))))) = true := by decide +kernel
theorem k_Model_wills : em_okm 225 em_c_Model_wills em_h_Model_wills = true := em_okm_split 40 k_Model_wills_0 (em_okm_split 40 k_Model_wills_1 (em_okm_split 40 k_Model_wills_2 (em_okm_split 40 k_Model_wills_3 (em_okm_split 40 k_Model_wills_4 (em_okm_split 40 k_Model_wills_5 (k_Model_wills_6))))))
set_option maxRecDepth 100000 in
theorem k_Model_gives_p0 : em_okm 226 (List.take 33 em_c_Model_gives) (List.take 33 em_h_Model_gives) = true := by decide +kernel
set_option maxRecDepth 100000 in
theorem k_Model_gives_p1 : em_okm 226 (List.take 19 (List.drop 33 em_c_Model_gives)) (List.take 19 (List.drop 33 em_h_Model_gives)) = true := by decide +kernel
set_option maxRecDepth 100000 in
theorem k_Model_gives_p2 : em_okm 226 (List.take 3 (List.drop 19 (List.drop 33 em_c_Model_gives))) (List.take 3 (List.drop 19 (List.drop 33 em_h_Model_gives))) = true := by decide +kernel
set_option maxRecDepth 100000 in
theorem k_Model_gives_p3 : em_okm 226 (List.take 2 (List.drop 3 (List.drop 19 (List.drop 33 em_c_Model_gives)))) (List.take 2 (List.drop 3 (List.drop 19 (List.drop 33 em_h_Model_gives)))) = true := by decide +kernel
theorem k_Model_gives : em_okm 226 em_c_Model_gives em_h_Model_gives = true := em_okm_split 33 k_Model_gives_p0 (em_okm_split 19 k_Model_gives_p1 (em_okm_split 3 k_Model_gives_p2 (em_okm_split 2 k_Model_gives_p3 (rfl))))
set_option maxRecDepth 100000 in
theorem k_Model_keeps_0 : em_okm 227 (List.take 40 em_c_Model_keeps) (List.take 40 em_h_Model_keeps) = true := by decide +kernel
set_option maxRecDepth 100000 in
theorem k_Model_keeps_1 : em_okm 227 (List.take 40 (List.drop 40 em_c_Model_keeps)) (List.take 40 (List.drop 40 em_h_Model_keeps)) = true := by decide +kernel
