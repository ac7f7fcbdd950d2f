set_option maxRecDepth 100000 in
theorem k_Model_wills_0 : em_okm 225 (List.take 40 em_c_Model_wills) (List.take 40 em_h_Model_wills) = true := by decide +kernel
set_option maxRecDepth 100000 in
theorem k_Model_wills_1_p0 : em_okm 225 (List.take 9 (List.take 40 (List.drop 40 em_c_Model_wills))) (List.take 9 (List.take 40 (List.drop 40 em_h_Model_wills))) = true := by decide +kernel
set_option maxRecDepth 100000 in
theorem k_Model_wills_1_p1 : em_okm 225 (List.take 22 (List.drop 9 (List.take 40 (List.drop 40 em_c_Model_wills)))) (List.take 22 (List.drop 9 (List.take 40 (List.drop 40 em_h_Model_wills)))) = true := by decide +kernel
set_option maxRecDepth 100000 in
theorem k_Model_wills_1_p2 : em_okm 225 (List.take 9 (List.drop 22 (List.drop 9 (List.take 40 (List.drop 40 em_c_Model_wills))))) (List.take 9 (List.drop 22 (List.drop 9 (List.take 40 (List.drop 40 em_h_Model_wills))))) = true := by decide +kernel
theorem k_Model_wills_1 : em_okm 225 (List.take 40 (List.drop 40 em_c_Model_wills)) (List.take 40 (List.drop 40 em_h_Model_wills)) = true := em_okm_split 9 k_Model_wills_1_p0 (em_okm_split 22 k_Model_wills_1_p1 (em_okm_split 9 k_Model_wills_1_p2 (rfl)))
set_option maxRecDepth 100000 in
theorem k_Model_wills_2_p0 : em_okm 225 (List.take 34 (List.take 40 (List.drop 40 (List.drop 40 em_c_Model_wills)))) (List.take 34 (List.take 40 (List.drop 40 (List.drop 40 em_h_Model_wills)))) = true := by decide +kernel
set_option maxRecDepth 100000 in
theorem k_Model_wills_2_p1 : em_okm 225 (List.take 6 (List.drop 34 (List.take 40 (List.drop 40 (List.drop 40 em_c_Model_wills))))) (List.take 6 (List.drop 34 (List.take 40 (List.drop 40 (List.drop 40 em_h_Model_wills))))) = true := by decide +kernel
theorem k_Model_wills_2 : em_okm 225 (List.take 40 (List.drop 40 (List.drop 40 em_c_Model_wills))) (List.take 40 (List.drop 40 (List.drop 40 em_h_Model_wills))) = true := em_okm_split 34 k_Model_wills_2_p0 (em_okm_split 6 k_Model_wills_2_p1 (rfl))
set_option maxRecDepth 100000 in
theorem k_Model_wills_3_p0 : em_okm 225 (List.take 18 (List.take 40 (List.drop 40 (List.drop 40 (List.drop 40 em_c_Model_wills))))) (List.take 18 (List.take 40 (List.drop 40 (List.drop 40 (List.drop 40 em_h_Model_wills))))) = true := by decide +kernel
set_option maxRecDepth 100000 in
theorem k_Model_wills_3_p1 : em_okm 225 (List.take 8 (List.drop 18 (List.take 40 (List.drop 40 (List.drop 40 (List.drop 40 em_c_Model_wills)))))) (List.take 8 (List.drop 18 (List.take 40 (List.drop 40 (List.drop 40 (List.drop 40 em_h_Model_wills)))))) = true := by decide +kernel
set_option maxRecDepth 100000 in
theorem k_Model_wills_3_p2 : em_okm 225 (List.take 10 (List.drop 8 (List.drop 18 (List.take 40 (List.drop 40 (List.drop 40 (List.drop 40 em_c_Model_wills))))))) (List.take 10 (List.drop 8 (List.drop 18 (List.take 40 (List.drop 40 (List.drop 40 (List.drop 40 em_h_Model_wills))))))) = true := by decide +kernel
set_option maxRecDepth 100000 in
theorem k_Model_wills_3_p3 : em_okm 225 (List.take 4 (List.drop 10 (List.drop 8 (List.drop 18 (List.take 40 (List.drop 40 (List.drop 40 (List.drop 40 em_c_Model_wills)))))))) (List.take 4 (List.drop 10 (List.drop 8 (List.drop 18 (List.take 40 (List.drop 40 (List.drop 40 (List.drop 40 em_h_Model_wills)))))))) = true := by decide +kernel
theorem k_Model_wills_3 : em_okm 225 (List.take 40 (List.drop 40 (List.drop 40 (List.drop 40 em_c_Model_wills)))) (List.take 40 (List.drop 40 (List.drop 40 (List.drop 40 em_h_Model_wills)))) = true := em_okm_split 18 k_Model_wills_3_p0 (em_okm_split 8 k_Model_wills_3_p1 (em_okm_split 10 k_Model_wills_3_p2 (em_okm_split 4 k_Model_wills_3_p3 (rfl))))
set_option maxRecDepth 100000 in
theorem k_Model_wills_4_p0 : em_okm 225 (List.take 22 (List.take 40 (List.drop 40 (List.drop 40 (List.drop 40 (List.drop 40 em_c_Model_wills)))))) (List.take 22 (List.take 40 (List.drop 40 (List.drop 40 (List.drop 40 (List.drop 40 em_h_Model_wills)))))) = true := by decide +kernel
set_option maxRecDepth 100000 in
theorem k_Model_wills_4_p1 : em_okm 225 (List.take 18 (List.drop 22 (List.take 40 (List.drop 40 (List.drop 40 (List.drop 40 (List.drop 40 em_c_Model_wills))))))) (List.take 18 (List.drop 22 (List.take 40 (List.drop 40 (List.drop 40 (List.drop 40 (List.drop 40 em_h_Model_wills))))))) = true := by decide +kernel
theorem k_Model_wills_4 : em_okm 225 (List.take 40 (List.drop 40 (List.drop 40 (List.drop 40 (List.drop 40 em_c_Model_wills))))) (List.take 40 (List.drop 40 (List.drop 40 (List.drop 40 (List.drop 40 em_h_Model_wills))))) = true := em_okm_split 22 k_Model_wills_4_p0 (em_okm_split 18 k_Model_wills_4_p1 (rfl))
