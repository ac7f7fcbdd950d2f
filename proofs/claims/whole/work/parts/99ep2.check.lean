set_option maxRecDepth 100000 in
theorem k_Model_takesBack : em_okm 230 em_c_Model_takesBack em_h_Model_takesBack = true := by decide +kernel
set_option maxRecDepth 100000 in
theorem k_Model_isDue : em_okm 231 em_c_Model_isDue em_h_Model_isDue = true := by decide +kernel
set_option maxRecDepth 100000 in
theorem k_Model_settle_0 : em_okm 232 (List.take 40 em_c_Model_settle) (List.take 40 em_h_Model_settle) = true := by decide +kernel
set_option maxRecDepth 100000 in
theorem k_Model_settle_1 : em_okm 232 (List.take 40 (List.drop 40 em_c_Model_settle)) (List.take 40 (List.drop 40 em_h_Model_settle)) = true := by decide +kernel
set_option maxRecDepth 100000 in
theorem k_Model_settle_2_p0 : em_okm 232 (List.take 15 (List.take 40 (List.drop 40 (List.drop 40 em_c_Model_settle)))) (List.take 15 (List.take 40 (List.drop 40 (List.drop 40 em_h_Model_settle)))) = true := by decide +kernel
set_option maxRecDepth 100000 in
theorem k_Model_settle_2_p1 : em_okm 232 (List.take 1 (List.drop 15 (List.take 40 (List.drop 40 (List.drop 40 em_c_Model_settle))))) (List.take 1 (List.drop 15 (List.take 40 (List.drop 40 (List.drop 40 em_h_Model_settle))))) = true := okm_virt (m2 := 223) (show List.take 1 (List.drop 15 (List.take 40 (List.drop 40 (List.drop 40 em_c_Model_settle)))) = [(179, (.invokevirtual 563, 3, [223, 2, 11], none))] from rfl) (show List.take 1 (List.drop 15 (List.take 40 (List.drop 40 (List.drop 40 em_h_Model_settle)))) = [[1931, 0, 117, 1934, 1933, 81]] from rfl) (by decide +kernel) rfl cw_223 (by decide +kernel)
set_option maxRecDepth 100000 in
theorem k_Model_settle_2_p2 : em_okm 232 (List.take 6 (List.drop 1 (List.drop 15 (List.take 40 (List.drop 40 (List.drop 40 em_c_Model_settle)))))) (List.take 6 (List.drop 1 (List.drop 15 (List.take 40 (List.drop 40 (List.drop 40 em_h_Model_settle)))))) = true := by decide +kernel
set_option maxRecDepth 100000 in
theorem k_Model_settle_2_p3 : em_okm 232 (List.take 1 (List.drop 6 (List.drop 1 (List.drop 15 (List.take 40 (List.drop 40 (List.drop 40 em_c_Model_settle))))))) (List.take 1 (List.drop 6 (List.drop 1 (List.drop 15 (List.take 40 (List.drop 40 (List.drop 40 em_h_Model_settle))))))) = true := okm_virt (m2 := 227) (show List.take 1 (List.drop 6 (List.drop 1 (List.drop 15 (List.take 40 (List.drop 40 (List.drop 40 em_c_Model_settle)))))) = [(195, (.invokevirtual 566, 3, [227, 2, 11], none))] from rfl) (show List.take 1 (List.drop 6 (List.drop 1 (List.drop 15 (List.take 40 (List.drop 40 (List.drop 40 em_h_Model_settle)))))) = [[2029, 0, 117, 2032, 2031, 102]] from rfl) (by decide +kernel) rfl cw_227 (by decide +kernel)
set_option maxRecDepth 100000 in
theorem k_Model_settle_2_p4 : em_okm 232 (List.take 17 (List.drop 1 (List.drop 6 (List.drop 1 (List.drop 15 (List.take 40 (List.drop 40 (List.drop 40 em_c_Model_settle)))))))) (List.take 17 (List.drop 1 (List.drop 6 (List.drop 1 (List.drop 15 (List.take 40 (List.drop 40 (List.drop 40 em_h_Model_settle)))))))) = true := by decide +kernel
theorem k_Model_settle_2 : em_okm 232 (List.take 40 (List.drop 40 (List.drop 40 em_c_Model_settle))) (List.take 40 (List.drop 40 (List.drop 40 em_h_Model_settle))) = true := em_okm_split 15 k_Model_settle_2_p0 (em_okm_split 1 k_Model_settle_2_p1 (em_okm_split 6 k_Model_settle_2_p2 (em_okm_split 1 k_Model_settle_2_p3 (em_okm_split 17 k_Model_settle_2_p4 (rfl)))))
