set_option maxRecDepth 100000 in
theorem k_Model_settle_3 : em_okm 232 (List.take 40 (List.drop 40 (List.drop 40 (List.drop 40 em_c_Model_settle)))) (List.take 40 (List.drop 40 (List.drop 40 (List.drop 40 em_h_Model_settle)))) = true := by decide +kernel
set_option maxRecDepth 100000 in
theorem k_Model_settle_4 : em_okm 232 (List.take 40 (List.drop 40 (List.drop 40 (List.drop 40 (List.drop 40 em_c_Model_settle))))) (List.take 40 (List.drop 40 (List.drop 40 (List.drop 40 (List.drop 40 em_h_Model_settle))))) = true := by decide +kernel
set_option maxRecDepth 100000 in
theorem k_Model_settle_5 : em_okm 232 (List.drop 40 (List.drop 40 (List.drop 40 (List.drop 40 (List.drop 40 em_c_Model_settle))))) (List.drop 40 (List.drop 40 (List.drop 40 (List.drop 40 (List.drop 40 em_h_Model_settle))))) = true := by decide +kernel
theorem k_Model_settle : em_okm 232 em_c_Model_settle em_h_Model_settle = true := em_okm_split 40 k_Model_settle_0 (em_okm_split 40 k_Model_settle_1 (em_okm_split 40 k_Model_settle_2 (em_okm_split 40 k_Model_settle_3 (em_okm_split 40 k_Model_settle_4 (k_Model_settle_5)))))
set_option maxRecDepth 100000 in
theorem k_Model_undo : em_okm 233 em_c_Model_undo em_h_Model_undo = true := by decide +kernel
set_option maxRecDepth 100000 in
theorem k_Model_would_p0 : em_okm 234 (List.take 12 em_c_Model_would) (List.take 12 em_h_Model_would) = true := by decide +kernel
set_option maxRecDepth 100000 in
theorem k_Model_would_p1 : em_okm 234 (List.take 12 (List.drop 12 em_c_Model_would)) (List.take 12 (List.drop 12 em_h_Model_would)) = true := by decide +kernel
set_option maxRecDepth 100000 in
theorem k_Model_would_p2 : em_okm 234 (List.take 14 (List.drop 12 (List.drop 12 em_c_Model_would))) (List.take 14 (List.drop 12 (List.drop 12 em_h_Model_would))) = true := by decide +kernel
set_option maxRecDepth 100000 in
theorem k_Model_would_p3 : em_okm 234 (List.take 11 (List.drop 14 (List.drop 12 (List.drop 12 em_c_Model_would)))) (List.take 11 (List.drop 14 (List.drop 12 (List.drop 12 em_h_Model_would)))) = true := by decide +kernel
set_option maxRecDepth 100000 in
theorem k_Model_would_p4 : em_okm 234 (List.take 4 (List.drop 11 (List.drop 14 (List.drop 12 (List.drop 12 em_c_Model_would))))) (List.take 4 (List.drop 11 (List.drop 14 (List.drop 12 (List.drop 12 em_h_Model_would))))) = true := by decide +kernel
set_option maxRecDepth 100000 in
theorem k_Model_would_p5 : em_okm 234 (List.take 8 (List.drop 4 (List.drop 11 (List.drop 14 (List.drop 12 (List.drop 12 em_c_Model_would)))))) (List.take 8 (List.drop 4 (List.drop 11 (List.drop 14 (List.drop 12 (List.drop 12 em_h_Model_would)))))) = true := by decide +kernel
set_option maxRecDepth 100000 in
theorem k_Model_would_p6 : em_okm 234 (List.drop 8 (List.drop 4 (List.drop 11 (List.drop 14 (List.drop 12 (List.drop 12 em_c_Model_would)))))) (List.drop 8 (List.drop 4 (List.drop 11 (List.drop 14 (List.drop 12 (List.drop 12 em_h_Model_would)))))) = true := by decide +kernel
theorem k_Model_would : em_okm 234 em_c_Model_would em_h_Model_would = true := em_okm_split 12 k_Model_would_p0 (em_okm_split 12 k_Model_would_p1 (em_okm_split 14 k_Model_would_p2 (em_okm_split 11 k_Model_would_p3 (em_okm_split 4 k_Model_would_p4 (em_okm_split 8 k_Model_would_p5 (k_Model_would_p6))))))
