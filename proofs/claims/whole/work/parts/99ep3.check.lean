set_option maxRecDepth 100000 in
theorem k_Model_settle_3 : em_okm 232 (List.take 40 (List.drop 40 (List.drop 40 (List.drop 40 em_c_Model_settle)))) (List.take 40 (List.drop 40 (List.drop 40 (List.drop 40 em_h_Model_settle)))) = true := by decide +kernel
set_option maxRecDepth 100000 in
theorem k_Model_settle_4 : em_okm 232 (List.take 40 (List.drop 40 (List.drop 40 (List.drop 40 (List.drop 40 em_c_Model_settle))))) (List.take 40 (List.drop 40 (List.drop 40 (List.drop 40 (List.drop 40 em_h_Model_settle))))) = true := by decide +kernel
set_option maxRecDepth 100000 in
theorem k_Model_settle_5 : em_okm 232 (List.drop 40 (List.drop 40 (List.drop 40 (List.drop 40 (List.drop 40 em_c_Model_settle))))) (List.drop 40 (List.drop 40 (List.drop 40 (List.drop 40 (List.drop 40 em_h_Model_settle))))) = true := by decide +kernel
theorem k_Model_settle : em_okm 232 em_c_Model_settle em_h_Model_settle = true := em_okm_split 40 k_Model_settle_0 (em_okm_split 40 k_Model_settle_1 (em_okm_split 40 k_Model_settle_2 (em_okm_split 40 k_Model_settle_3 (em_okm_split 40 k_Model_settle_4 (k_Model_settle_5)))))
set_option maxRecDepth 100000 in
theorem k_Model_undo : em_okm 233 em_c_Model_undo em_h_Model_undo = true := by decide +kernel
set_option maxRecDepth 100000 in
theorem k_Model_would_p0 : em_okm 234 (List.take 12 em_c_Model_would) (List.take 12 em_h_Model_would) = true := by decide +kernel
set_option maxRecDepth 100000 in
theorem k_Model_would_p1 : em_okm 234 (List.take 12 (List.drop 12 em_c_Model_would)) (List.take 12 (List.drop 12 em_h_Model_would)) = true := by decide +kernel
set_option maxRecDepth 100000 in
theorem k_Model_would_p2 : em_okm 234 (List.take 14 (List.drop 12 (List.drop 12 em_c_Model_would))) (List.take 14 (List.drop 12 (List.drop 12 em_h_Model_would))) = true := by decide +kernel
set_option maxRecDepth 100000 in
theorem k_Model_would_p3 : em_okm 234 (List.take 1 (List.drop 14 (List.drop 12 (List.drop 12 em_c_Model_would)))) (List.take 1 (List.drop 14 (List.drop 12 (List.drop 12 em_h_Model_would)))) = true := okm_virt (m2 := 223) (show List.take 1 (List.drop 14 (List.drop 12 (List.drop 12 em_c_Model_would))) = [(63, (.invokevirtual 563, 3, [223, 2, 11], none))] from rfl) (show List.take 1 (List.drop 14 (List.drop 12 (List.drop 12 em_h_Model_would))) = [[1931, 0, 117, 1934, 1933, 81]] from rfl) (by decide +kernel) rfl cw_223 (by decide +kernel)
set_option maxRecDepth 100000 in
theorem k_Model_would_p4 : em_okm 234 (List.take 10 (List.drop 1 (List.drop 14 (List.drop 12 (List.drop 12 em_c_Model_would))))) (List.take 10 (List.drop 1 (List.drop 14 (List.drop 12 (List.drop 12 em_h_Model_would))))) = true := by decide +kernel
set_option maxRecDepth 100000 in
theorem k_Model_would_p5 : em_okm 234 (List.take 1 (List.drop 10 (List.drop 1 (List.drop 14 (List.drop 12 (List.drop 12 em_c_Model_would)))))) (List.take 1 (List.drop 10 (List.drop 1 (List.drop 14 (List.drop 12 (List.drop 12 em_h_Model_would)))))) = true := okm_virt (m2 := 227) (show List.take 1 (List.drop 10 (List.drop 1 (List.drop 14 (List.drop 12 (List.drop 12 em_c_Model_would))))) = [(83, (.invokevirtual 566, 3, [227, 2, 11], none))] from rfl) (show List.take 1 (List.drop 10 (List.drop 1 (List.drop 14 (List.drop 12 (List.drop 12 em_h_Model_would))))) = [[2029, 0, 117, 2032, 2031, 102]] from rfl) (by decide +kernel) rfl cw_227 (by decide +kernel)
set_option maxRecDepth 100000 in
theorem k_Model_would_p6 : em_okm 234 (List.take 3 (List.drop 1 (List.drop 10 (List.drop 1 (List.drop 14 (List.drop 12 (List.drop 12 em_c_Model_would))))))) (List.take 3 (List.drop 1 (List.drop 10 (List.drop 1 (List.drop 14 (List.drop 12 (List.drop 12 em_h_Model_would))))))) = true := by decide +kernel
set_option maxRecDepth 100000 in
theorem k_Model_would_p7 : em_okm 234 (List.take 1 (List.drop 3 (List.drop 1 (List.drop 10 (List.drop 1 (List.drop 14 (List.drop 12 (List.drop 12 em_c_Model_would)))))))) (List.take 1 (List.drop 3 (List.drop 1 (List.drop 10 (List.drop 1 (List.drop 14 (List.drop 12 (List.drop 12 em_h_Model_would)))))))) = true := okm_virt (m2 := 228) (show List.take 1 (List.drop 3 (List.drop 1 (List.drop 10 (List.drop 1 (List.drop 14 (List.drop 12 (List.drop 12 em_c_Model_would))))))) = [(91, (.invokevirtual 572, 3, [228, 3, 11], none))] from rfl) (show List.take 1 (List.drop 3 (List.drop 1 (List.drop 10 (List.drop 1 (List.drop 14 (List.drop 12 (List.drop 12 em_h_Model_would))))))) = [[2045, 0, 117, 2048, 2047, 104]] from rfl) (by decide +kernel) rfl cw_228 (by decide +kernel)
set_option maxRecDepth 100000 in
theorem k_Model_would_p8 : em_okm 234 (List.take 15 (List.drop 1 (List.drop 3 (List.drop 1 (List.drop 10 (List.drop 1 (List.drop 14 (List.drop 12 (List.drop 12 em_c_Model_would))))))))) (List.take 15 (List.drop 1 (List.drop 3 (List.drop 1 (List.drop 10 (List.drop 1 (List.drop 14 (List.drop 12 (List.drop 12 em_h_Model_would))))))))) = true := by decide +kernel
theorem k_Model_would : em_okm 234 em_c_Model_would em_h_Model_would = true := em_okm_split 12 k_Model_would_p0 (em_okm_split 12 k_Model_would_p1 (em_okm_split 14 k_Model_would_p2 (em_okm_split 1 k_Model_would_p3 (em_okm_split 10 k_Model_would_p4 (em_okm_split 1 k_Model_would_p5 (em_okm_split 3 k_Model_would_p6 (em_okm_split 1 k_Model_would_p7 (em_okm_split 15 k_Model_would_p8 (rfl)))))))))
