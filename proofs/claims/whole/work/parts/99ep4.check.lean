set_option maxRecDepth 100000 in
theorem k_Model_open_p0 : em_okm 235 (List.take 14 em_c_Model_open) (List.take 14 em_h_Model_open) = true := by decide +kernel
set_option maxRecDepth 100000 in
theorem k_Model_open_p1 : em_okm 235 (List.take 1 (List.drop 14 em_c_Model_open)) (List.take 1 (List.drop 14 em_h_Model_open)) = true := okm_virt (m2 := 228) (show List.take 1 (List.drop 14 em_c_Model_open) = [(23, (.invokevirtual 572, 3, [228, 3, 11], none))] from rfl) (show List.take 1 (List.drop 14 em_h_Model_open) = [[2045, 0, 117, 2048, 2047, 104]] from rfl) (by decide +kernel) rfl cw_228 (by decide +kernel)
set_option maxRecDepth 100000 in
theorem k_Model_open_p2 : em_okm 235 (List.take 5 (List.drop 1 (List.drop 14 em_c_Model_open))) (List.take 5 (List.drop 1 (List.drop 14 em_h_Model_open))) = true := by decide +kernel
theorem k_Model_open : em_okm 235 em_c_Model_open em_h_Model_open = true := em_okm_split 14 k_Model_open_p0 (em_okm_split 1 k_Model_open_p1 (em_okm_split 5 k_Model_open_p2 (rfl)))
set_option maxRecDepth 100000 in
theorem k_Model_estate : em_okm 236 em_c_Model_estate em_h_Model_estate = true := by decide +kernel
set_option maxRecDepth 100000 in
theorem k_Model_got : em_okm 237 em_c_Model_got em_h_Model_got = true := by decide +kernel
set_option maxRecDepth 100000 in
theorem k_Model_why : em_okm 238 em_c_Model_why em_h_Model_why = true := by decide +kernel
