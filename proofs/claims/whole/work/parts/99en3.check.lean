set_option maxRecDepth 100000 in
theorem k_Model_settles_0 : em_okm 223 (List.take 40 em_c_Model_settles) (List.take 40 em_h_Model_settles) = true := by decide +kernel
set_option maxRecDepth 100000 in
theorem k_Model_settles_1_p0 : em_okm 223 (List.take 29 (List.take 40 (List.drop 40 em_c_Model_settles))) (List.take 29 (List.take 40 (List.drop 40 em_h_Model_settles))) = true := by decide +kernel
set_option maxRecDepth 100000 in
theorem k_Model_settles_1_p1 : em_okm 223 (List.take 1 (List.drop 29 (List.take 40 (List.drop 40 em_c_Model_settles)))) (List.take 1 (List.drop 29 (List.take 40 (List.drop 40 em_h_Model_settles)))) = true := okm_virt (m2 := 224) (show List.take 1 (List.drop 29 (List.take 40 (List.drop 40 em_c_Model_settles))) = [(115, (.invokevirtual 517, 3, [224, 2, 11], none))] from rfl) (show List.take 1 (List.drop 29 (List.take 40 (List.drop 40 em_h_Model_settles))) = [[1939, 0, 117, 1942, 1941, 83]] from rfl) (by decide +kernel) rfl cw_224 (by decide +kernel)
set_option maxRecDepth 100000 in
theorem k_Model_settles_1_p2 : em_okm 223 (List.take 10 (List.drop 1 (List.drop 29 (List.take 40 (List.drop 40 em_c_Model_settles))))) (List.take 10 (List.drop 1 (List.drop 29 (List.take 40 (List.drop 40 em_h_Model_settles))))) = true := by decide +kernel
theorem k_Model_settles_1 : em_okm 223 (List.take 40 (List.drop 40 em_c_Model_settles)) (List.take 40 (List.drop 40 em_h_Model_settles)) = true := em_okm_split 29 k_Model_settles_1_p0 (em_okm_split 1 k_Model_settles_1_p1 (em_okm_split 10 k_Model_settles_1_p2 (rfl)))
set_option maxRecDepth 100000 in
theorem k_Model_settles_2_p0 : em_okm 223 (List.take 8 (List.take 40 (List.drop 40 (List.drop 40 em_c_Model_settles)))) (List.take 8 (List.take 40 (List.drop 40 (List.drop 40 em_h_Model_settles)))) = true := by decide +kernel
set_option maxRecDepth 100000 in
theorem k_Model_settles_2_p1 : em_okm 223 (List.take 1 (List.drop 8 (List.take 40 (List.drop 40 (List.drop 40 em_c_Model_settles))))) (List.take 1 (List.drop 8 (List.take 40 (List.drop 40 (List.drop 40 em_h_Model_settles))))) = true := okm_virt (m2 := 225) (show List.take 1 (List.drop 8 (List.take 40 (List.drop 40 (List.drop 40 em_c_Model_settles)))) = [(152, (.invokevirtual 526, 3, [225, 1, 11], none))] from rfl) (show List.take 1 (List.drop 8 (List.take 40 (List.drop 40 (List.drop 40 em_h_Model_settles)))) = [[1971, 0, 117, 1974, 1973, 89]] from rfl) (by decide +kernel) rfl cw_225 (by decide +kernel)
set_option maxRecDepth 100000 in
theorem k_Model_settles_2_p2 : em_okm 223 (List.take 4 (List.drop 1 (List.drop 8 (List.take 40 (List.drop 40 (List.drop 40 em_c_Model_settles)))))) (List.take 4 (List.drop 1 (List.drop 8 (List.take 40 (List.drop 40 (List.drop 40 em_h_Model_settles)))))) = true := by decide +kernel
set_option maxRecDepth 100000 in
theorem k_Model_settles_2_p3 : em_okm 223 (List.take 1 (List.drop 4 (List.drop 1 (List.drop 8 (List.take 40 (List.drop 40 (List.drop 40 em_c_Model_settles))))))) (List.take 1 (List.drop 4 (List.drop 1 (List.drop 8 (List.take 40 (List.drop 40 (List.drop 40 em_h_Model_settles))))))) = true := okm_virt (m2 := 214) (show List.take 1 (List.drop 4 (List.drop 1 (List.drop 8 (List.take 40 (List.drop 40 (List.drop 40 em_c_Model_settles)))))) = [(163, (.invokevirtual 529, 3, [214, 1, 11], none))] from rfl) (show List.take 1 (List.drop 4 (List.drop 1 (List.drop 8 (List.take 40 (List.drop 40 (List.drop 40 em_h_Model_settles)))))) = [[1983, 0, 117, 1986, 1985, 92]] from rfl) (by decide +kernel) rfl cw_214 (by decide +kernel)
set_option maxRecDepth 100000 in
theorem k_Model_settles_2_p4 : em_okm 223 (List.take 16 (List.drop 1 (List.drop 4 (List.drop 1 (List.drop 8 (List.take 40 (List.drop 40 (List.drop 40 em_c_Model_settles)))))))) (List.take 16 (List.drop 1 (List.drop 4 (List.drop 1 (List.drop 8 (List.take 40 (List.drop 40 (List.drop 40 em_h_Model_settles)))))))) = true := by decide +kernel
theorem k_Model_settles_2 : em_okm 223 (List.take 40 (List.drop 40 (List.drop 40 em_c_Model_settles))) (List.take 40 (List.drop 40 (List.drop 40 em_h_Model_settles))) = true := em_okm_split 8 k_Model_settles_2_p0 (em_okm_split 1 k_Model_settles_2_p1 (em_okm_split 4 k_Model_settles_2_p2 (em_okm_split 1 k_Model_settles_2_p3 (em_okm_split 16 k_Model_settles_2_p4 (rfl)))))
set_option maxRecDepth 100000 in
theorem k_Model_settles_3 : em_okm 223 (List.drop 40 (List.drop 40 (List.drop 40 em_c_Model_settles))) (List.drop 40 (List.drop 40 (List.drop 40 em_h_Model_settles))) = true := by decide +kernel
theorem k_Model_settles : em_okm 223 em_c_Model_settles em_h_Model_settles = true := em_okm_split 40 k_Model_settles_0 (em_okm_split 40 k_Model_settles_1 (em_okm_split 40 k_Model_settles_2 (k_Model_settles_3)))
set_option maxRecDepth 100000 in
theorem k_Model_pays_0 : em_okm 224 (List.take 40 em_c_Model_pays) (List.take 40 em_h_Model_pays) = true := by decide +kernel
