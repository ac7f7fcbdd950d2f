set_option maxRecDepth 100000 in
theorem k_Model_allKin_0 : em_okm 196 (List.take 40 em_c_Model_allKin) (List.take 40 em_h_Model_allKin) = true := by decide +kernel
set_option maxRecDepth 100000 in
theorem k_Model_allKin_1 : em_okm 196 (List.take 40 (List.drop 40 em_c_Model_allKin)) (List.take 40 (List.drop 40 em_h_Model_allKin)) = true := by decide +kernel
set_option maxRecDepth 100000 in
theorem k_Model_allKin_2 : em_okm 196 (List.take 40 (List.drop 40 (List.drop 40 em_c_Model_allKin))) (List.take 40 (List.drop 40 (List.drop 40 em_h_Model_allKin))) = true := by decide +kernel
set_option maxRecDepth 100000 in
theorem k_Model_allKin_3 : em_okm 196 (List.drop 40 (List.drop 40 (List.drop 40 em_c_Model_allKin))) (List.drop 40 (List.drop 40 (List.drop 40 em_h_Model_allKin))) = true := by decide +kernel
theorem k_Model_allKin : em_okm 196 em_c_Model_allKin em_h_Model_allKin = true := em_okm_split 40 k_Model_allKin_0 (em_okm_split 40 k_Model_allKin_1 (em_okm_split 40 k_Model_allKin_2 (k_Model_allKin_3)))
set_option maxRecDepth 100000 in
theorem k_Model_kin : em_okm 197 em_c_Model_kin em_h_Model_kin = true := by decide +kernel
set_option maxRecDepth 100000 in
theorem k_Model_has : em_okm 198 em_c_Model_has em_h_Model_has = true := by decide +kernel
set_option maxRecDepth 100000 in
theorem k_Model_findsHeads_0 : em_okm 199 (List.take 40 em_c_Model_findsHeads) (List.take 40 em_h_Model_findsHeads) = true := by decide +kernel
set_option maxRecDepth 100000 in
theorem k_Model_findsHeads_1 : em_okm 199 (List.take 40 (List.drop 40 em_c_Model_findsHeads)) (List.take 40 (List.drop 40 em_h_Model_findsHeads)) = true := by decide +kernel
set_option maxRecDepth 100000 in
theorem k_Model_findsHeads_2 : em_okm 199 (List.take 40 (List.drop 40 (List.drop 40 em_c_Model_findsHeads))) (List.take 40 (List.drop 40 (List.drop 40 em_h_Model_findsHeads))) = true := by decide +kernel
set_option maxRecDepth 100000 in
theorem k_Model_findsHeads_3 : em_okm 199 (List.take 40 (List.drop 40 (List.drop 40 (List.drop 40 em_c_Model_findsHeads)))) (List.take 40 (List.drop 40 (List.drop 40 (List.drop 40 em_h_Model_findsHeads)))) = true := by decide +kernel
set_option maxRecDepth 100000 in
theorem k_Model_findsHeads_4 : em_okm 199 (List.take 40 (List.drop 40 (List.drop 40 (List.drop 40 (List.drop 40 em_c_Model_findsHeads))))) (List.take 40 (List.drop 40 (List.drop 40 (List.drop 40 (List.drop 40 em_h_Model_findsHeads))))) = true := by decide +kernel
set_option maxRecDepth 100000 in
theorem k_Model_findsHeads_5 : em_okm 199 (List.take 40 (List.drop 40 (List.drop 40 (List.drop 40 (List.drop 40 (List.drop 40 em_c_Model_findsHeads)))))) (List.take 40 (List.drop 40 (List.drop 40 (List.drop 40 (List.drop 40 (List.drop 40 em_h_Model_findsHeads)))))) = true := by decide +kernel
set_option maxRecDepth 100000 in
theorem k_Model_findsHeads_6 : em_okm 199 (List.drop 40 (List.drop 40 (List.drop 40 (List.drop 40 (List.drop 40 (List.drop 40 em_c_Model_findsHeads)))))) (List.drop 40 (List.drop 40 (List.drop 40 (List.drop 40 (List.drop 40 (List.drop 40 em_h_Model_findsHeads)))))) = true := by decide +kernel
theorem k_Model_findsHeads : em_okm 199 em_c_Model_findsHeads em_h_Model_findsHeads = true := em_okm_split 40 k_Model_findsHeads_0 (em_okm_split 40 k_Model_findsHeads_1 (em_okm_split 40 k_Model_findsHeads_2 (em_okm_split 40 k_Model_findsHeads_3 (em_okm_split 40 k_Model_findsHeads_4 (em_okm_split 40 k_Model_findsHeads_5 (k_Model_findsHeads_6))))))
set_option maxRecDepth 100000 in
theorem k_Model_setPart : em_okm 200 em_c_Model_setPart em_h_Model_setPart = true := by decide +kernel
set_option maxRecDepth 100000 in
theorem k_Model_count : em_okm 201 em_c_Model_count em_h_Model_count = true := by decide +kernel
