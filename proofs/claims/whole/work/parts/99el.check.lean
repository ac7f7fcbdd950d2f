set_option maxRecDepth 100000 in
theorem k_Model_steps_0 : em_okm 207 (List.take 40 em_c_Model_steps) (List.take 40 em_h_Model_steps) = true := by decide +kernel
set_option maxRecDepth 100000 in
theorem k_Model_steps_1 : em_okm 207 (List.take 40 (List.drop 40 em_c_Model_steps)) (List.take 40 (List.drop 40 em_h_Model_steps)) = true := by decide +kernel
set_option maxRecDepth 100000 in
theorem k_Model_steps_2 : em_okm 207 (List.take 40 (List.drop 40 (List.drop 40 em_c_Model_steps))) (List.take 40 (List.drop 40 (List.drop 40 em_h_Model_steps))) = true := by decide +kernel
set_option maxRecDepth 100000 in
theorem k_Model_steps_3 : em_okm 207 (List.take 40 (List.drop 40 (List.drop 40 (List.drop 40 em_c_Model_steps)))) (List.take 40 (List.drop 40 (List.drop 40 (List.drop 40 em_h_Model_steps)))) = true := by decide +kernel
set_option maxRecDepth 100000 in
theorem k_Model_steps_4 : em_okm 207 (List.take 40 (List.drop 40 (List.drop 40 (List.drop 40 (List.drop 40 em_c_Model_steps))))) (List.take 40 (List.drop 40 (List.drop 40 (List.drop 40 (List.drop 40 em_h_Model_steps))))) = true := by decide +kernel
set_option maxRecDepth 100000 in
theorem k_Model_steps_5 : em_okm 207 (List.take 40 (List.drop 40 (List.drop 40 (List.drop 40 (List.drop 40 (List.drop 40 em_c_Model_steps)))))) (List.take 40 (List.drop 40 (List.drop 40 (List.drop 40 (List.drop 40 (List.drop 40 em_h_Model_steps)))))) = true := by decide +kernel
set_option maxRecDepth 100000 in
theorem k_Model_steps_6 : em_okm 207 (List.drop 40 (List.drop 40 (List.drop 40 (List.drop 40 (List.drop 40 (List.drop 40 em_c_Model_steps)))))) (List.drop 40 (List.drop 40 (List.drop 40 (List.drop 40 (List.drop 40 (List.drop 40 em_h_Model_steps)))))) = true := by decide +kernel
theorem k_Model_steps : em_okm 207 em_c_Model_steps em_h_Model_steps = true := em_okm_split 40 k_Model_steps_0 (em_okm_split 40 k_Model_steps_1 (em_okm_split 40 k_Model_steps_2 (em_okm_split 40 k_Model_steps_3 (em_okm_split 40 k_Model_steps_4 (em_okm_split 40 k_Model_steps_5 (k_Model_steps_6))))))
set_option maxRecDepth 100000 in
theorem k_Model_allKin_0 : em_okm 208 (List.take 40 em_c_Model_allKin) (List.take 40 em_h_Model_allKin) = true := by decide +kernel
set_option maxRecDepth 100000 in
theorem k_Model_allKin_1 : em_okm 208 (List.take 40 (List.drop 40 em_c_Model_allKin)) (List.take 40 (List.drop 40 em_h_Model_allKin)) = true := by decide +kernel
set_option maxRecDepth 100000 in
theorem k_Model_allKin_2 : em_okm 208 (List.take 40 (List.drop 40 (List.drop 40 em_c_Model_allKin))) (List.take 40 (List.drop 40 (List.drop 40 em_h_Model_allKin))) = true := by decide +kernel
set_option maxRecDepth 100000 in
theorem k_Model_allKin_3 : em_okm 208 (List.drop 40 (List.drop 40 (List.drop 40 em_c_Model_allKin))) (List.drop 40 (List.drop 40 (List.drop 40 em_h_Model_allKin))) = true := by decide +kernel
theorem k_Model_allKin : em_okm 208 em_c_Model_allKin em_h_Model_allKin = true := em_okm_split 40 k_Model_allKin_0 (em_okm_split 40 k_Model_allKin_1 (em_okm_split 40 k_Model_allKin_2 (k_Model_allKin_3)))
set_option maxRecDepth 100000 in
theorem k_Model_kin : em_okm 209 em_c_Model_kin em_h_Model_kin = true := by decide +kernel
set_option maxRecDepth 100000 in
theorem k_Model_has : em_okm 210 em_c_Model_has em_h_Model_has = true := by decide +kernel
set_option maxRecDepth 100000 in
theorem k_Model_findsHeads_0 : em_okm 211 (List.take 40 em_c_Model_findsHeads) (List.take 40 em_h_Model_findsHeads) = true := by decide +kernel
set_option maxRecDepth 100000 in
theorem k_Model_findsHeads_1 : em_okm 211 (List.take 40 (List.drop 40 em_c_Model_findsHeads)) (List.take 40 (List.drop 40 em_h_Model_findsHeads)) = true := by decide +kernel
set_option maxRecDepth 100000 in
theorem k_Model_findsHeads_2 : em_okm 211 (List.take 40 (List.drop 40 (List.drop 40 em_c_Model_findsHeads))) (List.take 40 (List.drop 40 (List.drop 40 em_h_Model_findsHeads))) = true := by decide +kernel
set_option maxRecDepth 100000 in
theorem k_Model_findsHeads_3 : em_okm 211 (List.take 40 (List.drop 40 (List.drop 40 (List.drop 40 em_c_Model_findsHeads)))) (List.take 40 (List.drop 40 (List.drop 40 (List.drop 40 em_h_Model_findsHeads)))) = true := by decide +kernel
set_option maxRecDepth 100000 in
theorem k_Model_findsHeads_4 : em_okm 211 (List.take 40 (List.drop 40 (List.drop 40 (List.drop 40 (List.drop 40 em_c_Model_findsHeads))))) (List.take 40 (List.drop 40 (List.drop 40 (List.drop 40 (List.drop 40 em_h_Model_findsHeads))))) = true := by decide +kernel
set_option maxRecDepth 100000 in
theorem k_Model_findsHeads_5 : em_okm 211 (List.take 40 (List.drop 40 (List.drop 40 (List.drop 40 (List.drop 40 (List.drop 40 em_c_Model_findsHeads)))))) (List.take 40 (List.drop 40 (List.drop 40 (List.drop 40 (List.drop 40 (List.drop 40 em_h_Model_findsHeads)))))) = true := by decide +kernel
set_option maxRecDepth 100000 in
theorem k_Model_findsHeads_6 : em_okm 211 (List.drop 40 (List.drop 40 (List.drop 40 (List.drop 40 (List.drop 40 (List.drop 40 em_c_Model_findsHeads)))))) (List.drop 40 (List.drop 40 (List.drop 40 (List.drop 40 (List.drop 40 (List.drop 40 em_h_Model_findsHeads)))))) = true := by decide +kernel
theorem k_Model_findsHeads : em_okm 211 em_c_Model_findsHeads em_h_Model_findsHeads = true := em_okm_split 40 k_Model_findsHeads_0 (em_okm_split 40 k_Model_findsHeads_1 (em_okm_split 40 k_Model_findsHeads_2 (em_okm_split 40 k_Model_findsHeads_3 (em_okm_split 40 k_Model_findsHeads_4 (em_okm_split 40 k_Model_findsHeads_5 (k_Model_findsHeads_6))))))
set_option maxRecDepth 100000 in
theorem k_Model_setPart : em_okm 212 em_c_Model_setPart em_h_Model_setPart = true := by decide +kernel
set_option maxRecDepth 100000 in
theorem k_Model_count : em_okm 213 em_c_Model_count em_h_Model_count = true := by decide +kernel
