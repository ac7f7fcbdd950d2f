set_option maxRecDepth 100000 in
theorem k_Lw_law_0 : em_okm 243 (List.take 40 em_c_Lw_law) (List.take 40 em_h_Lw_law) = true := by decide +kernel
set_option maxRecDepth 100000 in
theorem k_Lw_law_1_p0 : em_okm 243 (List.take 35 (List.take 40 (List.drop 40 em_c_Lw_law))) (List.take 35 (List.take 40 (List.drop 40 em_h_Lw_law))) = true := by decide +kernel
set_option maxRecDepth 100000 in
theorem k_Lw_law_1_p1 : em_okm 243 (List.take 5 (List.drop 35 (List.take 40 (List.drop 40 em_c_Lw_law)))) (List.take 5 (List.drop 35 (List.take 40 (List.drop 40 em_h_Lw_law)))) = true := by decide +kernel
theorem k_Lw_law_1 : em_okm 243 (List.take 40 (List.drop 40 em_c_Lw_law)) (List.take 40 (List.drop 40 em_h_Lw_law)) = true := em_okm_split 35 k_Lw_law_1_p0 (em_okm_split 5 k_Lw_law_1_p1 (rfl))
set_option maxRecDepth 100000 in
theorem k_Lw_law_2_p0 : em_okm 243 (List.take 12 (List.take 40 (List.drop 40 (List.drop 40 em_c_Lw_law)))) (List.take 12 (List.take 40 (List.drop 40 (List.drop 40 em_h_Lw_law)))) = true := by decide +kernel
set_option maxRecDepth 100000 in
theorem k_Lw_law_2_p1 : em_okm 243 (List.take 5 (List.drop 12 (List.take 40 (List.drop 40 (List.drop 40 em_c_Lw_law))))) (List.take 5 (List.drop 12 (List.take 40 (List.drop 40 (List.drop 40 em_h_Lw_law))))) = true := by decide +kernel
set_option maxRecDepth 100000 in
theorem k_Lw_law_2_p2 : em_okm 243 (List.take 2 (List.drop 5 (List.drop 12 (List.take 40 (List.drop 40 (List.drop 40 em_c_Lw_law)))))) (List.take 2 (List.drop 5 (List.drop 12 (List.take 40 (List.drop 40 (List.drop 40 em_h_Lw_law)))))) = true := by decide +kernel
set_option maxRecDepth 100000 in
theorem k_Lw_law_2_p3 : em_okm 243 (List.take 1 (List.drop 2 (List.drop 5 (List.drop 12 (List.take 40 (List.drop 40 (List.drop 40 em_c_Lw_law))))))) (List.take 1 (List.drop 2 (List.drop 5 (List.drop 12 (List.take 40 (List.drop 40 (List.drop 40 em_h_Lw_law))))))) = true := okm_virt (m2 := 182) (show List.take 1 (List.drop 2 (List.drop 5 (List.drop 12 (List.take 40 (List.drop 40 (List.drop 40 em_c_Lw_law)))))) = [(227, (.invokevirtual 27, 3, [182, 1, 11], none))] from rfl) (show List.take 1 (List.drop 2 (List.drop 5 (List.drop 12 (List.take 40 (List.drop 40 (List.drop 40 em_h_Lw_law)))))) = [[1788, 0, 117, 1791, 1789, 1790]] from rfl) (by decide +kernel) rfl cw_182 (by decide +kernel)
set_option maxRecDepth 100000 in
theorem k_Lw_law_2_p4 : em_okm 243 (List.take 6 (List.drop 1 (List.drop 2 (List.drop 5 (List.drop 12 (List.take 40 (List.drop 40 (List.drop 40 em_c_Lw_law)))))))) (List.take 6 (List.drop 1 (List.drop 2 (List.drop 5 (List.drop 12 (List.take 40 (List.drop 40 (List.drop 40 em_h_Lw_law)))))))) = true := by decide +kernel
set_option maxRecDepth 100000 in
theorem k_Lw_law_2_p5 : em_okm 243 (List.take 14 (List.drop 6 (List.drop 1 (List.drop 2 (List.drop 5 (List.drop 12 (List.take 40 (List.drop 40 (List.drop 40 em_c_Lw_law))))))))) (List.take 14 (List.drop 6 (List.drop 1 (List.drop 2 (List.drop 5 (List.drop 12 (List.take 40 (List.drop 40 (List.drop 40 em_h_Lw_law))))))))) = true := by decide +kernel
theorem k_Lw_law_2 : em_okm 243 (List.take 40 (List.drop 40 (List.drop 40 em_c_Lw_law))) (List.take 40 (List.drop 40 (List.drop 40 em_h_Lw_law))) = true := em_okm_split 12 k_Lw_law_2_p0 (em_okm_split 5 k_Lw_law_2_p1 (em_okm_split 2 k_Lw_law_2_p2 (em_okm_split 1 k_Lw_law_2_p3 (em_okm_split 6 k_Lw_law_2_p4 (em_okm_split 14 k_Lw_law_2_p5 (rfl))))))
set_option maxRecDepth 100000 in
theorem k_Lw_law_3_p0 : em_okm 243 (List.take 33 (List.take 40 (List.drop 40 (List.drop 40 (List.drop 40 em_c_Lw_law))))) (List.take 33 (List.take 40 (List.drop 40 (List.drop 40 (List.drop 40 em_h_Lw_law))))) = true := by decide +kernel
set_option maxRecDepth 100000 in
theorem k_Lw_law_3_p1 : em_okm 243 (List.take 1 (List.drop 33 (List.take 40 (List.drop 40 (List.drop 40 (List.drop 40 em_c_Lw_law)))))) (List.take 1 (List.drop 33 (List.take 40 (List.drop 40 (List.drop 40 (List.drop 40 em_h_Lw_law)))))) = true := okm_virt (m2 := 200) (show List.take 1 (List.drop 33 (List.take 40 (List.drop 40 (List.drop 40 (List.drop 40 em_c_Lw_law))))) = [(293, (.invokevirtual 36, 3, [200, 5, 11], none))] from rfl) (show List.take 1 (List.drop 33 (List.take 40 (List.drop 40 (List.drop 40 (List.drop 40 em_h_Lw_law))))) = [[1875, 0, 117, 1878, 1876, 1877]] from rfl) (by decide +kernel) rfl cw_200 (by decide +kernel)
set_option maxRecDepth 100000 in
theorem k_Lw_law_3_p2 : em_okm 243 (List.take 6 (List.drop 1 (List.drop 33 (List.take 40 (List.drop 40 (List.drop 40 (List.drop 40 em_c_Lw_law))))))) (List.take 6 (List.drop 1 (List.drop 33 (List.take 40 (List.drop 40 (List.drop 40 (List.drop 40 em_h_Lw_law))))))) = true := by decide +kernel
theorem k_Lw_law_3 : em_okm 243 (List.take 40 (List.drop 40 (List.drop 40 (List.drop 40 em_c_Lw_law)))) (List.take 40 (List.drop 40 (List.drop 40 (List.drop 40 em_h_Lw_law)))) = true := em_okm_split 33 k_Lw_law_3_p0 (em_okm_split 1 k_Lw_law_3_p1 (em_okm_split 6 k_Lw_law_3_p2 (rfl)))
set_option maxRecDepth 100000 in
theorem k_Lw_law_4 : em_okm 243 (List.take 40 (List.drop 40 (List.drop 40 (List.drop 40 (List.drop 40 em_c_Lw_law))))) (List.take 40 (List.drop 40 (List.drop 40 (List.drop 40 (List.drop 40 em_h_Lw_law))))) = true := by decide +kernel
