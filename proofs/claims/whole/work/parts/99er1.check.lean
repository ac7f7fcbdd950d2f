set_option maxRecDepth 100000 in
theorem k_Lw_law_0 : em_okm 243 (List.take 40 em_c_Lw_law) (List.take 40 em_h_Lw_law) = true := by decide +kernel
set_option maxRecDepth 100000 in
theorem k_Lw_law_1 : em_okm 243 (List.take 40 (List.drop 40 em_c_Lw_law)) (List.take 40 (List.drop 40 em_h_Lw_law)) = true := by decide +kernel
set_option maxRecDepth 100000 in
theorem k_Lw_law_2 : em_okm 243 (List.take 40 (List.drop 40 (List.drop 40 em_c_Lw_law))) (List.take 40 (List.drop 40 (List.drop 40 em_h_Lw_law))) = true := by decide +kernel
set_option maxRecDepth 100000 in
theorem k_Lw_law_3 : em_okm 243 (List.take 40 (List.drop 40 (List.drop 40 (List.drop 40 em_c_Lw_law)))) (List.take 40 (List.drop 40 (List.drop 40 (List.drop 40 em_h_Lw_law)))) = true := by decide +kernel
set_option maxRecDepth 100000 in
theorem k_Lw_law_4 : em_okm 243 (List.take 40 (List.drop 40 (List.drop 40 (List.drop 40 (List.drop 40 em_c_Lw_law))))) (List.take 40 (List.drop 40 (List.drop 40 (List.drop 40 (List.drop 40 em_h_Lw_law))))) = true := by decide +kernel
