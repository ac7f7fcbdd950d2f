set_option maxRecDepth 100000 in
theorem k_Lw_law_5 : em_okm 243 (List.take 40 (List.drop 40 (List.drop 40 (List.drop 40 (List.drop 40 (List.drop 40 em_c_Lw_law)))))) (List.take 40 (List.drop 40 (List.drop 40 (List.drop 40 (List.drop 40 (List.drop 40 em_h_Lw_law)))))) = true := by decide +kernel
set_option maxRecDepth 100000 in
theorem k_Lw_law_6 : em_okm 243 (List.take 40 (List.drop 40 (List.drop 40 (List.drop 40 (List.drop 40 (List.drop 40 (List.drop 40 em_c_Lw_law))))))) (List.take 40 (List.drop 40 (List.drop 40 (List.drop 40 (List.drop 40 (List.drop 40 (List.drop 40 em_h_Lw_law))))))) = true := by decide +kernel
set_option maxRecDepth 100000 in
theorem k_Lw_law_7 : em_okm 243 (List.take 40 (List.drop 40 (List.drop 40 (List.drop 40 (List.drop 40 (List.drop 40 (List.drop 40 (List.drop 40 em_c_Lw_law)))))))) (List.take 40 (List.drop 40 (List.drop 40 (List.drop 40 (List.drop 40 (List.drop 40 (List.drop 40 (List.drop 40 em_h_Lw_law)))))))) = true := by decide +kernel
set_option maxRecDepth 100000 in
theorem k_Lw_law_8 : em_okm 243 (List.take 40 (List.drop 40 (List.drop 40 (List.drop 40 (List.drop 40 (List.drop 40 (List.drop 40 (List.drop 40 (List.drop 40 em_c_Lw_law))))))))) (List.take 40 (List.drop 40 (List.drop 40 (List.drop 40 (List.drop 40 (List.drop 40 (List.drop 40 (List.drop 40 (List.drop 40 em_h_Lw_law))))))))) = true := by decide +kernel
set_option maxRecDepth 100000 in
theorem k_Lw_law_9 : em_okm 243 (List.take 40 (List.drop 40 (List.drop 40 (List.drop 40 (List.drop 40 (List.drop 40 (List.drop 40 (List.drop 40 (List.drop 40 (List.drop 40 em_c_Lw_law)))))))))) (List.take 40 (List.drop 40 (List.drop 40 (List.drop 40 (List.drop 40 (List.drop 40 (List.drop 40 (List.drop 40 (List.drop 40 (List.drop 40 em_h_Lw_law)))))))))) = true := by decide +kernel
