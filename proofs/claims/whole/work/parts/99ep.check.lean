set_option maxRecDepth 100000 in
theorem k_Model_copies_0 : em_okm 228 (List.take 40 em_c_Model_copies) (List.take 40 em_h_Model_copies) = true := by decide +kernel
set_option maxRecDepth 100000 in
theorem k_Model_copies_1 : em_okm 228 (List.take 40 (List.drop 40 em_c_Model_copies)) (List.take 40 (List.drop 40 em_h_Model_copies)) = true := by decide +kernel
set_option maxRecDepth 100000 in
theorem k_Model_copies_2 : em_okm 228 (List.take 40 (List.drop 40 (List.drop 40 em_c_Model_copies))) (List.take 40 (List.drop 40 (List.drop 40 em_h_Model_copies))) = true := by decide +kernel
set_option maxRecDepth 100000 in
theorem k_Model_copies_3 : em_okm 228 (List.drop 40 (List.drop 40 (List.drop 40 em_c_Model_copies))) (List.drop 40 (List.drop 40 (List.drop 40 em_h_Model_copies))) = true := by decide +kernel
theorem k_Model_copies : em_okm 228 em_c_Model_copies em_h_Model_copies = true := em_okm_split 40 k_Model_copies_0 (em_okm_split 40 k_Model_copies_1 (em_okm_split 40 k_Model_copies_2 (k_Model_copies_3)))
set_option maxRecDepth 100000 in
theorem k_Model_saves : em_okm 229 em_c_Model_saves em_h_Model_saves = true := by decide +kernel
set_option maxRecDepth 100000 in
theorem k_Model_takesBack : em_okm 230 em_c_Model_takesBack em_h_Model_takesBack = true := by decide +kernel
set_option maxRecDepth 100000 in
theorem k_Model_isDue : em_okm 231 em_c_Model_isDue em_h_Model_isDue = true := by decide +kernel
set_option maxRecDepth 100000 in
theorem k_Model_settle_0 : em_okm 232 (List.take 40 em_c_Model_settle) (List.take 40 em_h_Model_settle) = true := by decide +kernel
set_option maxRecDepth 100000 in
theorem k_Model_settle_1 : em_okm 232 (List.take 40 (List.drop 40 em_c_Model_settle)) (List.take 40 (List.drop 40 em_h_Model_settle)) = true := by decide +kernel
set_option maxRecDepth 100000 in
theorem k_Model_settle_2 : em_okm 232 (List.take 40 (List.drop 40 (List.drop 40 em_c_Model_settle))) (List.take 40 (List.drop 40 (List.drop 40 em_h_Model_settle))) = true := by decide +kernel
set_option maxRecDepth 100000 in
theorem k_Model_settle_3 : em_okm 232 (List.take 40 (List.drop 40 (List.drop 40 (List.drop 40 em_c_Model_settle)))) (List.take 40 (List.drop 40 (List.drop 40 (List.drop 40 em_h_Model_settle)))) = true := by decide +kernel
set_option maxRecDepth 100000 in
theorem k_Model_settle_4 : em_okm 232 (List.take 40 (List.drop 40 (List.drop 40 (List.drop 40 (List.drop 40 em_c_Model_settle))))) (List.take 40 (List.drop 40 (List.drop 40 (List.drop 40 (List.drop 40 em_h_Model_settle))))) = true := by decide +kernel
set_option maxRecDepth 100000 in
theorem k_Model_settle_5 : em_okm 232 (List.drop 40 (List.drop 40 (List.drop 40 (List.drop 40 (List.drop 40 em_c_Model_settle))))) (List.drop 40 (List.drop 40 (List.drop 40 (List.drop 40 (List.drop 40 em_h_Model_settle))))) = true := by decide +kernel
theorem k_Model_settle : em_okm 232 em_c_Model_settle em_h_Model_settle = true := em_okm_split 40 k_Model_settle_0 (em_okm_split 40 k_Model_settle_1 (em_okm_split 40 k_Model_settle_2 (em_okm_split 40 k_Model_settle_3 (em_okm_split 40 k_Model_settle_4 (k_Model_settle_5)))))
set_option maxRecDepth 100000 in
theorem k_Model_undo : em_okm 233 em_c_Model_undo em_h_Model_undo = true := by decide +kernel
set_option maxRecDepth 100000 in
theorem k_Model_would : em_okm 234 em_c_Model_would em_h_Model_would = true := by decide +kernel
set_option maxRecDepth 100000 in
theorem k_Model_open : em_okm 235 em_c_Model_open em_h_Model_open = true := by decide +kernel
set_option maxRecDepth 100000 in
theorem k_Model_estate : em_okm 236 em_c_Model_estate em_h_Model_estate = true := by decide +kernel
set_option maxRecDepth 100000 in
theorem k_Model_got : em_okm 237 em_c_Model_got em_h_Model_got = true := by decide +kernel
set_option maxRecDepth 100000 in
theorem k_Model_why : em_okm 238 em_c_Model_why em_h_Model_why = true := by decide +kernel
