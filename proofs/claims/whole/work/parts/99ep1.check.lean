set_option maxRecDepth 100000 in
theorem k_Model_copies_0 : em_okm 228 (List.take 40 em_c_Model_copies) (List.take 40 em_h_Model_copies) = true := by decide +kernel
set_option maxRecDepth 100000 in
theorem k_Model_copies_1 : em_okm 228 (List.take 40 (List.drop 40 em_c_Model_copies)) (List.take 40 (List.drop 40 em_h_Model_copies)) = true := by decide +kernel
set_option maxRecDepth 100000 in
theorem k_Model_copies_2 : em_okm 228 (List.take 40 (List.drop 40 (List.drop 40 em_c_Model_copies))) (List.take 40 (List.drop 40 (List.drop 40 em_h_Model_copies))) = true := by decide +kernel
set_option maxRecDepth 100000 in
theorem k_Model_copies_3 : em_okm 228 (List.drop 40 (List.drop 40 (List.drop 40 em_c_Model_copies))) (List.drop 40 (List.drop 40 (List.drop 40 em_h_Model_copies))) = true := by decide +kernel
theorem k_Model_copies : em_okm 228 em_c_Model_copies em_h_Model_copies = true := em_okm_split 40 k_Model_copies_0 (em_okm_split 40 k_Model_copies_1 (em_okm_split 40 k_Model_copies_2 (k_Model_copies_3)))
set_option maxRecDepth 100000 in
theorem k_Model_saves : em_okm 229 em_c_Model_saves em_h_Model_saves = true := by decide +kernel
