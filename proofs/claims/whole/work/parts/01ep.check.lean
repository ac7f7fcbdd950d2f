set_option maxRecDepth 100000 in
theorem k_Model_copies_0 : em_okm 216 (List.take 40 em_c_Model_copies) (List.take 40 em_h_Model_copies) = true := by decide +kernel
set_option maxRecDepth 100000 in
theorem k_Model_copies_1 : em_okm 216 (List.take 40 (List.drop 40 em_c_Model_copies)) (List.take 40 (List.drop 40 em_h_Model_copies)) = true := by decide +kernel
set_option maxRecDepth 100000 in
theorem k_Model_copies_2 : em_okm 216 (List.take 40 (List.drop 40 (List.drop 40 em_c_Model_copies))) (List.take 40 (List.drop 40 (List.drop 40 em_h_Model_copies))) = true := by decide +kernel
set_option maxRecDepth 100000 in
theorem k_Model_copies_3 : em_okm 216 (List.drop 40 (List.drop 40 (List.drop 40 em_c_Model_copies))) (List.drop 40 (List.drop 40 (List.drop 40 em_h_Model_copies))) = true := by decide +kernel
theorem k_Model_copies : em_okm 216 em_c_Model_copies em_h_Model_copies = true := em_okm_split 40 k_Model_copies_0 (em_okm_split 40 k_Model_copies_1 (em_okm_split 40 k_Model_copies_2 (k_Model_copies_3)))
set_option maxRecDepth 100000 in
theorem k_Model_saves : em_okm 217 em_c_Model_saves em_h_Model_saves = true := by decide +kernel
set_option maxRecDepth 100000 in
theorem k_Model_takesBack : em_okm 218 em_c_Model_takesBack em_h_Model_takesBack = true := by decide +kernel
set_option maxRecDepth 100000 in
theorem k_Model_isDue : em_okm 219 em_c_Model_isDue em_h_Model_isDue = true := by decide +kernel
set_option maxRecDepth 100000 in
theorem k_Model_settle_0 : em_okm 220 (List.take 40 em_c_Model_settle) (List.take 40 em_h_Model_settle) = true := by decide +kernel
set_option maxRecDepth 100000 in
theorem k_Model_settle_1 : em_okm 220 (List.take 40 (List.drop 40 em_c_Model_settle)) (List.take 40 (List.drop 40 em_h_Model_settle)) = true := by decide +kernel
set_option maxRecDepth 100000 in
theorem k_Model_settle_2 : em_okm 220 (List.take 40 (List.drop 40 (List.drop 40 em_c_Model_settle))) (List.take 40 (List.drop 40 (List.drop 40 em_h_Model_settle))) = true := by decide +kernel
set_option maxRecDepth 100000 in
theorem k_Model_settle_3 : em_okm 220 (List.take 40 (List.drop 40 (List.drop 40 (List.drop 40 em_c_Model_settle)))) (List.take 40 (List.drop 40 (List.drop 40 (List.drop 40 em_h_Model_settle)))) = true := by decide +kernel
set_option maxRecDepth 100000 in
theorem k_Model_settle_4 : em_okm 220 (List.take 40 (List.drop 40 (List.drop 40 (List.drop 40 (List.drop 40 em_c_Model_settle))))) (List.take 40 (List.drop 40 (List.drop 40 (List.drop 40 (List.drop 40 em_h_Model_settle))))) = true := by decide +kernel
set_option maxRecDepth 100000 in
theorem k_Model_settle_5 : em_okm 220 (List.drop 40 (List.drop 40 (List.drop 40 (List.drop 40 (List.drop 40 em_c_Model_settle))))) (List.drop 40 (List.drop 40 (List.drop 40 (List.drop 40 (List.drop 40 em_h_Model_settle))))) = true := by decide +kernel
theorem k_Model_settle : em_okm 220 em_c_Model_settle em_h_Model_settle = true := em_okm_split 40 k_Model_settle_0 (em_okm_split 40 k_Model_settle_1 (em_okm_split 40 k_Model_settle_2 (em_okm_split 40 k_Model_settle_3 (em_okm_split 40 k_Model_settle_4 (k_Model_settle_5)))))
set_option maxRecDepth 100000 in
theorem k_Model_undo : em_okm 221 em_c_Model_undo em_h_Model_undo = true := by decide +kernel
set_option maxRecDepth 100000 in
theorem k_Model_would : em_okm 222 em_c_Model_would em_h_Model_would = true := by decide +kernel
set_option maxRecDepth 100000 in
theorem k_Model_open : em_okm 223 em_c_Model_open em_h_Model_open = true := by decide +kernel
set_option maxRecDepth 100000 in
theorem k_Model_estate : em_okm 224 em_c_Model_estate em_h_Model_estate = true := by decide +kernel
set_option maxRecDepth 100000 in
theorem k_Model_got : em_okm 225 em_c_Model_got em_h_Model_got = true := by decide +kernel
set_option maxRecDepth 100000 in
theorem k_Model_why : em_okm 226 em_c_Model_why em_h_Model_why = true := by decide +kernel
