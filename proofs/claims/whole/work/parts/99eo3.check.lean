set_option maxRecDepth 100000 in
theorem k_Model_keeps_2 : em_okm 227 (List.take 40 (List.drop 40 (List.drop 40 em_c_Model_keeps))) (List.take 40 (List.drop 40 (List.drop 40 em_h_Model_keeps))) = true := by decide +kernel
set_option maxRecDepth 100000 in
theorem k_Model_keeps_3 : em_okm 227 (List.take 40 (List.drop 40 (List.drop 40 (List.drop 40 em_c_Model_keeps)))) (List.take 40 (List.drop 40 (List.drop 40 (List.drop 40 em_h_Model_keeps)))) = true := by decide +kernel
set_option maxRecDepth 100000 in
theorem k_Model_keeps_4 : em_okm 227 (List.take 40 (List.drop 40 (List.drop 40 (List.drop 40 (List.drop 40 em_c_Model_keeps))))) (List.take 40 (List.drop 40 (List.drop 40 (List.drop 40 (List.drop 40 em_h_Model_keeps))))) = true := by decide +kernel
set_option maxRecDepth 100000 in
theorem k_Model_keeps_5 : em_okm 227 (List.take 40 (List.drop 40 (List.drop 40 (List.drop 40 (List.drop 40 (List.drop 40 em_c_Model_keeps)))))) (List.take 40 (List.drop 40 (List.drop 40 (List.drop 40 (List.drop 40 (List.drop 40 em_h_Model_keeps)))))) = true := by decide +kernel
set_option maxRecDepth 100000 in
theorem k_Model_keeps_6 : em_okm 227 (List.take 40 (List.drop 40 (List.drop 40 (List.drop 40 (List.drop 40 (List.drop 40 (List.drop 40 em_c_Model_keeps))))))) (List.take 40 (List.drop 40 (List.drop 40 (List.drop 40 (List.drop 40 (List.drop 40 (List.drop 40 em_h_Model_keeps))))))) = true := by decide +kernel
