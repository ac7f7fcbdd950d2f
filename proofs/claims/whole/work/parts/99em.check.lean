set_option maxRecDepth 100000 in
theorem k_Model_parts_0 : em_okm 214 (List.take 40 em_c_Model_parts) (List.take 40 em_h_Model_parts) = true := by decide +kernel
set_option maxRecDepth 100000 in
theorem k_Model_parts_1 : em_okm 214 (List.take 40 (List.drop 40 em_c_Model_parts)) (List.take 40 (List.drop 40 em_h_Model_parts)) = true := by decide +kernel
set_option maxRecDepth 100000 in
theorem k_Model_parts_2 : em_okm 214 (List.take 40 (List.drop 40 (List.drop 40 em_c_Model_parts))) (List.take 40 (List.drop 40 (List.drop 40 em_h_Model_parts))) = true := by decide +kernel
set_option maxRecDepth 100000 in
theorem k_Model_parts_3 : em_okm 214 (List.take 40 (List.drop 40 (List.drop 40 (List.drop 40 em_c_Model_parts)))) (List.take 40 (List.drop 40 (List.drop 40 (List.drop 40 em_h_Model_parts)))) = true := by decide +kernel
set_option maxRecDepth 100000 in
theorem k_Model_parts_4 : em_okm 214 (List.take 40 (List.drop 40 (List.drop 40 (List.drop 40 (List.drop 40 em_c_Model_parts))))) (List.take 40 (List.drop 40 (List.drop 40 (List.drop 40 (List.drop 40 em_h_Model_parts))))) = true := by decide +kernel
set_option maxRecDepth 100000 in
theorem k_Model_parts_5 : em_okm 214 (List.take 40 (List.drop 40 (List.drop 40 (List.drop 40 (List.drop 40 (List.drop 40 em_c_Model_parts)))))) (List.take 40 (List.drop 40 (List.drop 40 (List.drop 40 (List.drop 40 (List.drop 40 em_h_Model_parts)))))) = true := by decide +kernel
set_option maxRecDepth 100000 in
theorem k_Model_parts_6 : em_okm 214 (List.take 40 (List.drop 40 (List.drop 40 (List.drop 40 (List.drop 40 (List.drop 40 (List.drop 40 em_c_Model_parts))))))) (List.take 40 (List.drop 40 (List.drop 40 (List.drop 40 (List.drop 40 (List.drop 40 (List.drop 40 em_h_Model_parts))))))) = true := by decide +kernel
set_option maxRecDepth 100000 in
theorem k_Model_parts_7 : em_okm 214 (List.take 40 (List.drop 40 (List.drop 40 (List.drop 40 (List.drop 40 (List.drop 40 (List.drop 40 (List.drop 40 em_c_Model_parts)))))))) (List.take 40 (List.drop 40 (List.drop 40 (List.drop 40 (List.drop 40 (List.drop 40 (List.drop 40 (List.drop 40 em_h_Model_parts)))))))) = true := by decide +kernel
set_option maxRecDepth 100000 in
theorem k_Model_parts_8 : em_okm 214 (List.take 40 (List.drop 40 (List.drop 40 (List.drop 40 (List.drop 40 (List.drop 40 (List.drop 40 (List.drop 40 (List.drop 40 em_c_Model_parts))))))))) (List.take 40 (List.drop 40 (List.drop 40 (List.drop 40 (List.drop 40 (List.drop 40 (List.drop 40 (List.drop 40 (List.drop 40 em_h_Model_parts))))))))) = true := by decide +kernel
set_option maxRecDepth 100000 in
theorem k_Model_parts_9 : em_okm 214 (List.drop 40 (List.drop 40 (List.drop 40 (List.drop 40 (List.drop 40 (List.drop 40 (List.drop 40 (List.drop 40 (List.drop 40 em_c_Model_parts))))))))) (List.drop 40 (List.drop 40 (List.drop 40 (List.drop 40 (List.drop 40 (List.drop 40 (List.drop 40 (List.drop 40 (List.drop 40 em_h_Model_parts))))))))) = true := by decide +kernel
theorem k_Model_parts : em_okm 214 em_c_Model_parts em_h_Model_parts = true := em_okm_split 40 k_Model_parts_0 (em_okm_split 40 k_Model_parts_1 (em_okm_split 40 k_Model_parts_2 (em_okm_split 40 k_Model_parts_3 (em_okm_split 40 k_Model_parts_4 (em_okm_split 40 k_Model_parts_5 (em_okm_split 40 k_Model_parts_6 (em_okm_split 40 k_Model_parts_7 (em_okm_split 40 k_Model_parts_8 (k_Model_parts_9)))))))))
set_option maxRecDepth 100000 in
theorem k_Model_restOf_0 : em_okm 215 (List.take 40 em_c_Model_restOf) (List.take 40 em_h_Model_restOf) = true := by decide +kernel
set_option maxRecDepth 100000 in
theorem k_Model_restOf_1 : em_okm 215 (List.take 40 (List.drop 40 em_c_Model_restOf)) (List.take 40 (List.drop 40 em_h_Model_restOf)) = true := by decide +kernel
set_option maxRecDepth 100000 in
theorem k_Model_restOf_2 : em_okm 215 (List.take 40 (List.drop 40 (List.drop 40 em_c_Model_restOf))) (List.take 40 (List.drop 40 (List.drop 40 em_h_Model_restOf))) = true := by decide +kernel
set_option maxRecDepth 100000 in
theorem k_Model_restOf_3 : em_okm 215 (List.take 40 (List.drop 40 (List.drop 40 (List.drop 40 em_c_Model_restOf)))) (List.take 40 (List.drop 40 (List.drop 40 (List.drop 40 em_h_Model_restOf)))) = true := by decide +kernel
set_option maxRecDepth 100000 in
theorem k_Model_restOf_4 : em_okm 215 (List.drop 40 (List.drop 40 (List.drop 40 (List.drop 40 em_c_Model_restOf)))) (List.drop 40 (List.drop 40 (List.drop 40 (List.drop 40 em_h_Model_restOf)))) = true := by decide +kernel
theorem k_Model_restOf : em_okm 215 em_c_Model_restOf em_h_Model_restOf = true := em_okm_split 40 k_Model_restOf_0 (em_okm_split 40 k_Model_restOf_1 (em_okm_split 40 k_Model_restOf_2 (em_okm_split 40 k_Model_restOf_3 (k_Model_restOf_4))))
set_option maxRecDepth 100000 in
theorem k_Model_backOf_0 : em_okm 216 (List.take 40 em_c_Model_backOf) (List.take 40 em_h_Model_backOf) = true := by decide +kernel
set_option maxRecDepth 100000 in
theorem k_Model_backOf_1 : em_okm 216 (List.take 40 (List.drop 40 em_c_Model_backOf)) (List.take 40 (List.drop 40 em_h_Model_backOf)) = true := by decide +kernel
set_option maxRecDepth 100000 in
theorem k_Model_backOf_2 : em_okm 216 (List.take 40 (List.drop 40 (List.drop 40 em_c_Model_backOf))) (List.take 40 (List.drop 40 (List.drop 40 em_h_Model_backOf))) = true := by decide +kernel
set_option maxRecDepth 100000 in
theorem k_Model_backOf_3 : em_okm 216 (List.take 40 (List.drop 40 (List.drop 40 (List.drop 40 em_c_Model_backOf)))) (List.take 40 (List.drop 40 (List.drop 40 (List.drop 40 em_h_Model_backOf)))) = true := by decide +kernel
set_option maxRecDepth 100000 in
theorem k_Model_backOf_4 : em_okm 216 (List.drop 40 (List.drop 40 (List.drop 40 (List.drop 40 em_c_Model_backOf)))) (List.drop 40 (List.drop 40 (List.drop 40 (List.drop 40 em_h_Model_backOf)))) = true := by decide +kernel
theorem k_Model_backOf : em_okm 216 em_c_Model_backOf em_h_Model_backOf = true := em_okm_split 40 k_Model_backOf_0 (em_okm_split 40 k_Model_backOf_1 (em_okm_split 40 k_Model_backOf_2 (em_okm_split 40 k_Model_backOf_3 (k_Model_backOf_4))))
