set_option maxRecDepth 100000 in
theorem k_Model_part : em_okm 185 em_c_Model_part em_h_Model_part = true := by decide +kernel
set_option maxRecDepth 100000 in
theorem k_Model_tellKin_0 : em_okm 186 (List.take 40 em_c_Model_tellKin) (List.take 40 em_h_Model_tellKin) = true := by decide +kernel
set_option maxRecDepth 100000 in
theorem k_Model_tellKin_1 : em_okm 186 (List.take 40 (List.drop 40 em_c_Model_tellKin)) (List.take 40 (List.drop 40 em_h_Model_tellKin)) = true := by decide +kernel
set_option maxRecDepth 100000 in
theorem k_Model_tellKin_2 : em_okm 186 (List.take 40 (List.drop 40 (List.drop 40 em_c_Model_tellKin))) (List.take 40 (List.drop 40 (List.drop 40 em_h_Model_tellKin))) = true := by decide +kernel
set_option maxRecDepth 100000 in
theorem k_Model_tellKin_3 : em_okm 186 (List.take 40 (List.drop 40 (List.drop 40 (List.drop 40 em_c_Model_tellKin)))) (List.take 40 (List.drop 40 (List.drop 40 (List.drop 40 em_h_Model_tellKin)))) = true := by decide +kernel
set_option maxRecDepth 100000 in
theorem k_Model_tellKin_4 : em_okm 186 (List.drop 40 (List.drop 40 (List.drop 40 (List.drop 40 em_c_Model_tellKin)))) (List.drop 40 (List.drop 40 (List.drop 40 (List.drop 40 em_h_Model_tellKin)))) = true := by decide +kernel
theorem k_Model_tellKin : em_okm 186 em_c_Model_tellKin em_h_Model_tellKin = true := em_okm_split 40 k_Model_tellKin_0 (em_okm_split 40 k_Model_tellKin_1 (em_okm_split 40 k_Model_tellKin_2 (em_okm_split 40 k_Model_tellKin_3 (k_Model_tellKin_4))))
set_option maxRecDepth 100000 in
theorem k_Model_tellPath_0 : em_okm 187 (List.take 40 em_c_Model_tellPath) (List.take 40 em_h_Model_tellPath) = true := by decide +kernel
set_option maxRecDepth 100000 in
theorem k_Model_tellPath_1 : em_okm 187 (List.take 40 (List.drop 40 em_c_Model_tellPath)) (List.take 40 (List.drop 40 em_h_Model_tellPath)) = true := by decide +kernel
set_option maxRecDepth 100000 in
theorem k_Model_tellPath_2 : em_okm 187 (List.take 40 (List.drop 40 (List.drop 40 em_c_Model_tellPath))) (List.take 40 (List.drop 40 (List.drop 40 em_h_Model_tellPath))) = true := by decide +kernel
set_option maxRecDepth 100000 in
theorem k_Model_tellPath_3 : em_okm 187 (List.take 40 (List.drop 40 (List.drop 40 (List.drop 40 em_c_Model_tellPath)))) (List.take 40 (List.drop 40 (List.drop 40 (List.drop 40 em_h_Model_tellPath)))) = true := by decide +kernel
set_option maxRecDepth 100000 in
theorem k_Model_tellPath_4 : em_okm 187 (List.take 40 (List.drop 40 (List.drop 40 (List.drop 40 (List.drop 40 em_c_Model_tellPath))))) (List.take 40 (List.drop 40 (List.drop 40 (List.drop 40 (List.drop 40 em_h_Model_tellPath))))) = true := by decide +kernel
set_option maxRecDepth 100000 in
theorem k_Model_tellPath_5 : em_okm 187 (List.drop 40 (List.drop 40 (List.drop 40 (List.drop 40 (List.drop 40 em_c_Model_tellPath))))) (List.drop 40 (List.drop 40 (List.drop 40 (List.drop 40 (List.drop 40 em_h_Model_tellPath))))) = true := by decide +kernel
theorem k_Model_tellPath : em_okm 187 em_c_Model_tellPath em_h_Model_tellPath = true := em_okm_split 40 k_Model_tellPath_0 (em_okm_split 40 k_Model_tellPath_1 (em_okm_split 40 k_Model_tellPath_2 (em_okm_split 40 k_Model_tellPath_3 (em_okm_split 40 k_Model_tellPath_4 (k_Model_tellPath_5)))))
set_option maxRecDepth 100000 in
theorem k_Model_tellFixed : em_okm 188 em_c_Model_tellFixed em_h_Model_tellFixed = true := by decide +kernel
set_option maxRecDepth 100000 in
theorem k_Model_tellBars : em_okm 189 em_c_Model_tellBars em_h_Model_tellBars = true := by decide +kernel
set_option maxRecDepth 100000 in
theorem k_Model_tellList_0 : em_okm 190 (List.take 40 em_c_Model_tellList) (List.take 40 em_h_Model_tellList) = true := by decide +kernel
set_option maxRecDepth 100000 in
theorem k_Model_tellList_1 : em_okm 190 (List.take 40 (List.drop 40 em_c_Model_tellList)) (List.take 40 (List.drop 40 em_h_Model_tellList)) = true := by decide +kernel
set_option maxRecDepth 100000 in
theorem k_Model_tellList_2 : em_okm 190 (List.take 40 (List.drop 40 (List.drop 40 em_c_Model_tellList))) (List.take 40 (List.drop 40 (List.drop 40 em_h_Model_tellList))) = true := by decide +kernel
set_option maxRecDepth 100000 in
theorem k_Model_tellList_3 : em_okm 190 (List.take 40 (List.drop 40 (List.drop 40 (List.drop 40 em_c_Model_tellList)))) (List.take 40 (List.drop 40 (List.drop 40 (List.drop 40 em_h_Model_tellList)))) = true := by decide +kernel
set_option maxRecDepth 100000 in
theorem k_Model_tellList_4 : em_okm 190 (List.drop 40 (List.drop 40 (List.drop 40 (List.drop 40 em_c_Model_tellList)))) (List.drop 40 (List.drop 40 (List.drop 40 (List.drop 40 em_h_Model_tellList)))) = true := by decide +kernel
theorem k_Model_tellList : em_okm 190 em_c_Model_tellList em_h_Model_tellList = true := em_okm_split 40 k_Model_tellList_0 (em_okm_split 40 k_Model_tellList_1 (em_okm_split 40 k_Model_tellList_2 (em_okm_split 40 k_Model_tellList_3 (k_Model_tellList_4))))
set_option maxRecDepth 100000 in
theorem k_Model_common : em_okm 191 em_c_Model_common em_h_Model_common = true := by decide +kernel
set_option maxRecDepth 100000 in
theorem k_Model_lowest : em_okm 192 em_c_Model_lowest em_h_Model_lowest = true := by decide +kernel
set_option maxRecDepth 100000 in
theorem k_Model_plus : em_okm 193 em_c_Model_plus em_h_Model_plus = true := by decide +kernel
set_option maxRecDepth 100000 in
theorem k_Model_minus : em_okm 194 em_c_Model_minus em_h_Model_minus = true := by decide +kernel
