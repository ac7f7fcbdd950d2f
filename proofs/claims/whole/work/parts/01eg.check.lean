set_option maxRecDepth 100000 in
theorem k_Parting_applies : em_okm 131 em_c_Parting_applies em_h_Parting_applies = true := by decide +kernel
set_option maxRecDepth 100000 in
theorem k_Parting_give : em_okm 132 em_c_Parting_give em_h_Parting_give = true := by decide +kernel
set_option maxRecDepth 100000 in
theorem k_Parting_lessen : em_okm 133 em_c_Parting_lessen em_h_Parting_lessen = true := by decide +kernel
set_option maxRecDepth 100000 in
theorem k_Parting_giveRest : em_okm 134 em_c_Parting_giveRest em_h_Parting_giveRest = true := by decide +kernel
set_option maxRecDepth 100000 in
theorem k_Parting_headsNamedIn : em_okm 135 em_c_Parting_headsNamedIn em_h_Parting_headsNamedIn = true := by decide +kernel
set_option maxRecDepth 100000 in
theorem k_Parting_hasPart : em_okm 136 em_c_Parting_hasPart em_h_Parting_hasPart = true := by decide +kernel
set_option maxRecDepth 100000 in
theorem k_Parting_shareByWeights_0 : em_okm 137 (List.take 40 em_c_Parting_shareByWeights) (List.take 40 em_h_Parting_shareByWeights) = true := by decide +kernel
set_option maxRecDepth 100000 in
theorem k_Parting_shareByWeights_1 : em_okm 137 (List.take 40 (List.drop 40 em_c_Parting_shareByWeights)) (List.take 40 (List.drop 40 em_h_Parting_shareByWeights)) = true := by decide +kernel
set_option maxRecDepth 100000 in
theorem k_Parting_shareByWeights_2 : em_okm 137 (List.take 40 (List.drop 40 (List.drop 40 em_c_Parting_shareByWeights))) (List.take 40 (List.drop 40 (List.drop 40 em_h_Parting_shareByWeights))) = true := by decide +kernel
set_option maxRecDepth 100000 in
theorem k_Parting_shareByWeights_3 : em_okm 137 (List.drop 40 (List.drop 40 (List.drop 40 em_c_Parting_shareByWeights))) (List.drop 40 (List.drop 40 (List.drop 40 em_h_Parting_shareByWeights))) = true := by decide +kernel
theorem k_Parting_shareByWeights : em_okm 137 em_c_Parting_shareByWeights em_h_Parting_shareByWeights = true := em_okm_split 40 k_Parting_shareByWeights_0 (em_okm_split 40 k_Parting_shareByWeights_1 (em_okm_split 40 k_Parting_shareByWeights_2 (k_Parting_shareByWeights_3)))
set_option maxRecDepth 100000 in
theorem k_Parting_giveBack : em_okm 138 em_c_Parting_giveBack em_h_Parting_giveBack = true := by decide +kernel
set_option maxRecDepth 100000 in
theorem k_Parting_passAll : em_okm 139 em_c_Parting_passAll em_h_Parting_passAll = true := by decide +kernel
set_option maxRecDepth 100000 in
theorem k_Parting_passDown : em_okm 140 em_c_Parting_passDown em_h_Parting_passDown = true := by decide +kernel
set_option maxRecDepth 100000 in
theorem k_Settlement_begin : em_okm 141 em_c_Settlement_begin em_h_Settlement_begin = true := by decide +kernel
set_option maxRecDepth 100000 in
theorem k_Settlement_carryOut : em_okm 142 em_c_Settlement_carryOut em_h_Settlement_carryOut = true := by decide +kernel
set_option maxRecDepth 100000 in
theorem k_Settlement_workOut : em_okm 143 em_c_Settlement_workOut em_h_Settlement_workOut = true := by decide +kernel
set_option maxRecDepth 100000 in
theorem k_Settlement_addTo : em_okm 144 em_c_Settlement_addTo em_h_Settlement_addTo = true := by decide +kernel
