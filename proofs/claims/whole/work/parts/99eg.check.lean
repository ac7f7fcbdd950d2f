set_option maxRecDepth 100000 in
theorem k_Parting_findHeads : em_okm 138 em_c_Parting_findHeads em_h_Parting_findHeads = true := by decide +kernel
set_option maxRecDepth 100000 in
theorem k_Parting_headsOf : em_okm 139 em_c_Parting_headsOf em_h_Parting_headsOf = true := by decide +kernel
set_option maxRecDepth 100000 in
theorem k_Parting_findBarred : em_okm 140 em_c_Parting_findBarred em_h_Parting_findBarred = true := by decide +kernel
set_option maxRecDepth 100000 in
theorem k_Parting_barBy : em_okm 141 em_c_Parting_barBy em_h_Parting_barBy = true := by decide +kernel
set_option maxRecDepth 100000 in
theorem k_Parting_giveFixed : em_okm 142 em_c_Parting_giveFixed em_h_Parting_giveFixed = true := by decide +kernel
set_option maxRecDepth 100000 in
theorem k_Parting_applies : em_okm 143 em_c_Parting_applies em_h_Parting_applies = true := by decide +kernel
set_option maxRecDepth 100000 in
theorem k_Parting_give : em_okm 144 em_c_Parting_give em_h_Parting_give = true := by decide +kernel
set_option maxRecDepth 100000 in
theorem k_Parting_lessen : em_okm 145 em_c_Parting_lessen em_h_Parting_lessen = true := by decide +kernel
set_option maxRecDepth 100000 in
theorem k_Parting_giveRest : em_okm 146 em_c_Parting_giveRest em_h_Parting_giveRest = true := by decide +kernel
set_option maxRecDepth 100000 in
theorem k_Parting_headsNamedIn : em_okm 147 em_c_Parting_headsNamedIn em_h_Parting_headsNamedIn = true := by decide +kernel
set_option maxRecDepth 100000 in
theorem k_Parting_hasPart : em_okm 148 em_c_Parting_hasPart em_h_Parting_hasPart = true := by decide +kernel
set_option maxRecDepth 100000 in
theorem k_Parting_shareByWeights_0 : em_okm 149 (List.take 40 em_c_Parting_shareByWeights) (List.take 40 em_h_Parting_shareByWeights) = true := by decide +kernel
set_option maxRecDepth 100000 in
theorem k_Parting_shareByWeights_1 : em_okm 149 (List.take 40 (List.drop 40 em_c_Parting_shareByWeights)) (List.take 40 (List.drop 40 em_h_Parting_shareByWeights)) = true := by decide +kernel
set_option maxRecDepth 100000 in
theorem k_Parting_shareByWeights_2 : em_okm 149 (List.take 40 (List.drop 40 (List.drop 40 em_c_Parting_shareByWeights))) (List.take 40 (List.drop 40 (List.drop 40 em_h_Parting_shareByWeights))) = true := by decide +kernel
set_option maxRecDepth 100000 in
theorem k_Parting_shareByWeights_3 : em_okm 149 (List.drop 40 (List.drop 40 (List.drop 40 em_c_Parting_shareByWeights))) (List.drop 40 (List.drop 40 (List.drop 40 em_h_Parting_shareByWeights))) = true := by decide +kernel
theorem k_Parting_shareByWeights : em_okm 149 em_c_Parting_shareByWeights em_h_Parting_shareByWeights = true := em_okm_split 40 k_Parting_shareByWeights_0 (em_okm_split 40 k_Parting_shareByWeights_1 (em_okm_split 40 k_Parting_shareByWeights_2 (k_Parting_shareByWeights_3)))
set_option maxRecDepth 100000 in
theorem k_Parting_giveBack : em_okm 150 em_c_Parting_giveBack em_h_Parting_giveBack = true := by decide +kernel
set_option maxRecDepth 100000 in
theorem k_Parting_passAll : em_okm 151 em_c_Parting_passAll em_h_Parting_passAll = true := by decide +kernel
