set_option maxRecDepth 100000 in
theorem k_EstateOffice_kin : em_okm 86 em_c_EstateOffice_kin em_h_EstateOffice_kin = true := by decide +kernel
set_option maxRecDepth 100000 in
theorem k_EstateOffice_told : em_okm 87 em_c_EstateOffice_told em_h_EstateOffice_told = true := by decide +kernel
set_option maxRecDepth 100000 in
theorem k_EstateOffice_outside : em_okm 88 em_c_EstateOffice_outside em_h_EstateOffice_outside = true := by decide +kernel
set_option maxRecDepth 100000 in
theorem k_EstateOffice_count : em_okm 89 em_c_EstateOffice_count em_h_EstateOffice_count = true := by decide +kernel
set_option maxRecDepth 100000 in
theorem k_EstateOffice_isDay : em_okm 90 em_c_EstateOffice_isDay em_h_EstateOffice_isDay = true := by decide +kernel
set_option maxRecDepth 100000 in
theorem k_EstateOffice_holds : em_okm 91 em_c_EstateOffice_holds em_h_EstateOffice_holds = true := by decide +kernel
set_option maxRecDepth 100000 in
theorem k_EstateOffice_nth : em_okm 92 em_c_EstateOffice_nth em_h_EstateOffice_nth = true := by decide +kernel
set_option maxRecDepth 100000 in
theorem k_Kinship_rowOfWord : em_okm 93 em_c_Kinship_rowOfWord em_h_Kinship_rowOfWord = true := by decide +kernel
set_option maxRecDepth 100000 in
theorem k_Kinship_rowOfKin : em_okm 94 em_c_Kinship_rowOfKin em_h_Kinship_rowOfKin = true := by decide +kernel
set_option maxRecDepth 100000 in
theorem k_Kinship_forget : em_okm 95 em_c_Kinship_forget em_h_Kinship_forget = true := by decide +kernel
set_option maxRecDepth 100000 in
theorem k_Kinship_refresh : em_okm 96 em_c_Kinship_refresh em_h_Kinship_refresh = true := by decide +kernel
set_option maxRecDepth 100000 in
theorem k_Kinship_kinOf : em_okm 97 em_c_Kinship_kinOf em_h_Kinship_kinOf = true := by decide +kernel
set_option maxRecDepth 100000 in
theorem k_Kinship_childrenOf : em_okm 98 em_c_Kinship_childrenOf em_h_Kinship_childrenOf = true := by decide +kernel
set_option maxRecDepth 100000 in
theorem k_Kinship_reach : em_okm 99 em_c_Kinship_reach em_h_Kinship_reach = true := by decide +kernel
set_option maxRecDepth 100000 in
theorem k_Kinship_setParents_0 : em_okm 100 (List.take 40 em_c_Kinship_setParents) (List.take 40 em_h_Kinship_setParents) = true := by decide +kernel
set_option maxRecDepth 100000 in
theorem k_Kinship_setParents_1 : em_okm 100 (List.take 40 (List.drop 40 em_c_Kinship_setParents)) (List.take 40 (List.drop 40 em_h_Kinship_setParents)) = true := by decide +kernel
set_option maxRecDepth 100000 in
theorem k_Kinship_setParents_2 : em_okm 100 (List.take 40 (List.drop 40 (List.drop 40 em_c_Kinship_setParents))) (List.take 40 (List.drop 40 (List.drop 40 em_h_Kinship_setParents))) = true := by decide +kernel
set_option maxRecDepth 100000 in
theorem k_Kinship_setParents_3 : em_okm 100 (List.drop 40 (List.drop 40 (List.drop 40 em_c_Kinship_setParents))) (List.drop 40 (List.drop 40 (List.drop 40 em_h_Kinship_setParents))) = true := by decide +kernel
theorem k_Kinship_setParents : em_okm 100 em_c_Kinship_setParents em_h_Kinship_setParents = true := em_okm_split 40 k_Kinship_setParents_0 (em_okm_split 40 k_Kinship_setParents_1 (em_okm_split 40 k_Kinship_setParents_2 (k_Kinship_setParents_3)))
set_option maxRecDepth 100000 in
theorem k_Kinship_setMates : em_okm 101 em_c_Kinship_setMates em_h_Kinship_setMates = true := by decide +kernel
set_option maxRecDepth 100000 in
theorem k_Kinship_follow : em_okm 102 em_c_Kinship_follow em_h_Kinship_follow = true := by decide +kernel
set_option maxRecDepth 100000 in
theorem k_Kinship_stepFrom : em_okm 103 em_c_Kinship_stepFrom em_h_Kinship_stepFrom = true := by decide +kernel
set_option maxRecDepth 100000 in
theorem k_Estate_begin : em_okm 104 em_c_Estate_begin em_h_Estate_begin = true := by decide +kernel
