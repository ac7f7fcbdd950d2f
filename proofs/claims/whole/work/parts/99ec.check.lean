set_option maxRecDepth 100000 in
theorem k_Law_addToList : em_okm 60 em_c_Law_addToList em_h_Law_addToList = true := by decide +kernel
set_option maxRecDepth 100000 in
theorem k_Law_lists : em_okm 61 em_c_Law_lists em_h_Law_lists = true := by decide +kernel
set_option maxRecDepth 100000 in
theorem k_Law_setBySteps : em_okm 62 em_c_Law_setBySteps em_h_Law_setBySteps = true := by decide +kernel
set_option maxRecDepth 100000 in
theorem k_Law_startOf : em_okm 63 em_c_Law_startOf em_h_Law_startOf = true := by decide +kernel
set_option maxRecDepth 100000 in
theorem k_Law_isKind : em_okm 64 em_c_Law_isKind em_h_Law_isKind = true := by decide +kernel
set_option maxRecDepth 100000 in
theorem k_Law_sizeOf : em_okm 65 em_c_Law_sizeOf em_h_Law_sizeOf = true := by decide +kernel
set_option maxRecDepth 100000 in
theorem k_Law_kinIn : em_okm 66 em_c_Law_kinIn em_h_Law_kinIn = true := by decide +kernel
set_option maxRecDepth 100000 in
theorem k_Law_weightIn : em_okm 67 em_c_Law_weightIn em_h_Law_weightIn = true := by decide +kernel
set_option maxRecDepth 100000 in
theorem k_EstateOffice_feed : em_okm 68 em_c_EstateOffice_feed em_h_EstateOffice_feed = true := by decide +kernel
set_option maxRecDepth 100000 in
theorem k_EstateOffice_back : em_okm 69 em_c_EstateOffice_back em_h_EstateOffice_back = true := by decide +kernel
set_option maxRecDepth 100000 in
theorem k_EstateOffice_read : em_okm 70 em_c_EstateOffice_read em_h_EstateOffice_read = true := by decide +kernel
set_option maxRecDepth 100000 in
theorem k_EstateOffice_place : em_okm 71 em_c_EstateOffice_place em_h_EstateOffice_place = true := by decide +kernel
set_option maxRecDepth 100000 in
theorem k_EstateOffice_person : em_okm 72 em_c_EstateOffice_person em_h_EstateOffice_person = true := by decide +kernel
set_option maxRecDepth 100000 in
theorem k_EstateOffice_mates : em_okm 73 em_c_EstateOffice_mates em_h_EstateOffice_mates = true := by decide +kernel
set_option maxRecDepth 100000 in
theorem k_EstateOffice_wealth : em_okm 74 em_c_EstateOffice_wealth em_h_EstateOffice_wealth = true := by decide +kernel
set_option maxRecDepth 100000 in
theorem k_EstateOffice_owes : em_okm 75 em_c_EstateOffice_owes em_h_EstateOffice_owes = true := by decide +kernel
set_option maxRecDepth 100000 in
theorem k_EstateOffice_leaves : em_okm 76 em_c_EstateOffice_leaves em_h_EstateOffice_leaves = true := by decide +kernel
set_option maxRecDepth 100000 in
theorem k_EstateOffice_dies : em_okm 77 em_c_EstateOffice_dies em_h_EstateOffice_dies = true := by decide +kernel
set_option maxRecDepth 100000 in
theorem k_EstateOffice_settle_0 : em_okm 78 (List.take 40 em_c_EstateOffice_settle) (List.take 40 em_h_EstateOffice_settle) = true := by decide +kernel
set_option maxRecDepth 100000 in
theorem k_EstateOffice_settle_1 : em_okm 78 (List.take 40 (List.drop 40 em_c_EstateOffice_settle)) (List.take 40 (List.drop 40 em_h_EstateOffice_settle)) = true := by decide +kernel
set_option maxRecDepth 100000 in
theorem k_EstateOffice_settle_2 : em_okm 78 (List.take 40 (List.drop 40 (List.drop 40 em_c_EstateOffice_settle))) (List.take 40 (List.drop 40 (List.drop 40 em_h_EstateOffice_settle))) = true := by decide +kernel
set_option maxRecDepth 100000 in
theorem k_EstateOffice_settle_3 : em_okm 78 (List.drop 40 (List.drop 40 (List.drop 40 em_c_EstateOffice_settle))) (List.drop 40 (List.drop 40 (List.drop 40 em_h_EstateOffice_settle))) = true := by decide +kernel
theorem k_EstateOffice_settle : em_okm 78 em_c_EstateOffice_settle em_h_EstateOffice_settle = true := em_okm_split 40 k_EstateOffice_settle_0 (em_okm_split 40 k_EstateOffice_settle_1 (em_okm_split 40 k_EstateOffice_settle_2 (k_EstateOffice_settle_3)))
set_option maxRecDepth 100000 in
theorem k_EstateOffice_undo : em_okm 79 em_c_EstateOffice_undo em_h_EstateOffice_undo = true := by decide +kernel
set_option maxRecDepth 100000 in
theorem k_EstateOffice_would : em_okm 80 em_c_EstateOffice_would em_h_EstateOffice_would = true := by decide +kernel
set_option maxRecDepth 100000 in
theorem k_EstateOffice_open : em_okm 81 em_c_EstateOffice_open em_h_EstateOffice_open = true := by decide +kernel
set_option maxRecDepth 100000 in
theorem k_EstateOffice_estate : em_okm 82 em_c_EstateOffice_estate em_h_EstateOffice_estate = true := by decide +kernel
set_option maxRecDepth 100000 in
theorem k_EstateOffice_got : em_okm 83 em_c_EstateOffice_got em_h_EstateOffice_got = true := by decide +kernel
set_option maxRecDepth 100000 in
theorem k_EstateOffice_why : em_okm 84 em_c_EstateOffice_why em_h_EstateOffice_why = true := by decide +kernel
set_option maxRecDepth 100000 in
theorem k_EstateOffice_rule : em_okm 85 em_c_EstateOffice_rule em_h_EstateOffice_rule = true := by decide +kernel
