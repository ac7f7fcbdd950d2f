set_option maxRecDepth 100000 in
theorem k_Parting_passDown : em_okm 152 em_c_Parting_passDown em_h_Parting_passDown = true := by decide +kernel
set_option maxRecDepth 100000 in
theorem k_Settlement_begin : em_okm 153 em_c_Settlement_begin em_h_Settlement_begin = true := by decide +kernel
set_option maxRecDepth 100000 in
theorem k_Settlement_carryOut : em_okm 154 em_c_Settlement_carryOut em_h_Settlement_carryOut = true := by decide +kernel
set_option maxRecDepth 100000 in
theorem k_Settlement_workOut : em_okm 155 em_c_Settlement_workOut em_h_Settlement_workOut = true := by decide +kernel
set_option maxRecDepth 100000 in
theorem k_Settlement_addTo : em_okm 156 em_c_Settlement_addTo em_h_Settlement_addTo = true := by decide +kernel
set_option maxRecDepth 100000 in
theorem k_Settlement_payDebts : em_okm 157 em_c_Settlement_payDebts em_h_Settlement_payDebts = true := by decide +kernel
set_option maxRecDepth 100000 in
theorem k_Settlement_payDebt : em_okm 158 em_c_Settlement_payDebt em_h_Settlement_payDebt = true := by decide +kernel
set_option maxRecDepth 100000 in
theorem k_Settlement_isLeft : em_okm 159 em_c_Settlement_isLeft em_h_Settlement_isLeft = true := by decide +kernel
set_option maxRecDepth 100000 in
theorem k_Settlement_payLegacies_0 : em_okm 160 (List.take 40 em_c_Settlement_payLegacies) (List.take 40 em_h_Settlement_payLegacies) = true := by decide +kernel
set_option maxRecDepth 100000 in
theorem k_Settlement_payLegacies_1 : em_okm 160 (List.take 40 (List.drop 40 em_c_Settlement_payLegacies)) (List.take 40 (List.drop 40 em_h_Settlement_payLegacies)) = true := by decide +kernel
set_option maxRecDepth 100000 in
theorem k_Settlement_payLegacies_2 : em_okm 160 (List.take 40 (List.drop 40 (List.drop 40 em_c_Settlement_payLegacies))) (List.take 40 (List.drop 40 (List.drop 40 em_h_Settlement_payLegacies))) = true := by decide +kernel
set_option maxRecDepth 100000 in
theorem k_Settlement_payLegacies_3 : em_okm 160 (List.drop 40 (List.drop 40 (List.drop 40 em_c_Settlement_payLegacies))) (List.drop 40 (List.drop 40 (List.drop 40 em_h_Settlement_payLegacies))) = true := by decide +kernel
theorem k_Settlement_payLegacies : em_okm 160 em_c_Settlement_payLegacies em_h_Settlement_payLegacies = true := em_okm_split 40 k_Settlement_payLegacies_0 (em_okm_split 40 k_Settlement_payLegacies_1 (em_okm_split 40 k_Settlement_payLegacies_2 (k_Settlement_payLegacies_3)))
set_option maxRecDepth 100000 in
theorem k_Settlement_payLegacy : em_okm 161 em_c_Settlement_payLegacy em_h_Settlement_payLegacy = true := by decide +kernel
set_option maxRecDepth 100000 in
theorem k_Settlement_payParts : em_okm 162 em_c_Settlement_payParts em_h_Settlement_payParts = true := by decide +kernel
set_option maxRecDepth 100000 in
theorem k_Model_feed : em_okm 163 em_c_Model_feed em_h_Model_feed = true := by decide +kernel
set_option maxRecDepth 100000 in
theorem k_Model_put : em_okm 164 em_c_Model_put em_h_Model_put = true := by decide +kernel
set_option maxRecDepth 100000 in
theorem k_Model_back : em_okm 165 em_c_Model_back em_h_Model_back = true := by decide +kernel
set_option maxRecDepth 100000 in
theorem k_Model_at : em_okm 166 em_c_Model_at em_h_Model_at = true := by decide +kernel
set_option maxRecDepth 100000 in
theorem k_Model_isDigit : em_okm 167 em_c_Model_isDigit em_h_Model_isDigit = true := by decide +kernel
set_option maxRecDepth 100000 in
theorem k_Model_isLetter : em_okm 168 em_c_Model_isLetter em_h_Model_isLetter = true := by decide +kernel
set_option maxRecDepth 100000 in
theorem k_Model_more : em_okm 169 em_c_Model_more em_h_Model_more = true := by decide +kernel
set_option maxRecDepth 100000 in
theorem k_Model_word : em_okm 170 em_c_Model_word em_h_Model_word = true := by decide +kernel
