set_option maxRecDepth 100000 in
theorem k_Settlement_payDebts : em_okm 145 em_c_Settlement_payDebts em_h_Settlement_payDebts = true := by decide +kernel
set_option maxRecDepth 100000 in
theorem k_Settlement_payDebt : em_okm 146 em_c_Settlement_payDebt em_h_Settlement_payDebt = true := by decide +kernel
set_option maxRecDepth 100000 in
theorem k_Settlement_isLeft : em_okm 147 em_c_Settlement_isLeft em_h_Settlement_isLeft = true := by decide +kernel
set_option maxRecDepth 100000 in
theorem k_Settlement_payLegacies_0 : em_okm 148 (List.take 40 em_c_Settlement_payLegacies) (List.take 40 em_h_Settlement_payLegacies) = true := by decide +kernel
set_option maxRecDepth 100000 in
theorem k_Settlement_payLegacies_1 : em_okm 148 (List.take 40 (List.drop 40 em_c_Settlement_payLegacies)) (List.take 40 (List.drop 40 em_h_Settlement_payLegacies)) = true := by decide +kernel
set_option maxRecDepth 100000 in
theorem k_Settlement_payLegacies_2 : em_okm 148 (List.take 40 (List.drop 40 (List.drop 40 em_c_Settlement_payLegacies))) (List.take 40 (List.drop 40 (List.drop 40 em_h_Settlement_payLegacies))) = true := by decide +kernel
set_option maxRecDepth 100000 in
theorem k_Settlement_payLegacies_3 : em_okm 148 (List.drop 40 (List.drop 40 (List.drop 40 em_c_Settlement_payLegacies))) (List.drop 40 (List.drop 40 (List.drop 40 em_h_Settlement_payLegacies))) = true := by decide +kernel
theorem k_Settlement_payLegacies : em_okm 148 em_c_Settlement_payLegacies em_h_Settlement_payLegacies = true := em_okm_split 40 k_Settlement_payLegacies_0 (em_okm_split 40 k_Settlement_payLegacies_1 (em_okm_split 40 k_Settlement_payLegacies_2 (k_Settlement_payLegacies_3)))
set_option maxRecDepth 100000 in
theorem k_Settlement_payLegacy : em_okm 149 em_c_Settlement_payLegacy em_h_Settlement_payLegacy = true := by decide +kernel
set_option maxRecDepth 100000 in
theorem k_Settlement_payParts : em_okm 150 em_c_Settlement_payParts em_h_Settlement_payParts = true := by decide +kernel
set_option maxRecDepth 100000 in
theorem k_Model_feed : em_okm 151 em_c_Model_feed em_h_Model_feed = true := by decide +kernel
set_option maxRecDepth 100000 in
theorem k_Model_put : em_okm 152 em_c_Model_put em_h_Model_put = true := by decide +kernel
set_option maxRecDepth 100000 in
theorem k_Model_back : em_okm 153 em_c_Model_back em_h_Model_back = true := by decide +kernel
set_option maxRecDepth 100000 in
theorem k_Model_at : em_okm 154 em_c_Model_at em_h_Model_at = true := by decide +kernel
set_option maxRecDepth 100000 in
theorem k_Model_isDigit : em_okm 155 em_c_Model_isDigit em_h_Model_isDigit = true := by decide +kernel
set_option maxRecDepth 100000 in
theorem k_Model_isLetter : em_okm 156 em_c_Model_isLetter em_h_Model_isLetter = true := by decide +kernel
set_option maxRecDepth 100000 in
theorem k_Model_more : em_okm 157 em_c_Model_more em_h_Model_more = true := by decide +kernel
set_option maxRecDepth 100000 in
theorem k_Model_word : em_okm 158 em_c_Model_word em_h_Model_word = true := by decide +kernel
set_option maxRecDepth 100000 in
theorem k_Model_token : em_okm 159 em_c_Model_token em_h_Model_token = true := by decide +kernel
