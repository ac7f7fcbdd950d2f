set_option maxRecDepth 100000 in
theorem k_Model_goesOn : em_okm 205 em_c_Model_goesOn em_h_Model_goesOn = true := by decide +kernel
set_option maxRecDepth 100000 in
theorem k_Model_shares : em_okm 206 em_c_Model_shares em_h_Model_shares = true := by decide +kernel
set_option maxRecDepth 100000 in
theorem k_Model_goesDown : em_okm 207 em_c_Model_goesDown em_h_Model_goesDown = true := by decide +kernel
set_option maxRecDepth 100000 in
theorem k_Model_isOfLine : em_okm 208 em_c_Model_isOfLine em_h_Model_isOfLine = true := by decide +kernel
set_option maxRecDepth 100000 in
theorem k_Model_earns : em_okm 209 em_c_Model_earns em_h_Model_earns = true := by decide +kernel
set_option maxRecDepth 100000 in
theorem k_Model_earnsOut : em_okm 210 em_c_Model_earnsOut em_h_Model_earnsOut = true := by decide +kernel
set_option maxRecDepth 100000 in
theorem k_Model_settles : em_okm 211 em_c_Model_settles em_h_Model_settles = true := by decide +kernel
set_option maxRecDepth 100000 in
theorem k_Model_pays : em_okm 212 em_c_Model_pays em_h_Model_pays = true := by decide +kernel
