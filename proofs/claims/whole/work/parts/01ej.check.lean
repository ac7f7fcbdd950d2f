set_option maxRecDepth 100000 in
theorem k_Model_tellKin : em_okm 174 em_c_Model_tellKin em_h_Model_tellKin = true := by decide +kernel
set_option maxRecDepth 100000 in
theorem k_Model_tellPath : em_okm 175 em_c_Model_tellPath em_h_Model_tellPath = true := by decide +kernel
set_option maxRecDepth 100000 in
theorem k_Model_tellFixed : em_okm 176 em_c_Model_tellFixed em_h_Model_tellFixed = true := by decide +kernel
set_option maxRecDepth 100000 in
theorem k_Model_tellBars : em_okm 177 em_c_Model_tellBars em_h_Model_tellBars = true := by decide +kernel
set_option maxRecDepth 100000 in
theorem k_Model_tellList : em_okm 178 em_c_Model_tellList em_h_Model_tellList = true := by decide +kernel
set_option maxRecDepth 100000 in
theorem k_Model_common : em_okm 179 em_c_Model_common em_h_Model_common = true := by decide +kernel
set_option maxRecDepth 100000 in
theorem k_Model_lowest : em_okm 180 em_c_Model_lowest em_h_Model_lowest = true := by decide +kernel
set_option maxRecDepth 100000 in
theorem k_Model_plus : em_okm 181 em_c_Model_plus em_h_Model_plus = true := by decide +kernel
set_option maxRecDepth 100000 in
theorem k_Model_minus : em_okm 182 em_c_Model_minus em_h_Model_minus = true := by decide +kernel
set_option maxRecDepth 100000 in
theorem k_Model_times : em_okm 183 em_c_Model_times em_h_Model_times = true := by decide +kernel
