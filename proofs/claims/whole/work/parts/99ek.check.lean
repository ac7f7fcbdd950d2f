set_option maxRecDepth 100000 in
theorem k_Model_times : em_okm 195 em_c_Model_times em_h_Model_times = true := by decide +kernel
set_option maxRecDepth 100000 in
theorem k_Model_over : em_okm 196 em_c_Model_over em_h_Model_over = true := by decide +kernel
set_option maxRecDepth 100000 in
theorem k_Model_isAbove : em_okm 197 em_c_Model_isAbove em_h_Model_isAbove = true := by decide +kernel
set_option maxRecDepth 100000 in
theorem k_Model_isPerson : em_okm 198 em_c_Model_isPerson em_h_Model_isPerson = true := by decide +kernel
set_option maxRecDepth 100000 in
theorem k_Model_isDay : em_okm 199 em_c_Model_isDay em_h_Model_isDay = true := by decide +kernel
set_option maxRecDepth 100000 in
theorem k_Model_person_0 : em_okm 200 (List.take 40 em_c_Model_person) (List.take 40 em_h_Model_person) = true := by decide +kernel
set_option maxRecDepth 100000 in
theorem k_Model_person_1 : em_okm 200 (List.take 40 (List.drop 40 em_c_Model_person)) (List.take 40 (List.drop 40 em_h_Model_person)) = true := by decide +kernel
set_option maxRecDepth 100000 in
theorem k_Model_person_2 : em_okm 200 (List.take 40 (List.drop 40 (List.drop 40 em_c_Model_person))) (List.take 40 (List.drop 40 (List.drop 40 em_h_Model_person))) = true := by decide +kernel
set_option maxRecDepth 100000 in
theorem k_Model_person_3 : em_okm 200 (List.drop 40 (List.drop 40 (List.drop 40 em_c_Model_person))) (List.drop 40 (List.drop 40 (List.drop 40 em_h_Model_person))) = true := by decide +kernel
theorem k_Model_person : em_okm 200 em_c_Model_person em_h_Model_person = true := em_okm_split 40 k_Model_person_0 (em_okm_split 40 k_Model_person_1 (em_okm_split 40 k_Model_person_2 (k_Model_person_3)))
set_option maxRecDepth 100000 in
theorem k_Model_mates : em_okm 201 em_c_Model_mates em_h_Model_mates = true := by decide +kernel
set_option maxRecDepth 100000 in
theorem k_Model_wealth : em_okm 202 em_c_Model_wealth em_h_Model_wealth = true := by decide +kernel
set_option maxRecDepth 100000 in
theorem k_Model_owes : em_okm 203 em_c_Model_owes em_h_Model_owes = true := by decide +kernel
set_option maxRecDepth 100000 in
theorem k_Model_leaves : em_okm 204 em_c_Model_leaves em_h_Model_leaves = true := by decide +kernel
set_option maxRecDepth 100000 in
theorem k_Model_dies : em_okm 205 em_c_Model_dies em_h_Model_dies = true := by decide +kernel
set_option maxRecDepth 100000 in
theorem k_Model_lives : em_okm 206 em_c_Model_lives em_h_Model_lives = true := by decide +kernel
