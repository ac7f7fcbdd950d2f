set_option maxRecDepth 100000 in
theorem k_Model_token : em_okm 171 em_c_Model_token em_h_Model_token = true := by decide +kernel
set_option maxRecDepth 100000 in
theorem k_Model_cut_0 : em_okm 172 (List.take 40 em_c_Model_cut) (List.take 40 em_h_Model_cut) = true := by decide +kernel
set_option maxRecDepth 100000 in
theorem k_Model_cut_1 : em_okm 172 (List.take 40 (List.drop 40 em_c_Model_cut)) (List.take 40 (List.drop 40 em_h_Model_cut)) = true := by decide +kernel
set_option maxRecDepth 100000 in
theorem k_Model_cut_2 : em_okm 172 (List.take 40 (List.drop 40 (List.drop 40 em_c_Model_cut))) (List.take 40 (List.drop 40 (List.drop 40 em_h_Model_cut))) = true := by decide +kernel
set_option maxRecDepth 100000 in
theorem k_Model_cut_3 : em_okm 172 (List.take 40 (List.drop 40 (List.drop 40 (List.drop 40 em_c_Model_cut)))) (List.take 40 (List.drop 40 (List.drop 40 (List.drop 40 em_h_Model_cut)))) = true := by decide +kernel
set_option maxRecDepth 100000 in
theorem k_Model_cut_4 : em_okm 172 (List.take 40 (List.drop 40 (List.drop 40 (List.drop 40 (List.drop 40 em_c_Model_cut))))) (List.take 40 (List.drop 40 (List.drop 40 (List.drop 40 (List.drop 40 em_h_Model_cut))))) = true := by decide +kernel
set_option maxRecDepth 100000 in
theorem k_Model_cut_5 : em_okm 172 (List.drop 40 (List.drop 40 (List.drop 40 (List.drop 40 (List.drop 40 em_c_Model_cut))))) (List.drop 40 (List.drop 40 (List.drop 40 (List.drop 40 (List.drop 40 em_h_Model_cut))))) = true := by decide +kernel
theorem k_Model_cut : em_okm 172 em_c_Model_cut em_h_Model_cut = true := em_okm_split 40 k_Model_cut_0 (em_okm_split 40 k_Model_cut_1 (em_okm_split 40 k_Model_cut_2 (em_okm_split 40 k_Model_cut_3 (em_okm_split 40 k_Model_cut_4 (k_Model_cut_5)))))
set_option maxRecDepth 100000 in
theorem k_Model_is : em_okm 173 em_c_Model_is em_h_Model_is = true := by decide +kernel
set_option maxRecDepth 100000 in
theorem k_Model_isName : em_okm 174 em_c_Model_isName em_h_Model_isName = true := by decide +kernel
set_option maxRecDepth 100000 in
theorem k_Model_fail : em_okm 175 em_c_Model_fail em_h_Model_fail = true := by decide +kernel
set_option maxRecDepth 100000 in
theorem k_Model_wrong : em_okm 176 em_c_Model_wrong em_h_Model_wrong = true := by decide +kernel
set_option maxRecDepth 100000 in
theorem k_Model_next : em_okm 177 em_c_Model_next em_h_Model_next = true := by decide +kernel
set_option maxRecDepth 100000 in
theorem k_Model_must : em_okm 178 em_c_Model_must em_h_Model_must = true := by decide +kernel
set_option maxRecDepth 100000 in
theorem k_Model_name : em_okm 179 em_c_Model_name em_h_Model_name = true := by decide +kernel
set_option maxRecDepth 100000 in
theorem k_Model_kinOf : em_okm 180 em_c_Model_kinOf em_h_Model_kinOf = true := by decide +kernel
set_option maxRecDepth 100000 in
theorem k_Model_namedKin : em_okm 181 em_c_Model_namedKin em_h_Model_namedKin = true := by decide +kernel
set_option maxRecDepth 100000 in
theorem k_Model_read_0 : em_okm 182 (List.take 40 em_c_Model_read) (List.take 40 em_h_Model_read) = true := by decide +kernel
set_option maxRecDepth 100000 in
theorem k_Model_read_1 : em_okm 182 (List.take 40 (List.drop 40 em_c_Model_read)) (List.take 40 (List.drop 40 em_h_Model_read)) = true := by decide +kernel
set_option maxRecDepth 100000 in
theorem k_Model_read_2 : em_okm 182 (List.take 40 (List.drop 40 (List.drop 40 em_c_Model_read))) (List.take 40 (List.drop 40 (List.drop 40 em_h_Model_read))) = true := by decide +kernel
set_option maxRecDepth 100000 in
theorem k_Model_read_3 : em_okm 182 (List.take 40 (List.drop 40 (List.drop 40 (List.drop 40 em_c_Model_read)))) (List.take 40 (List.drop 40 (List.drop 40 (List.drop 40 em_h_Model_read)))) = true := by decide +kernel
set_option maxRecDepth 100000 in
theorem k_Model_read_4 : em_okm 182 (List.drop 40 (List.drop 40 (List.drop 40 (List.drop 40 em_c_Model_read)))) (List.drop 40 (List.drop 40 (List.drop 40 (List.drop 40 em_h_Model_read)))) = true := by decide +kernel
theorem k_Model_read : em_okm 182 em_c_Model_read em_h_Model_read = true := em_okm_split 40 k_Model_read_0 (em_okm_split 40 k_Model_read_1 (em_okm_split 40 k_Model_read_2 (em_okm_split 40 k_Model_read_3 (k_Model_read_4))))
set_option maxRecDepth 100000 in
theorem k_Model_place : em_okm 183 em_c_Model_place em_h_Model_place = true := by decide +kernel
set_option maxRecDepth 100000 in
theorem k_Model_tell_0 : em_okm 184 (List.take 40 em_c_Model_tell) (List.take 40 em_h_Model_tell) = true := by decide +kernel
set_option maxRecDepth 100000 in
theorem k_Model_tell_1 : em_okm 184 (List.take 40 (List.drop 40 em_c_Model_tell)) (List.take 40 (List.drop 40 em_h_Model_tell)) = true := by decide +kernel
set_option maxRecDepth 100000 in
theorem k_Model_tell_2 : em_okm 184 (List.take 40 (List.drop 40 (List.drop 40 em_c_Model_tell))) (List.take 40 (List.drop 40 (List.drop 40 em_h_Model_tell))) = true := by decide +kernel
set_option maxRecDepth 100000 in
theorem k_Model_tell_3 : em_okm 184 (List.take 40 (List.drop 40 (List.drop 40 (List.drop 40 em_c_Model_tell)))) (List.take 40 (List.drop 40 (List.drop 40 (List.drop 40 em_h_Model_tell)))) = true := by decide +kernel
set_option maxRecDepth 100000 in
theorem k_Model_tell_4 : em_okm 184 (List.drop 40 (List.drop 40 (List.drop 40 (List.drop 40 em_c_Model_tell)))) (List.drop 40 (List.drop 40 (List.drop 40 (List.drop 40 em_h_Model_tell)))) = true := by decide +kernel
theorem k_Model_tell : em_okm 184 em_c_Model_tell em_h_Model_tell = true := em_okm_split 40 k_Model_tell_0 (em_okm_split 40 k_Model_tell_1 (em_okm_split 40 k_Model_tell_2 (em_okm_split 40 k_Model_tell_3 (k_Model_tell_4))))
