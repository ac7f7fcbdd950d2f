/-! CONSTRUCTORS: the tables are the bytes'. Written by wip/gen/ktab.py. -/
set_option maxRecDepth 100000 in
theorem kk_0_0 : ek_okm 0 ek_c_0 ek_h_0 = true := by decide +kernel
theorem kk_0 : ek_okm 0 ek_c_0 ek_h_0 = true := kk_0_0
set_option maxRecDepth 100000 in
theorem kk_1_0 : ek_okm 1 ek_c_1 ek_h_1 = true := by decide +kernel
theorem kk_1 : ek_okm 1 ek_c_1 ek_h_1 = true := kk_1_0
set_option maxRecDepth 100000 in
theorem kk_2_0 : ek_okm 2 ek_c_2 ek_h_2 = true := by decide +kernel
theorem kk_2 : ek_okm 2 ek_c_2 ek_h_2 = true := kk_2_0
set_option maxRecDepth 100000 in
theorem kk_3_0 : ek_okm 3 ek_c_3 ek_h_3 = true := by decide +kernel
theorem kk_3 : ek_okm 3 ek_c_3 ek_h_3 = true := kk_3_0
set_option maxRecDepth 100000 in
theorem kk_4_0 : ek_okm 4 ek_c_4 ek_h_4 = true := by decide +kernel
theorem kk_4 : ek_okm 4 ek_c_4 ek_h_4 = true := kk_4_0
set_option maxRecDepth 100000 in
theorem kk_5_0 : ek_okm 5 ek_c_5 ek_h_5 = true := by decide +kernel
theorem kk_5 : ek_okm 5 ek_c_5 ek_h_5 = true := kk_5_0
set_option maxRecDepth 100000 in
theorem kk_6_0 : ek_okm 6 ek_c_6 ek_h_6 = true := by decide +kernel
theorem kk_6 : ek_okm 6 ek_c_6 ek_h_6 = true := kk_6_0
set_option maxRecDepth 100000 in
theorem kk_7_0 : ek_okm 7 ek_c_7 ek_h_7 = true := by decide +kernel
theorem kk_7 : ek_okm 7 ek_c_7 ek_h_7 = true := kk_7_0
set_option maxRecDepth 100000 in
theorem kk_8_0 : ek_okm 8 ek_c_8 ek_h_8 = true := by decide +kernel
theorem kk_8 : ek_okm 8 ek_c_8 ek_h_8 = true := kk_8_0
set_option maxRecDepth 100000 in
theorem kk_9_0 : ek_okm 9 ek_c_9 ek_h_9 = true := by decide +kernel
theorem kk_9 : ek_okm 9 ek_c_9 ek_h_9 = true := kk_9_0
set_option maxRecDepth 100000 in
theorem kk_10_0 : ek_okm 10 (List.take 60 ek_c_10) (List.take 60 ek_h_10) = true := by decide +kernel
set_option maxRecDepth 100000 in
theorem kk_10_1 : ek_okm 10 (List.drop 60 ek_c_10) (List.drop 60 ek_h_10) = true := by decide +kernel
theorem kk_10 : ek_okm 10 ek_c_10 ek_h_10 = true := ek_okm_split 60 kk_10_0 (kk_10_1)
set_option maxRecDepth 100000 in
theorem kk_11_0 : ek_okm 11 (List.take 60 ek_c_11) (List.take 60 ek_h_11) = true := by decide +kernel
set_option maxRecDepth 100000 in
theorem kk_11_1 : ek_okm 11 (List.take 60 (List.drop 60 ek_c_11)) (List.take 60 (List.drop 60 ek_h_11)) = true := by decide +kernel
set_option maxRecDepth 100000 in
theorem kk_11_2 : ek_okm 11 (List.take 60 (List.drop 60 (List.drop 60 ek_c_11))) (List.take 60 (List.drop 60 (List.drop 60 ek_h_11))) = true := by decide +kernel
set_option maxRecDepth 100000 in
theorem kk_11_3 : ek_okm 11 (List.take 60 (List.drop 60 (List.drop 60 (List.drop 60 ek_c_11)))) (List.take 60 (List.drop 60 (List.drop 60 (List.drop 60 ek_h_11)))) = true := by decide +kernel
set_option maxRecDepth 100000 in
theorem kk_11_4 : ek_okm 11 (List.take 60 (List.drop 60 (List.drop 60 (List.drop 60 (List.drop 60 ek_c_11))))) (List.take 60 (List.drop 60 (List.drop 60 (List.drop 60 (List.drop 60 ek_h_11))))) = true := by decide +kernel
set_option maxRecDepth 100000 in
theorem kk_11_5 : ek_okm 11 (List.take 60 (List.drop 60 (List.drop 60 (List.drop 60 (List.drop 60 (List.drop 60 ek_c_11)))))) (List.take 60 (List.drop 60 (List.drop 60 (List.drop 60 (List.drop 60 (List.drop 60 ek_h_11)))))) = true := by decide +kernel
set_option maxRecDepth 100000 in
theorem kk_11_6 : ek_okm 11 (List.take 60 (List.drop 60 (List.drop 60 (List.drop 60 (List.drop 60 (List.drop 60 (List.drop 60 ek_c_11))))))) (List.take 60 (List.drop 60 (List.drop 60 (List.drop 60 (List.drop 60 (List.drop 60 (List.drop 60 ek_h_11))))))) = true := by decide +kernel
set_option maxRecDepth 100000 in
theorem kk_11_7 : ek_okm 11 (List.take 60 (List.drop 60 (List.drop 60 (List.drop 60 (List.drop 60 (List.drop 60 (List.drop 60 (List.drop 60 ek_c_11)))))))) (List.take 60 (List.drop 60 (List.drop 60 (List.drop 60 (List.drop 60 (List.drop 60 (List.drop 60 (List.drop 60 ek_h_11)))))))) = true := by decide +kernel
set_option maxRecDepth 100000 in
theorem kk_11_8 : ek_okm 11 (List.drop 60 (List.drop 60 (List.drop 60 (List.drop 60 (List.drop 60 (List.drop 60 (List.drop 60 (List.drop 60 ek_c_11)))))))) (List.drop 60 (List.drop 60 (List.drop 60 (List.drop 60 (List.drop 60 (List.drop 60 (List.drop 60 (List.drop 60 ek_h_11)))))))) = true := by decide +kernel
theorem kk_11 : ek_okm 11 ek_c_11 ek_h_11 = true := ek_okm_split 60 kk_11_0 (ek_okm_split 60 kk_11_1 (ek_okm_split 60 kk_11_2 (ek_okm_split 60 kk_11_3 (ek_okm_split 60 kk_11_4 (ek_okm_split 60 kk_11_5 (ek_okm_split 60 kk_11_6 (ek_okm_split 60 kk_11_7 (kk_11_8))))))))
set_option maxRecDepth 100000 in
theorem kk_12_0 : ek_okm 12 ek_c_12 ek_h_12 = true := by decide +kernel
theorem kk_12 : ek_okm 12 ek_c_12 ek_h_12 = true := kk_12_0
set_option maxRecDepth 100000 in
theorem kk_13_0 : ek_okm 13 ek_c_13 ek_h_13 = true := by decide +kernel
theorem kk_13 : ek_okm 13 ek_c_13 ek_h_13 = true := kk_13_0
set_option maxRecDepth 100000 in
theorem kk_14_0 : ek_okm 14 ek_c_14 ek_h_14 = true := by decide +kernel
theorem kk_14 : ek_okm 14 ek_c_14 ek_h_14 = true := kk_14_0
theorem ek_okall : ∀ mid, mid < 15 → ek_okm mid (em_nth ek_codes mid []) (em_nth ek_hints mid []) = true
  | 0, _ => kk_0
  | 1, _ => kk_1
  | 2, _ => kk_2
  | 3, _ => kk_3
  | 4, _ => kk_4
  | 5, _ => kk_5
  | 6, _ => kk_6
  | 7, _ => kk_7
  | 8, _ => kk_8
  | 9, _ => kk_9
  | 10, _ => kk_10
  | 11, _ => kk_11
  | 12, _ => kk_12
  | 13, _ => kk_13
  | 14, _ => kk_14
  | n + 15, h => by omega
theorem ek_codeOk {mid : Nat} (hm : mid < 15) {pc : Nat} {xi : em_I} (h : ek_code mid pc = some xi) : ∃ hh, ek_oki mid pc xi hh = true := ek_okm_look (ek_okall mid hm) h
