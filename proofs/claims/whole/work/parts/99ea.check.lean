set_option maxRecDepth 100000 in
theorem k_Integer_bitCount : em_okm 0 em_c_Integer_bitCount em_h_Integer_bitCount = true := by decide +kernel
set_option maxRecDepth 100000 in
theorem k_Arrays_fill : em_okm 1 em_c_Arrays_fill em_h_Arrays_fill = true := by decide +kernel
set_option maxRecDepth 100000 in
theorem k_Arrays_fillJ : em_okm 2 em_c_Arrays_fillJ em_h_Arrays_fillJ = true := by decide +kernel
set_option maxRecDepth 100000 in
theorem k_String_coder : em_okm 3 em_c_String_coder em_h_String_coder = true := by decide +kernel
set_option maxRecDepth 100000 in
theorem k_String_length : em_okm 4 em_c_String_length em_h_String_length = true := by decide +kernel
set_option maxRecDepth 100000 in
theorem k_String_isLatin1 : em_okm 5 em_c_String_isLatin1 em_h_String_isLatin1 = true := by decide +kernel
set_option maxRecDepth 100000 in
theorem k_Preconditions_checkIndex : em_okm 6 em_c_Preconditions_checkIndex em_h_Preconditions_checkIndex = true := by decide +kernel
set_option maxRecDepth 100000 in
theorem k_String_checkIndex : em_okm 7 em_c_String_checkIndex em_h_String_checkIndex = true := by decide +kernel
set_option maxRecDepth 100000 in
theorem k_StringLatin1_charAt : em_okm 8 em_c_StringLatin1_charAt em_h_StringLatin1_charAt = true := by decide +kernel
set_option maxRecDepth 100000 in
theorem k_String_charAt : em_okm 9 em_c_String_charAt em_h_String_charAt = true := by decide +kernel
set_option maxRecDepth 100000 in
theorem k_StringLatin1_canEncode : em_okm 10 em_c_StringLatin1_canEncode em_h_StringLatin1_canEncode = true := by decide +kernel
set_option maxRecDepth 100000 in
theorem k_StringLatin1_indexOfChar : em_okm 11 em_c_StringLatin1_indexOfChar em_h_StringLatin1_indexOfChar = true := by decide +kernel
set_option maxRecDepth 100000 in
theorem k_StringLatin1_indexOf : em_okm 12 em_c_StringLatin1_indexOf em_h_StringLatin1_indexOf = true := by decide +kernel
set_option maxRecDepth 100000 in
theorem k_String_indexOf : em_okm 13 em_c_String_indexOf em_h_String_indexOf = true := by decide +kernel
set_option maxRecDepth 100000 in
theorem k_String_indexOf1 : em_okm 14 em_c_String_indexOf1 em_h_String_indexOf1 = true := by decide +kernel
set_option maxRecDepth 100000 in
theorem k_Ratio_upper : em_okm 15 em_c_Ratio_upper em_h_Ratio_upper = true := by decide +kernel
set_option maxRecDepth 100000 in
theorem k_Ratio_lower : em_okm 16 em_c_Ratio_lower em_h_Ratio_lower = true := by decide +kernel
set_option maxRecDepth 100000 in
theorem k_Ratio_isSpent : em_okm 17 em_c_Ratio_isSpent em_h_Ratio_isSpent = true := by decide +kernel
set_option maxRecDepth 100000 in
theorem k_Ratio_isPositive : em_okm 18 em_c_Ratio_isPositive em_h_Ratio_isPositive = true := by decide +kernel
set_option maxRecDepth 100000 in
theorem k_Ratio_of : em_okm 19 em_c_Ratio_of em_h_Ratio_of = true := by decide +kernel
set_option maxRecDepth 100000 in
theorem k_Ratio_plus : em_okm 20 em_c_Ratio_plus em_h_Ratio_plus = true := by decide +kernel
set_option maxRecDepth 100000 in
theorem k_Ratio_minus : em_okm 21 em_c_Ratio_minus em_h_Ratio_minus = true := by decide +kernel
set_option maxRecDepth 100000 in
theorem k_Ratio_times : em_okm 22 em_c_Ratio_times em_h_Ratio_times = true := by decide +kernel
set_option maxRecDepth 100000 in
theorem k_Ratio_over : em_okm 23 em_c_Ratio_over em_h_Ratio_over = true := by decide +kernel
set_option maxRecDepth 100000 in
theorem k_Ratio_isAbove : em_okm 24 em_c_Ratio_isAbove em_h_Ratio_isAbove = true := by decide +kernel
set_option maxRecDepth 100000 in
theorem k_Ratio_lesser : em_okm 25 em_c_Ratio_lesser em_h_Ratio_lesser = true := by decide +kernel
set_option maxRecDepth 100000 in
theorem k_Ratio_commonDivisor : em_okm 26 em_c_Ratio_commonDivisor em_h_Ratio_commonDivisor = true := by decide +kernel
set_option maxRecDepth 100000 in
theorem k_Text_add : em_okm 27 em_c_Text_add em_h_Text_add = true := by decide +kernel
set_option maxRecDepth 100000 in
theorem k_Text_startAt : em_okm 28 em_c_Text_startAt em_h_Text_startAt = true := by decide +kernel
set_option maxRecDepth 100000 in
theorem k_Text_split : em_okm 29 em_c_Text_split em_h_Text_split = true := by decide +kernel
set_option maxRecDepth 100000 in
theorem k_Text_byteAt : em_okm 30 em_c_Text_byteAt em_h_Text_byteAt = true := by decide +kernel
set_option maxRecDepth 100000 in
theorem k_Text_skipBlanks : em_okm 31 em_c_Text_skipBlanks em_h_Text_skipBlanks = true := by decide +kernel
set_option maxRecDepth 100000 in
theorem k_Text_tokenEnd : em_okm 32 em_c_Text_tokenEnd em_h_Text_tokenEnd = true := by decide +kernel
set_option maxRecDepth 100000 in
theorem k_Text_kindOf : em_okm 33 em_c_Text_kindOf em_h_Text_kindOf = true := by decide +kernel
