set_option maxRecDepth 100000 in
theorem k_Text_wordKind : em_okm 34 em_c_Text_wordKind em_h_Text_wordKind = true := by decide +kernel
set_option maxRecDepth 100000 in
theorem k_Text_spells : em_okm 35 em_c_Text_spells em_h_Text_spells = true := by decide +kernel
set_option maxRecDepth 100000 in
theorem k_Text_word : em_okm 36 em_c_Text_word em_h_Text_word = true := by decide +kernel
set_option maxRecDepth 100000 in
theorem k_Text_number : em_okm 37 em_c_Text_number em_h_Text_number = true := by decide +kernel
set_option maxRecDepth 100000 in
theorem k_Text_nameNumber : em_okm 38 em_c_Text_nameNumber em_h_Text_nameNumber = true := by decide +kernel
set_option maxRecDepth 100000 in
theorem k_Text_signNumber : em_okm 39 em_c_Text_signNumber em_h_Text_signNumber = true := by decide +kernel
set_option maxRecDepth 100000 in
theorem k_Text_isLetter : em_okm 40 em_c_Text_isLetter em_h_Text_isLetter = true := by decide +kernel
set_option maxRecDepth 100000 in
theorem k_Text_isDigit : em_okm 41 em_c_Text_isDigit em_h_Text_isDigit = true := by decide +kernel
set_option maxRecDepth 100000 in
theorem k_Text_isBlank : em_okm 42 em_c_Text_isBlank em_h_Text_isBlank = true := by decide +kernel
set_option maxRecDepth 100000 in
theorem k_Register_has : em_okm 43 em_c_Register_has em_h_Register_has = true := by decide +kernel
set_option maxRecDepth 100000 in
theorem k_Register_hasUndead : em_okm 44 em_c_Register_hasUndead em_h_Register_hasUndead = true := by decide +kernel
set_option maxRecDepth 100000 in
theorem k_Register_fitsAsParent : em_okm 45 em_c_Register_fitsAsParent em_h_Register_fitsAsParent = true := by decide +kernel
set_option maxRecDepth 100000 in
theorem k_Register_addPerson : em_okm 46 em_c_Register_addPerson em_h_Register_addPerson = true := by decide +kernel
set_option maxRecDepth 100000 in
theorem k_Register_addMates : em_okm 47 em_c_Register_addMates em_h_Register_addMates = true := by decide +kernel
set_option maxRecDepth 100000 in
theorem k_Register_areMates : em_okm 48 em_c_Register_areMates em_h_Register_areMates = true := by decide +kernel
set_option maxRecDepth 100000 in
theorem k_Register_bornBy : em_okm 49 em_c_Register_bornBy em_h_Register_bornBy = true := by decide +kernel
set_option maxRecDepth 100000 in
theorem k_Register_livingOn : em_okm 50 em_c_Register_livingOn em_h_Register_livingOn = true := by decide +kernel
set_option maxRecDepth 100000 in
theorem k_Register_ofSex : em_okm 51 em_c_Register_ofSex em_h_Register_ofSex = true := by decide +kernel
set_option maxRecDepth 100000 in
theorem k_Register_deadCount : em_okm 52 em_c_Register_deadCount em_h_Register_deadCount = true := by decide +kernel
set_option maxRecDepth 100000 in
theorem k_Register_setDied : em_okm 53 em_c_Register_setDied em_h_Register_setDied = true := by decide +kernel
set_option maxRecDepth 100000 in
theorem k_Claims_add : em_okm 54 em_c_Claims_add em_h_Claims_add = true := by decide +kernel
set_option maxRecDepth 100000 in
theorem k_Law_clear : em_okm 55 em_c_Law_clear em_h_Law_clear = true := by decide +kernel
set_option maxRecDepth 100000 in
theorem k_Law_addStep : em_okm 56 em_c_Law_addStep em_h_Law_addStep = true := by decide +kernel
set_option maxRecDepth 100000 in
theorem k_Law_closeKin : em_okm 57 em_c_Law_closeKin em_h_Law_closeKin = true := by decide +kernel
set_option maxRecDepth 100000 in
theorem k_Law_addRule : em_okm 58 em_c_Law_addRule em_h_Law_addRule = true := by decide +kernel
set_option maxRecDepth 100000 in
theorem k_Law_setFixed : em_okm 59 em_c_Law_setFixed em_h_Law_setFixed = true := by decide +kernel
