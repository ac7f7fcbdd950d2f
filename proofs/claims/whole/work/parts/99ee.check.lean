set_option maxRecDepth 100000 in
theorem k_Estate_copy : em_okm 105 em_c_Estate_copy em_h_Estate_copy = true := by decide +kernel
set_option maxRecDepth 100000 in
theorem k_Estate_has : em_okm 106 em_c_Estate_has em_h_Estate_has = true := by decide +kernel
set_option maxRecDepth 100000 in
theorem k_Estate_figure : em_okm 107 em_c_Estate_figure em_h_Estate_figure = true := by decide +kernel
set_option maxRecDepth 100000 in
theorem k_Estate_figureOf : em_okm 108 em_c_Estate_figureOf em_h_Estate_figureOf = true := by decide +kernel
set_option maxRecDepth 100000 in
theorem k_History_allows : em_okm 109 em_c_History_allows em_h_History_allows = true := by decide +kernel
set_option maxRecDepth 100000 in
theorem k_History_enter : em_okm 110 em_c_History_enter em_h_History_enter = true := by decide +kernel
set_option maxRecDepth 100000 in
theorem k_History_takeBack : em_okm 111 em_c_History_takeBack em_h_History_takeBack = true := by decide +kernel
set_option maxRecDepth 100000 in
theorem k_Reader_readText : em_okm 112 em_c_Reader_readText em_h_Reader_readText = true := by decide +kernel
set_option maxRecDepth 100000 in
theorem k_Reader_exchange : em_okm 113 em_c_Reader_exchange em_h_Reader_exchange = true := by decide +kernel
set_option maxRecDepth 100000 in
theorem k_Reader_goTo : em_okm 114 em_c_Reader_goTo em_h_Reader_goTo = true := by decide +kernel
set_option maxRecDepth 100000 in
theorem k_Reader_fail : em_okm 115 em_c_Reader_fail em_h_Reader_fail = true := by decide +kernel
set_option maxRecDepth 100000 in
theorem k_Reader_note : em_okm 116 em_c_Reader_note em_h_Reader_note = true := by decide +kernel
set_option maxRecDepth 100000 in
theorem k_Reader_take : em_okm 117 em_c_Reader_take em_h_Reader_take = true := by decide +kernel
set_option maxRecDepth 100000 in
theorem k_Reader_kinNamed : em_okm 118 em_c_Reader_kinNamed em_h_Reader_kinNamed = true := by decide +kernel
set_option maxRecDepth 100000 in
theorem k_Reader_takeTell : em_okm 119 em_c_Reader_takeTell em_h_Reader_takeTell = true := by decide +kernel
set_option maxRecDepth 100000 in
theorem k_Reader_takeKin : em_okm 120 em_c_Reader_takeKin em_h_Reader_takeKin = true := by decide +kernel
set_option maxRecDepth 100000 in
theorem k_Reader_takeNewName : em_okm 121 em_c_Reader_takeNewName em_h_Reader_takeNewName = true := by decide +kernel
set_option maxRecDepth 100000 in
theorem k_Reader_takePaths : em_okm 122 em_c_Reader_takePaths em_h_Reader_takePaths = true := by decide +kernel
