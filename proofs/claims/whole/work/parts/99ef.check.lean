set_option maxRecDepth 100000 in
theorem k_Reader_takeStep : em_okm 123 em_c_Reader_takeStep em_h_Reader_takeStep = true := by decide +kernel
set_option maxRecDepth 100000 in
theorem k_Reader_findTold : em_okm 124 em_c_Reader_findTold em_h_Reader_findTold = true := by decide +kernel
set_option maxRecDepth 100000 in
theorem k_Reader_takeTold : em_okm 125 em_c_Reader_takeTold em_h_Reader_takeTold = true := by decide +kernel
set_option maxRecDepth 100000 in
theorem k_Reader_takePart : em_okm 126 em_c_Reader_takePart em_h_Reader_takePart = true := by decide +kernel
set_option maxRecDepth 100000 in
theorem k_Reader_takeRuleWord : em_okm 127 em_c_Reader_takeRuleWord em_h_Reader_takeRuleWord = true := by decide +kernel
set_option maxRecDepth 100000 in
theorem k_Reader_takeFixed : em_okm 128 em_c_Reader_takeFixed em_h_Reader_takeFixed = true := by decide +kernel
set_option maxRecDepth 100000 in
theorem k_Reader_takeBars : em_okm 129 em_c_Reader_takeBars em_h_Reader_takeBars = true := by decide +kernel
set_option maxRecDepth 100000 in
theorem k_Reader_takeList : em_okm 130 em_c_Reader_takeList em_h_Reader_takeList = true := by decide +kernel
set_option maxRecDepth 100000 in
theorem k_Reader_takeListed : em_okm 131 em_c_Reader_takeListed em_h_Reader_takeListed = true := by decide +kernel
set_option maxRecDepth 100000 in
theorem k_Reader_takeSteps : em_okm 132 em_c_Reader_takeSteps em_h_Reader_takeSteps = true := by decide +kernel
set_option maxRecDepth 100000 in
theorem k_Reader_takeWill : em_okm 133 em_c_Reader_takeWill em_h_Reader_takeWill = true := by decide +kernel
set_option maxRecDepth 100000 in
theorem k_Parting_work : em_okm 134 em_c_Parting_work em_h_Parting_work = true := by decide +kernel
set_option maxRecDepth 100000 in
theorem k_Parting_report : em_okm 135 em_c_Parting_report em_h_Parting_report = true := by decide +kernel
set_option maxRecDepth 100000 in
theorem k_Parting_reasonOf : em_okm 136 em_c_Parting_reasonOf em_h_Parting_reasonOf = true := by decide +kernel
set_option maxRecDepth 100000 in
theorem k_Parting_findLines : em_okm 137 em_c_Parting_findLines em_h_Parting_findLines = true := by decide +kernel
