set_option maxRecDepth 100000 in
theorem k_Reader_takeFixed : em_okm 116 em_c_Reader_takeFixed em_h_Reader_takeFixed = true := by decide +kernel
set_option maxRecDepth 100000 in
theorem k_Reader_takeBars : em_okm 117 em_c_Reader_takeBars em_h_Reader_takeBars = true := by decide +kernel
set_option maxRecDepth 100000 in
theorem k_Reader_takeList : em_okm 118 em_c_Reader_takeList em_h_Reader_takeList = true := by decide +kernel
set_option maxRecDepth 100000 in
theorem k_Reader_takeListed : em_okm 119 em_c_Reader_takeListed em_h_Reader_takeListed = true := by decide +kernel
set_option maxRecDepth 100000 in
theorem k_Reader_takeSteps : em_okm 120 em_c_Reader_takeSteps em_h_Reader_takeSteps = true := by decide +kernel
set_option maxRecDepth 100000 in
theorem k_Reader_takeWill : em_okm 121 em_c_Reader_takeWill em_h_Reader_takeWill = true := by decide +kernel
set_option maxRecDepth 100000 in
theorem k_Parting_work : em_okm 122 em_c_Parting_work em_h_Parting_work = true := by decide +kernel
set_option maxRecDepth 100000 in
theorem k_Parting_report : em_okm 123 em_c_Parting_report em_h_Parting_report = true := by decide +kernel
set_option maxRecDepth 100000 in
theorem k_Parting_reasonOf : em_okm 124 em_c_Parting_reasonOf em_h_Parting_reasonOf = true := by decide +kernel
set_option maxRecDepth 100000 in
theorem k_Parting_findLines : em_okm 125 em_c_Parting_findLines em_h_Parting_findLines = true := by decide +kernel
set_option maxRecDepth 100000 in
theorem k_Parting_findHeads : em_okm 126 em_c_Parting_findHeads em_h_Parting_findHeads = true := by decide +kernel
set_option maxRecDepth 100000 in
theorem k_Parting_headsOf : em_okm 127 em_c_Parting_headsOf em_h_Parting_headsOf = true := by decide +kernel
set_option maxRecDepth 100000 in
theorem k_Parting_findBarred : em_okm 128 em_c_Parting_findBarred em_h_Parting_findBarred = true := by decide +kernel
set_option maxRecDepth 100000 in
theorem k_Parting_barBy : em_okm 129 em_c_Parting_barBy em_h_Parting_barBy = true := by decide +kernel
set_option maxRecDepth 100000 in
theorem k_Parting_giveFixed : em_okm 130 em_c_Parting_giveFixed em_h_Parting_giveFixed = true := by decide +kernel
