set_option maxRecDepth 100000 in
theorem k_Lw_law : em_okm 231 em_c_Lw_law em_h_Lw_law = true := by decide +kernel
