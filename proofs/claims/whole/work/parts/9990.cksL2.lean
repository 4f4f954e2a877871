set_option maxRecDepth 100000 in
theorem ck_law_2 : chkB R_law code 4 ret false bk_law_2 = true := by decide +kernel
set_option maxRecDepth 100000 in
theorem ck_law_3 : chkB R_law code 4 ret false bk_law_3 = true := by decide +kernel
