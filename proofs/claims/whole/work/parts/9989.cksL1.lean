set_option maxRecDepth 100000 in
theorem ck_law_0 : chkB R_law code 4 ret false bk_law_0 = true := by decide +kernel
set_option maxRecDepth 100000 in
theorem ck_law_1 : chkB R_law code 4 ret false bk_law_1 = true := by decide +kernel
