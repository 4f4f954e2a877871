set_option maxRecDepth 100000 in
theorem ck_62 : chkM 62 = true := by decide +kernel
set_option maxRecDepth 100000 in
theorem ck_63 : chkM 63 = true := by decide +kernel
set_option maxRecDepth 100000 in
theorem ck_64 : chkM 64 = true := by decide +kernel
set_option maxRecDepth 100000 in
theorem ck_65 : chkM 65 = true := by decide +kernel
set_option maxRecDepth 100000 in
theorem ck_66 : chkM 66 = true := by decide +kernel
set_option maxRecDepth 100000 in
theorem ck_67 : chkM 67 = true := by decide +kernel
set_option maxRecDepth 100000 in
theorem ck_68 : chkM 68 = true := by decide +kernel
set_option maxRecDepth 100000 in
theorem ck_69 : chkM 69 = true := by decide +kernel
set_option maxRecDepth 100000 in
theorem ck_70 : chkM 70 = true := by decide +kernel
set_option maxRecDepth 100000 in
theorem ck_71 : chkM 71 = true := by decide +kernel
set_option maxRecDepth 100000 in
theorem ck_72 : chkM 72 = true := by decide +kernel
set_option maxRecDepth 100000 in
theorem ck_73 : chkM 73 = true := by decide +kernel
set_option maxRecDepth 100000 in
theorem ck_74 : chkM 74 = true := by decide +kernel
set_option maxRecDepth 100000 in
theorem ck_75 : chkM 75 = true := by decide +kernel
set_option maxRecDepth 100000 in
theorem ck_76 : chkM 76 = true := by decide +kernel
set_option maxRecDepth 100000 in
theorem ck_77 : chkM 77 = true := by decide +kernel
set_option maxRecDepth 100000 in
theorem ck_78 : chkM 78 = true := by decide +kernel
set_option maxRecDepth 100000 in
theorem ck_79 : chkM 79 = true := by decide +kernel
set_option maxRecDepth 100000 in
theorem ck_80 : chkM 80 = true := by decide +kernel
set_option maxRecDepth 100000 in
theorem ck_81 : chkM 81 = true := by decide +kernel
set_option maxRecDepth 100000 in
theorem ck_82 : chkM 82 = true := by decide +kernel
set_option maxRecDepth 100000 in
theorem ck_83 : chkM 83 = true := by decide +kernel
set_option maxRecDepth 100000 in
theorem ck_84 : chkM 84 = true := by decide +kernel
set_option maxRecDepth 100000 in
theorem ck_85 : chkM 85 = true := by decide +kernel
set_option maxRecDepth 100000 in
theorem ck_86 : chkM 86 = true := by decide +kernel
set_option maxRecDepth 100000 in
theorem ck_87 : chkM 87 = true := by decide +kernel
set_option maxRecDepth 100000 in
theorem ck_88 : chkM 88 = true := by decide +kernel
set_option maxRecDepth 100000 in
theorem ck_89 : chkM 89 = true := by decide +kernel
set_option maxRecDepth 100000 in
theorem ck_90 : chkM 90 = true := by decide +kernel
set_option maxRecDepth 100000 in
theorem ck_91 : chkM 91 = true := by decide +kernel
set_option maxRecDepth 100000 in
theorem ck_92 : chkM 92 = true := by decide +kernel
set_option maxRecDepth 100000 in
theorem ck_93 : chkM 93 = true := by decide +kernel
set_option maxRecDepth 100000 in
theorem ck_94 : chkM 94 = true := by decide +kernel
set_option maxRecDepth 100000 in
theorem ck_95 : chkM 95 = true := by decide +kernel
