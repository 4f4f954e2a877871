set_option maxRecDepth 100000 in
theorem ck_96 : chkM 96 = true := by decide +kernel
set_option maxRecDepth 100000 in
theorem ck_97 : chkM 97 = true := by decide +kernel
set_option maxRecDepth 100000 in
theorem ck_98 : chkM 98 = true := by decide +kernel
set_option maxRecDepth 100000 in
theorem ck_99 : chkM 99 = true := by decide +kernel
set_option maxRecDepth 100000 in
theorem ck_100 : chkM 100 = true := by decide +kernel
set_option maxRecDepth 100000 in
theorem ck_101 : chkM 101 = true := by decide +kernel
set_option maxRecDepth 100000 in
theorem ck_102 : chkM 102 = true := by decide +kernel
set_option maxRecDepth 100000 in
theorem ck_103 : chkM 103 = true := by decide +kernel
set_option maxRecDepth 100000 in
theorem ck_104 : chkM 104 = true := by decide +kernel
set_option maxRecDepth 100000 in
theorem ck_105 : chkM 105 = true := by decide +kernel
set_option maxRecDepth 100000 in
theorem ck_106 : chkM 106 = true := by decide +kernel
set_option maxRecDepth 100000 in
theorem ck_107 : chkM 107 = true := by decide +kernel
set_option maxRecDepth 100000 in
theorem ck_108 : chkM 108 = true := by decide +kernel
set_option maxRecDepth 100000 in
theorem ck_109 : chkM 109 = true := by decide +kernel
set_option maxRecDepth 100000 in
theorem ck_110 : chkM 110 = true := by decide +kernel
set_option maxRecDepth 100000 in
theorem ck_111 : chkM 111 = true := by decide +kernel
set_option maxRecDepth 100000 in
theorem ck_112 : chkM 112 = true := by decide +kernel
set_option maxRecDepth 100000 in
theorem ck_113 : chkM 113 = true := by decide +kernel
set_option maxRecDepth 100000 in
theorem ck_114 : chkM 114 = true := by decide +kernel
set_option maxRecDepth 100000 in
theorem ck_115 : chkM 115 = true := by decide +kernel
set_option maxRecDepth 100000 in
theorem ck_116 : chkM 116 = true := by decide +kernel
set_option maxRecDepth 100000 in
theorem ck_117 : chkM 117 = true := by decide +kernel
set_option maxRecDepth 100000 in
theorem ck_118 : chkM 118 = true := by decide +kernel
set_option maxRecDepth 100000 in
theorem ck_119 : chkM 119 = true := by decide +kernel
set_option maxRecDepth 100000 in
theorem ck_120 : chkM 120 = true := by decide +kernel
set_option maxRecDepth 100000 in
theorem ck_121 : chkM 121 = true := by decide +kernel
set_option maxRecDepth 100000 in
theorem ck_122 : chkM 122 = true := by decide +kernel
set_option maxRecDepth 100000 in
theorem ck_123 : chkM 123 = true := by decide +kernel
