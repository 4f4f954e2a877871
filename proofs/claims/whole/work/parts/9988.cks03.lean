set_option maxRecDepth 100000 in
theorem ck_124 : chkM 124 = true := by decide +kernel
set_option maxRecDepth 100000 in
theorem ck_125 : chkM 125 = true := by decide +kernel
set_option maxRecDepth 100000 in
theorem ck_126 : chkM 126 = true := by decide +kernel
set_option maxRecDepth 100000 in
theorem ck_127 : chkM 127 = true := by decide +kernel
set_option maxRecDepth 100000 in
theorem ck_128 : chkM 128 = true := by decide +kernel
set_option maxRecDepth 100000 in
theorem ck_129 : chkM 129 = true := by decide +kernel
set_option maxRecDepth 100000 in
theorem ck_130 : chkM 130 = true := by decide +kernel
set_option maxRecDepth 100000 in
theorem ck_131 : chkM 131 = true := by decide +kernel
set_option maxRecDepth 100000 in
theorem ck_132 : chkM 132 = true := by decide +kernel
set_option maxRecDepth 100000 in
theorem ck_133 : chkM 133 = true := by decide +kernel
set_option maxRecDepth 100000 in
theorem ck_134 : chkM 134 = true := by decide +kernel
set_option maxRecDepth 100000 in
theorem ck_135 : chkM 135 = true := by decide +kernel
set_option maxRecDepth 100000 in
theorem ck_136 : chkM 136 = true := by decide +kernel
set_option maxRecDepth 100000 in
theorem ck_137 : chkM 137 = true := by decide +kernel
set_option maxRecDepth 100000 in
theorem ck_138 : chkM 138 = true := by decide +kernel
set_option maxRecDepth 100000 in
theorem ck_139 : chkM 139 = true := by decide +kernel
set_option maxRecDepth 100000 in
theorem ck_140 : chkM 140 = true := by decide +kernel
set_option maxRecDepth 100000 in
theorem ck_141 : chkM 141 = true := by decide +kernel
