set_option maxRecDepth 100000 in
theorem ck_0 : chkM 0 = true := by decide +kernel
set_option maxRecDepth 100000 in
theorem ck_1 : chkM 1 = true := by decide +kernel
set_option maxRecDepth 100000 in
theorem ck_2 : chkM 2 = true := by decide +kernel
set_option maxRecDepth 100000 in
theorem ck_3 : chkM 3 = true := by decide +kernel
set_option maxRecDepth 100000 in
theorem ck_4 : chkM 4 = true := by decide +kernel
set_option maxRecDepth 100000 in
theorem ck_5 : chkM 5 = true := by decide +kernel
set_option maxRecDepth 100000 in
theorem ck_6 : chkM 6 = true := by decide +kernel
set_option maxRecDepth 100000 in
theorem ck_7 : chkM 7 = true := by decide +kernel
set_option maxRecDepth 100000 in
theorem ck_8 : chkM 8 = true := by decide +kernel
set_option maxRecDepth 100000 in
theorem ck_9 : chkM 9 = true := by decide +kernel
set_option maxRecDepth 100000 in
theorem ck_10 : chkM 10 = true := by decide +kernel
set_option maxRecDepth 100000 in
theorem ck_11 : chkM 11 = true := by decide +kernel
set_option maxRecDepth 100000 in
theorem ck_12 : chkM 12 = true := by decide +kernel
set_option maxRecDepth 100000 in
theorem ck_13 : chkM 13 = true := by decide +kernel
set_option maxRecDepth 100000 in
theorem ck_14 : chkM 14 = true := by decide +kernel
set_option maxRecDepth 100000 in
theorem ck_15 : chkM 15 = true := by decide +kernel
set_option maxRecDepth 100000 in
theorem ck_16 : chkM 16 = true := by decide +kernel
set_option maxRecDepth 100000 in
theorem ck_17 : chkM 17 = true := by decide +kernel
set_option maxRecDepth 100000 in
theorem ck_18 : chkM 18 = true := by decide +kernel
set_option maxRecDepth 100000 in
theorem ck_19 : chkM 19 = true := by decide +kernel
set_option maxRecDepth 100000 in
theorem ck_20 : chkM 20 = true := by decide +kernel
set_option maxRecDepth 100000 in
theorem ck_21 : chkM 21 = true := by decide +kernel
set_option maxRecDepth 100000 in
theorem ck_22 : chkM 22 = true := by decide +kernel
set_option maxRecDepth 100000 in
theorem ck_23 : chkM 23 = true := by decide +kernel
set_option maxRecDepth 100000 in
theorem ck_24 : chkM 24 = true := by decide +kernel
set_option maxRecDepth 100000 in
theorem ck_25 : chkM 25 = true := by decide +kernel
set_option maxRecDepth 100000 in
theorem ck_26 : chkM 26 = true := by decide +kernel
set_option maxRecDepth 100000 in
theorem ck_27 : chkM 27 = true := by decide +kernel
set_option maxRecDepth 100000 in
theorem ck_28 : chkM 28 = true := by decide +kernel
set_option maxRecDepth 100000 in
theorem ck_29 : chkM 29 = true := by decide +kernel
set_option maxRecDepth 100000 in
theorem ck_30 : chkM 30 = true := by decide +kernel
set_option maxRecDepth 100000 in
theorem ck_31 : chkM 31 = true := by decide +kernel
set_option maxRecDepth 100000 in
theorem ck_32 : chkM 32 = true := by decide +kernel
set_option maxRecDepth 100000 in
theorem ck_33 : chkM 33 = true := by decide +kernel
set_option maxRecDepth 100000 in
theorem ck_34 : chkM 34 = true := by decide +kernel
set_option maxRecDepth 100000 in
theorem ck_35 : chkM 35 = true := by decide +kernel
set_option maxRecDepth 100000 in
theorem ck_36 : chkM 36 = true := by decide +kernel
set_option maxRecDepth 100000 in
theorem ck_37 : chkM 37 = true := by decide +kernel
set_option maxRecDepth 100000 in
theorem ck_38 : chkM 38 = true := by decide +kernel
set_option maxRecDepth 100000 in
theorem ck_39 : chkM 39 = true := by decide +kernel
set_option maxRecDepth 100000 in
theorem ck_40 : chkM 40 = true := by decide +kernel
set_option maxRecDepth 100000 in
theorem ck_41 : chkM 41 = true := by decide +kernel
set_option maxRecDepth 100000 in
theorem ck_42 : chkM 42 = true := by decide +kernel
set_option maxRecDepth 100000 in
theorem ck_43 : chkM 43 = true := by decide +kernel
set_option maxRecDepth 100000 in
theorem ck_44 : chkM 44 = true := by decide +kernel
set_option maxRecDepth 100000 in
theorem ck_45 : chkM 45 = true := by decide +kernel
set_option maxRecDepth 100000 in
theorem ck_46 : chkM 46 = true := by decide +kernel
set_option maxRecDepth 100000 in
theorem ck_47 : chkM 47 = true := by decide +kernel
set_option maxRecDepth 100000 in
theorem ck_48 : chkM 48 = true := by decide +kernel
set_option maxRecDepth 100000 in
theorem ck_49 : chkM 49 = true := by decide +kernel
set_option maxRecDepth 100000 in
theorem ck_50 : chkM 50 = true := by decide +kernel
set_option maxRecDepth 100000 in
theorem ck_51 : chkM 51 = true := by decide +kernel
set_option maxRecDepth 100000 in
theorem ck_52 : chkM 52 = true := by decide +kernel
set_option maxRecDepth 100000 in
theorem ck_53 : chkM 53 = true := by decide +kernel
set_option maxRecDepth 100000 in
theorem ck_54 : chkM 54 = true := by decide +kernel
set_option maxRecDepth 100000 in
theorem ck_55 : chkM 55 = true := by decide +kernel
set_option maxRecDepth 100000 in
theorem ck_56 : chkM 56 = true := by decide +kernel
set_option maxRecDepth 100000 in
theorem ck_57 : chkM 57 = true := by decide +kernel
set_option maxRecDepth 100000 in
theorem ck_58 : chkM 58 = true := by decide +kernel
set_option maxRecDepth 100000 in
theorem ck_59 : chkM 59 = true := by decide +kernel
set_option maxRecDepth 100000 in
theorem ck_60 : chkM 60 = true := by decide +kernel
set_option maxRecDepth 100000 in
theorem ck_61 : chkM 61 = true := by decide +kernel
set_option maxRecDepth 100000 in
theorem ck_62 : chkM 62 = true := by decide +kernel
set_option maxRecDepth 100000 in
theorem ck_63 : chkM 63 = true := by decide +kernel
set_option maxRecDepth 100000 in
theorem ck_64 : chkM 64 = true := by decide +kernel
set_option maxRecDepth 100000 in
theorem ck_65 : chkM 65 = true := by decide +kernel
set_option maxRecDepth 100000 in
theorem ck_66 : chkM 66 = true := by decide +kernel
set_option maxRecDepth 100000 in
theorem ck_67 : chkM 67 = true := by decide +kernel
set_option maxRecDepth 100000 in
theorem ck_68 : chkM 68 = true := by decide +kernel
set_option maxRecDepth 100000 in
theorem ck_69 : chkM 69 = true := by decide +kernel
set_option maxRecDepth 100000 in
theorem ck_70 : chkM 70 = true := by decide +kernel
set_option maxRecDepth 100000 in
theorem ck_71 : chkM 71 = true := by decide +kernel
set_option maxRecDepth 100000 in
theorem ck_72 : chkM 72 = true := by decide +kernel
set_option maxRecDepth 100000 in
theorem ck_73 : chkM 73 = true := by decide +kernel
set_option maxRecDepth 100000 in
theorem ck_74 : chkM 74 = true := by decide +kernel
set_option maxRecDepth 100000 in
theorem ck_75 : chkM 75 = true := by decide +kernel
set_option maxRecDepth 100000 in
theorem ck_76 : chkM 76 = true := by decide +kernel
set_option maxRecDepth 100000 in
theorem ck_77 : chkM 77 = true := by decide +kernel
set_option maxRecDepth 100000 in
theorem ck_78 : chkM 78 = true := by decide +kernel
set_option maxRecDepth 100000 in
theorem ck_79 : chkM 79 = true := by decide +kernel
set_option maxRecDepth 100000 in
theorem ck_80 : chkM 80 = true := by decide +kernel
set_option maxRecDepth 100000 in
theorem ck_81 : chkM 81 = true := by decide +kernel
set_option maxRecDepth 100000 in
theorem ck_82 : chkM 82 = true := by decide +kernel
set_option maxRecDepth 100000 in
theorem ck_83 : chkM 83 = true := by decide +kernel
set_option maxRecDepth 100000 in
theorem ck_84 : chkM 84 = true := by decide +kernel
set_option maxRecDepth 100000 in
theorem ck_85 : chkM 85 = true := by decide +kernel
set_option maxRecDepth 100000 in
theorem ck_86 : chkM 86 = true := by decide +kernel
set_option maxRecDepth 100000 in
theorem ck_87 : chkM 87 = true := by decide +kernel
set_option maxRecDepth 100000 in
theorem ck_88 : chkM 88 = true := by decide +kernel
set_option maxRecDepth 100000 in
theorem ck_89 : chkM 89 = true := by decide +kernel
set_option maxRecDepth 100000 in
theorem ck_90 : chkM 90 = true := by decide +kernel
set_option maxRecDepth 100000 in
theorem ck_91 : chkM 91 = true := by decide +kernel
set_option maxRecDepth 100000 in
theorem ck_92 : chkM 92 = true := by decide +kernel
set_option maxRecDepth 100000 in
theorem ck_93 : chkM 93 = true := by decide +kernel
set_option maxRecDepth 100000 in
theorem ck_94 : chkM 94 = true := by decide +kernel
set_option maxRecDepth 100000 in
theorem ck_95 : chkM 95 = true := by decide +kernel
set_option maxRecDepth 100000 in
theorem ck_96 : chkM 96 = true := by decide +kernel
set_option maxRecDepth 100000 in
theorem ck_97 : chkM 97 = true := by decide +kernel
set_option maxRecDepth 100000 in
theorem ck_98 : chkM 98 = true := by decide +kernel
set_option maxRecDepth 100000 in
theorem ck_99 : chkM 99 = true := by decide +kernel
set_option maxRecDepth 100000 in
theorem ck_100 : chkM 100 = true := by decide +kernel
set_option maxRecDepth 100000 in
theorem ck_101 : chkM 101 = true := by decide +kernel
set_option maxRecDepth 100000 in
theorem ck_102 : chkM 102 = true := by decide +kernel
set_option maxRecDepth 100000 in
theorem ck_103 : chkM 103 = true := by decide +kernel
set_option maxRecDepth 100000 in
theorem ck_104 : chkM 104 = true := by decide +kernel
set_option maxRecDepth 100000 in
theorem ck_105 : chkM 105 = true := by decide +kernel
set_option maxRecDepth 100000 in
theorem ck_106 : chkM 106 = true := by decide +kernel
set_option maxRecDepth 100000 in
theorem ck_107 : chkM 107 = true := by decide +kernel
set_option maxRecDepth 100000 in
theorem ck_108 : chkM 108 = true := by decide +kernel
set_option maxRecDepth 100000 in
theorem ck_109 : chkM 109 = true := by decide +kernel
set_option maxRecDepth 100000 in
theorem ck_110 : chkM 110 = true := by decide +kernel
set_option maxRecDepth 100000 in
theorem ck_111 : chkM 111 = true := by decide +kernel
set_option maxRecDepth 100000 in
theorem ck_112 : chkM 112 = true := by decide +kernel
set_option maxRecDepth 100000 in
theorem ck_113 : chkM 113 = true := by decide +kernel
set_option maxRecDepth 100000 in
theorem ck_114 : chkM 114 = true := by decide +kernel
set_option maxRecDepth 100000 in
theorem ck_115 : chkM 115 = true := by decide +kernel
set_option maxRecDepth 100000 in
theorem ck_116 : chkM 116 = true := by decide +kernel
set_option maxRecDepth 100000 in
theorem ck_117 : chkM 117 = true := by decide +kernel
set_option maxRecDepth 100000 in
theorem ck_118 : chkM 118 = true := by decide +kernel
set_option maxRecDepth 100000 in
theorem ck_119 : chkM 119 = true := by decide +kernel
set_option maxRecDepth 100000 in
theorem ck_120 : chkM 120 = true := by decide +kernel
set_option maxRecDepth 100000 in
theorem ck_121 : chkM 121 = true := by decide +kernel
set_option maxRecDepth 100000 in
theorem ck_122 : chkM 122 = true := by decide +kernel
set_option maxRecDepth 100000 in
theorem ck_123 : chkM 123 = true := by decide +kernel
set_option maxRecDepth 100000 in
theorem ck_124 : chkM 124 = true := by decide +kernel
set_option maxRecDepth 100000 in
theorem ck_125 : chkM 125 = true := by decide +kernel
set_option maxRecDepth 100000 in
theorem ck_126 : chkM 126 = true := by decide +kernel
set_option maxRecDepth 100000 in
theorem ck_127 : chkM 127 = true := by decide +kernel
set_option maxRecDepth 100000 in
theorem ck_128 : chkM 128 = true := by decide +kernel
set_option maxRecDepth 100000 in
theorem ck_129 : chkM 129 = true := by decide +kernel
set_option maxRecDepth 100000 in
theorem ck_130 : chkM 130 = true := by decide +kernel
set_option maxRecDepth 100000 in
theorem ck_131 : chkM 131 = true := by decide +kernel
set_option maxRecDepth 100000 in
theorem ck_132 : chkM 132 = true := by decide +kernel
set_option maxRecDepth 100000 in
theorem ck_133 : chkM 133 = true := by decide +kernel
set_option maxRecDepth 100000 in
theorem ck_134 : chkM 134 = true := by decide +kernel
set_option maxRecDepth 100000 in
theorem ck_135 : chkM 135 = true := by decide +kernel
set_option maxRecDepth 100000 in
theorem ck_136 : chkM 136 = true := by decide +kernel
set_option maxRecDepth 100000 in
theorem ck_137 : chkM 137 = true := by decide +kernel
set_option maxRecDepth 100000 in
theorem ck_138 : chkM 138 = true := by decide +kernel
set_option maxRecDepth 100000 in
theorem ck_139 : chkM 139 = true := by decide +kernel
set_option maxRecDepth 100000 in
theorem ck_140 : chkM 140 = true := by decide +kernel
set_option maxRecDepth 100000 in
theorem ck_141 : chkM 141 = true := by decide +kernel
set_option maxRecDepth 100000 in
theorem ck_law : chkB R_law code 4 ret false bk_law = true := by decide +kernel
