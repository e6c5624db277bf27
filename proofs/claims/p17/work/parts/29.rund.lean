/-! RUNS OF THE INTERPRETER -/
set_option maxRecDepth 100000 in
theorem ac_6_22 : aRun aHN aGX_0 none sm_6_22 6 22 20000 = true := by decide +kernel
set_option maxRecDepth 100000 in
theorem ac_6_32 : aRun aHN aGX_1 none sm_6_32 6 32 20000 = true := by decide +kernel
set_option maxRecDepth 100000 in
theorem ac_40_10 : aRun aHN aGX_4 none sm_40_10 40 10 20000 = true := by decide +kernel
set_option maxRecDepth 100000 in
theorem ac_40_16 : aRun aHN aGX_5 none sm_40_16 40 16 20000 = true := by decide +kernel
set_option maxRecDepth 100000 in
theorem ac_121_0 : aRun aHN aGM_0 none sm_121_0 121 0 20000 = true := by decide +kernel
set_option maxRecDepth 100000 in
theorem ac_105_0 : aRun aHN aGM_2 none sm_105_0 105 0 20000 = true := by decide +kernel
set_option maxRecDepth 100000 in
theorem ac_134_0 : aRun aHN aGM_3 none sm_134_0 134 0 20000 = true := by decide +kernel
set_option maxRecDepth 100000 in
theorem ac_53_0 : aRun aHN aGX_6 none sm_53_0 53 0 20000 = true := by decide +kernel
set_option maxRecDepth 100000 in
theorem ac_54_0 : aRun aHN aGX_6 none sm_54_0 54 0 20000 = true := by decide +kernel
set_option maxRecDepth 100000 in
theorem ac_55_0 : aRun aHN aGX_6 none sm_55_0 55 0 20000 = true := by decide +kernel
set_option maxRecDepth 100000 in
theorem ac_56_0 : aRun aHN aGX_6 none sm_56_0 56 0 20000 = true := by decide +kernel
set_option maxRecDepth 100000 in
theorem ac_57_0 : aRun aHN aGX_6 none sm_57_0 57 0 20000 = true := by decide +kernel
set_option maxRecDepth 100000 in
theorem ac_58_0 : aRun aHN aGX_6 none sm_58_0 58 0 20000 = true := by decide +kernel
set_option maxRecDepth 100000 in
theorem ac_59_0 : aRun aHN aGX_6 none sm_59_0 59 0 20000 = true := by decide +kernel
set_option maxRecDepth 100000 in
theorem ac_60_0 : aRun aHN aGX_6 none sm_60_0 60 0 20000 = true := by decide +kernel
set_option maxRecDepth 100000 in
theorem ac_61_0 : aRun aHN aGX_6 none sm_61_0 61 0 20000 = true := by decide +kernel
set_option maxRecDepth 100000 in
theorem ac_62_0 : aRun aHN aGX_6 none sm_62_0 62 0 20000 = true := by decide +kernel
set_option maxRecDepth 100000 in
theorem ac_63_0 : aRun aHN aGX_6 none sm_63_0 63 0 20000 = true := by decide +kernel
set_option maxRecDepth 100000 in
theorem ac_64_0 : aRun aHN aGX_6 none sm_64_0 64 0 20000 = true := by decide +kernel
set_option maxRecDepth 100000 in
theorem ac_65_0 : aRun aHN aGX_6 none sm_65_0 65 0 20000 = true := by decide +kernel
set_option maxRecDepth 100000 in
theorem ac_66_0 : aRun aHN aGX_6 none sm_66_0 66 0 20000 = true := by decide +kernel
set_option maxRecDepth 100000 in
theorem ac_67_0 : aRun aHN aGX_6 none sm_67_0 67 0 20000 = true := by decide +kernel
set_option maxRecDepth 100000 in
theorem ac_68_0 : aRun aHN aGX_6 none sm_68_0 68 0 20000 = true := by decide +kernel
set_option maxRecDepth 100000 in
theorem ac_69_0 : aRun aHN aGX_6 none sm_69_0 69 0 20000 = true := by decide +kernel
set_option maxRecDepth 100000 in
theorem ac_70_0 : aRun aHN aGX_6 none sm_70_0 70 0 20000 = true := by decide +kernel
set_option maxRecDepth 100000 in
theorem ac_71_0 : aRun aHN aGX_6 none sm_71_0 71 0 20000 = true := by decide +kernel
set_option maxRecDepth 100000 in
theorem ac_72_0 : aRun aHN aGX_6 none sm_72_0 72 0 20000 = true := by decide +kernel
set_option maxRecDepth 100000 in
theorem ac_94_0 : aRun aHN aGM_4 none sm_94_0 94 0 20000 = true := by decide +kernel
set_option maxRecDepth 100000 in
theorem ac_95_0 : aRun aHN aGM_4 none sm_95_0 95 0 20000 = true := by decide +kernel
set_option maxRecDepth 100000 in
theorem ac_96_0 : aRun aHN aGM_4 none sm_96_0 96 0 20000 = true := by decide +kernel
set_option maxRecDepth 100000 in
theorem ac_97_0 : aRun aHN aGM_4 none sm_97_0 97 0 20000 = true := by decide +kernel
set_option maxRecDepth 100000 in
theorem ac_98_0 : aRun aHN aGM_4 none sm_98_0 98 0 20000 = true := by decide +kernel
set_option maxRecDepth 100000 in
theorem ac_106_0 : aRun aHN aGM_4 none sm_106_0 106 0 20000 = true := by decide +kernel
set_option maxRecDepth 100000 in
theorem ac_107_0 : aRun aHN aGM_4 none sm_107_0 107 0 20000 = true := by decide +kernel
set_option maxRecDepth 100000 in
theorem ac_108_0 : aRun aHN aGM_4 none sm_108_0 108 0 20000 = true := by decide +kernel
set_option maxRecDepth 100000 in
theorem ac_109_0 : aRun aHN aGM_4 none sm_109_0 109 0 20000 = true := by decide +kernel
set_option maxRecDepth 100000 in
theorem ac_124_0 : aRun aHN aGM_4 none sm_124_0 124 0 20000 = true := by decide +kernel
set_option maxRecDepth 100000 in
theorem ac_125_0 : aRun aHN aGM_4 none sm_125_0 125 0 20000 = true := by decide +kernel
set_option maxRecDepth 100000 in
theorem ac_126_0 : aRun aHN aGM_4 none sm_126_0 126 0 20000 = true := by decide +kernel
set_option maxRecDepth 100000 in
theorem ac_110_0 : aRun aHN aGM_4 none sm_110_0 110 0 20000 = true := by decide +kernel
set_option maxRecDepth 100000 in
theorem ac_128_0 : aRun aHN aGM_4 none sm_128_0 128 0 20000 = true := by decide +kernel
set_option maxRecDepth 100000 in
theorem ac_129_0 : aRun aHN aGM_4 none sm_129_0 129 0 20000 = true := by decide +kernel
set_option maxRecDepth 100000 in
theorem ac_130_0 : aRun aHN aGM_4 none sm_130_0 130 0 20000 = true := by decide +kernel
set_option maxRecDepth 100000 in
theorem ac_136_0 : aRun aHN aGM_4 none sm_136_0 136 0 20000 = true := by decide +kernel
set_option maxRecDepth 100000 in
theorem ac_137_0 : aRun aHN aGM_4 none sm_137_0 137 0 20000 = true := by decide +kernel
set_option maxRecDepth 100000 in
theorem ac_140_0 : aRun aHN aGM_4 none sm_140_0 140 0 20000 = true := by decide +kernel
