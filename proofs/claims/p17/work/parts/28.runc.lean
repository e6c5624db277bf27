/-! RUNS OF THE INTERPRETER -/
set_option maxRecDepth 100000 in
theorem ac_118_0_c0 : aRun aHN aGM_1 (some 0) sm_118_0 118 0 20000 = true := by decide +kernel
set_option maxRecDepth 100000 in
theorem ac_118_0_c1 : aRun aHN aGM_1 (some 1) sm_118_0 118 0 20000 = true := by decide +kernel
set_option maxRecDepth 100000 in
theorem ac_118_0_c2 : aRun aHN aGM_1 (some 2) sm_118_0 118 0 20000 = true := by decide +kernel
set_option maxRecDepth 100000 in
theorem ac_118_0_c3 : aRun aHN aGM_1 (some 3) sm_118_0 118 0 20000 = true := by decide +kernel
set_option maxRecDepth 100000 in
theorem ac_118_0_c4 : aRun aHN aGM_1 (some 4) sm_118_0 118 0 20000 = true := by decide +kernel
set_option maxRecDepth 100000 in
theorem ac_118_0_c5 : aRun aHN aGM_1 (some 5) sm_118_0 118 0 20000 = true := by decide +kernel
set_option maxRecDepth 100000 in
theorem ac_118_0_c6 : aRun aHN aGM_1 (some 6) sm_118_0 118 0 20000 = true := by decide +kernel
set_option maxRecDepth 100000 in
theorem ac_118_0_c7 : aRun aHN aGM_1 (some 7) sm_118_0 118 0 20000 = true := by decide +kernel
set_option maxRecDepth 100000 in
theorem ac_118_0_c8 : aRun aHN aGM_1 (some 8) sm_118_0 118 0 20000 = true := by decide +kernel
set_option maxRecDepth 100000 in
theorem ac_118_0_c9 : aRun aHN aGM_1 (some 9) sm_118_0 118 0 20000 = true := by decide +kernel
set_option maxRecDepth 100000 in
theorem ac_118_0_c10 : aRun aHN aGM_1 (some 10) sm_118_0 118 0 20000 = true := by decide +kernel
set_option maxRecDepth 100000 in
theorem ac_118_0_c11 : aRun aHN aGM_1 (some 11) sm_118_0 118 0 20000 = true := by decide +kernel
