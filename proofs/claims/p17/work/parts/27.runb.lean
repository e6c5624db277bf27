/-! RUNS OF THE INTERPRETER -/
set_option maxRecDepth 100000 in
theorem ac_3_32_c0 : aRun aHN aGX_3 (some 0) sm_3_32 3 32 20000 = true := by decide +kernel
set_option maxRecDepth 100000 in
theorem ac_3_32_c1 : aRun aHN aGX_3 (some 1) sm_3_32 3 32 20000 = true := by decide +kernel
set_option maxRecDepth 100000 in
theorem ac_3_32_c2 : aRun aHN aGX_3 (some 2) sm_3_32 3 32 20000 = true := by decide +kernel
set_option maxRecDepth 100000 in
theorem ac_3_32_c3 : aRun aHN aGX_3 (some 3) sm_3_32 3 32 20000 = true := by decide +kernel
set_option maxRecDepth 100000 in
theorem ac_3_32_c4 : aRun aHN aGX_3 (some 4) sm_3_32 3 32 20000 = true := by decide +kernel
set_option maxRecDepth 100000 in
theorem ac_3_32_c5 : aRun aHN aGX_3 (some 5) sm_3_32 3 32 20000 = true := by decide +kernel
set_option maxRecDepth 100000 in
theorem ac_3_32_c6 : aRun aHN aGX_3 (some 6) sm_3_32 3 32 20000 = true := by decide +kernel
set_option maxRecDepth 100000 in
theorem ac_3_32_c7 : aRun aHN aGX_3 (some 7) sm_3_32 3 32 20000 = true := by decide +kernel
set_option maxRecDepth 100000 in
theorem ac_3_32_c8 : aRun aHN aGX_3 (some 8) sm_3_32 3 32 20000 = true := by decide +kernel
set_option maxRecDepth 100000 in
theorem ac_3_32_c9 : aRun aHN aGX_3 (some 9) sm_3_32 3 32 20000 = true := by decide +kernel
set_option maxRecDepth 100000 in
theorem ac_3_32_c10 : aRun aHN aGX_3 (some 10) sm_3_32 3 32 20000 = true := by decide +kernel
set_option maxRecDepth 100000 in
theorem ac_3_32_c11 : aRun aHN aGX_3 (some 11) sm_3_32 3 32 20000 = true := by decide +kernel
