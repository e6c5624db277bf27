/-! RUNS OF THE INTERPRETER -/
set_option maxRecDepth 100000 in
theorem ac_3_22_c0 : aRun aHN aGX_2 (some 0) sm_3_22 3 22 20000 = true := by decide +kernel
set_option maxRecDepth 100000 in
theorem ac_3_22_c1 : aRun aHN aGX_2 (some 1) sm_3_22 3 22 20000 = true := by decide +kernel
set_option maxRecDepth 100000 in
theorem ac_3_22_c2 : aRun aHN aGX_2 (some 2) sm_3_22 3 22 20000 = true := by decide +kernel
set_option maxRecDepth 100000 in
theorem ac_3_22_c3 : aRun aHN aGX_2 (some 3) sm_3_22 3 22 20000 = true := by decide +kernel
set_option maxRecDepth 100000 in
theorem ac_3_22_c4 : aRun aHN aGX_2 (some 4) sm_3_22 3 22 20000 = true := by decide +kernel
set_option maxRecDepth 100000 in
theorem ac_3_22_c5 : aRun aHN aGX_2 (some 5) sm_3_22 3 22 20000 = true := by decide +kernel
set_option maxRecDepth 100000 in
theorem ac_3_22_c6 : aRun aHN aGX_2 (some 6) sm_3_22 3 22 20000 = true := by decide +kernel
set_option maxRecDepth 100000 in
theorem ac_3_22_c7 : aRun aHN aGX_2 (some 7) sm_3_22 3 22 20000 = true := by decide +kernel
set_option maxRecDepth 100000 in
theorem ac_3_22_c8 : aRun aHN aGX_2 (some 8) sm_3_22 3 22 20000 = true := by decide +kernel
set_option maxRecDepth 100000 in
theorem ac_3_22_c9 : aRun aHN aGX_2 (some 9) sm_3_22 3 22 20000 = true := by decide +kernel
set_option maxRecDepth 100000 in
theorem ac_3_22_c10 : aRun aHN aGX_2 (some 10) sm_3_22 3 22 20000 = true := by decide +kernel
set_option maxRecDepth 100000 in
theorem ac_3_22_c11 : aRun aHN aGX_2 (some 11) sm_3_22 3 22 20000 = true := by decide +kernel
