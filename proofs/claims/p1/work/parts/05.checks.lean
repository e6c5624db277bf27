/-! THE CHECKS of the tables -/
theorem xd_0_0 : xe_dck cX4_code (16 * 0) xt_0_0 = true := by decide +kernel
theorem xd_0_1 : xe_dck cX4_code (16 * 1) xt_0_1 = true := by decide +kernel
theorem xd_0_2 : xe_dck cX4_code (16 * 2) xt_0_2 = true := by decide +kernel
theorem xd_0_3 : xe_dck cX4_code (16 * 3) xt_0_3 = true := by decide +kernel
theorem xd_0_4 : xe_dck cX4_code (16 * 4) xt_0_4 = true := by decide +kernel
theorem xd_0_5 : xe_dck cX4_code (16 * 5) xt_0_5 = true := by decide +kernel
theorem xk_0 : xOK xMT xCLs xWS xNS 0 := xOK_of [292, 86] [] [[342, 343], [345, 346], [354, 355, 356], [361, 363, 0]] 341 63 ⟨xd_0_0, xd_0_1, xd_0_2, xd_0_3, xd_0_4, xd_0_5, trivial⟩ (by decide +kernel) rfl (by decide +kernel) (by decide +kernel) (by decide +kernel) (by decide +kernel) (by decide +kernel)
theorem xd_1_0 : xe_dck cX4_change (16 * 0) xt_1_0 = true := by decide +kernel
theorem xd_1_1 : xe_dck cX4_change (16 * 1) xt_1_1 = true := by decide +kernel
theorem xd_1_2 : xe_dck cX4_change (16 * 2) xt_1_2 = true := by decide +kernel
theorem xd_1_3 : xe_dck cX4_change (16 * 3) xt_1_3 = true := by decide +kernel
theorem xk_1 : xOK xMT xCLs xWS xNS 1 := xOK_of [292] [] [[369, 370, 371], [345, 346], [354, 355, 356], [361, 363, 0]] 368 63 ⟨xd_1_0, xd_1_1, xd_1_2, xd_1_3, trivial⟩ (by decide +kernel) rfl (by decide +kernel) (by decide +kernel) (by decide +kernel) (by decide +kernel) (by decide +kernel)
theorem xd_2_0 : xe_dck cX4_clear (16 * 0) xt_2_0 = true := by decide +kernel
theorem xd_2_1 : xe_dck cX4_clear (16 * 1) xt_2_1 = true := by decide +kernel
theorem xd_2_2 : xe_dck cX4_clear (16 * 2) xt_2_2 = true := by decide +kernel
theorem xk_2 : xOK xMT xCLs xWS xNS 2 := xOK_of [292, 86] [] [[342, 343], [361, 363, 0]] 377 63 ⟨xd_2_0, xd_2_1, xd_2_2, trivial⟩ (by decide +kernel) rfl (by decide +kernel) (by decide +kernel) (by decide +kernel) (by decide +kernel) (by decide +kernel)
theorem xd_3_0 : xe_dck cX4_input (16 * 0) xt_3_0 = true := by decide +kernel
theorem xd_3_1 : xe_dck cX4_input (16 * 1) xt_3_1 = true := by decide +kernel
theorem xd_3_2 : xe_dck cX4_input (16 * 2) xt_3_2 = true := by decide +kernel
theorem xk_3 : xOK xMT xCLs xWS xNS 3 := xOK_of [295, 294] [] [] 381 63 ⟨xd_3_0, xd_3_1, xd_3_2, trivial⟩ (by decide +kernel) rfl (by decide +kernel) (by decide +kernel) (by decide +kernel) (by decide +kernel) (by decide +kernel)
theorem xd_4_0 : xe_dck cX4_empty (16 * 0) xt_4_0 = true := by decide +kernel
theorem xk_4 : xOK xMT xCLs xWS xNS 4 := xOK_of [295] [] [] 385 63 ⟨xd_4_0, trivial⟩ (by decide +kernel) rfl (by decide +kernel) (by decide +kernel) (by decide +kernel) (by decide +kernel) (by decide +kernel)
theorem xd_5_0 : xe_dck cX4_run (16 * 0) xt_5_0 = true := by decide +kernel
theorem xd_5_1 : xe_dck cX4_run (16 * 1) xt_5_1 = true := by decide +kernel
theorem xk_5 : xOK xMT xCLs xWS xNS 5 := xOK_of [297, 296, 295] [] [[390, 391, 392]] 389 63 ⟨xd_5_0, xd_5_1, trivial⟩ (by decide +kernel) rfl (by decide +kernel) (by decide +kernel) (by decide +kernel) (by decide +kernel) (by decide +kernel)
theorem xd_6_0 : xe_dck cX4_ran (16 * 0) xt_6_0 = true := by decide +kernel
theorem xd_6_1 : xe_dck cX4_ran (16 * 1) xt_6_1 = true := by decide +kernel
theorem xd_6_2 : xe_dck cX4_ran (16 * 2) xt_6_2 = true := by decide +kernel
theorem xd_6_3 : xe_dck cX4_ran (16 * 3) xt_6_3 = true := by decide +kernel
theorem xd_6_4 : xe_dck cX4_ran (16 * 4) xt_6_4 = true := by decide +kernel
theorem xd_6_5 : xe_dck cX4_ran (16 * 5) xt_6_5 = true := by decide +kernel
theorem xd_6_6 : xe_dck cX4_ran (16 * 6) xt_6_6 = true := by decide +kernel
theorem xd_6_7 : xe_dck cX4_ran (16 * 7) xt_6_7 = true := by decide +kernel
theorem xd_6_8 : xe_dck cX4_ran (16 * 8) xt_6_8 = true := by decide +kernel
theorem xk_6 : xOK xMT xCLs xWS xNS 6 := xOK_of [297, 296, 137, 139, 141, 143, 135] [] [] 463 63 ⟨xd_6_0, xd_6_1, xd_6_2, xd_6_3, xd_6_4, xd_6_5, xd_6_6, xd_6_7, xd_6_8, trivial⟩ (by decide +kernel) rfl (by decide +kernel) (by decide +kernel) (by decide +kernel) (by decide +kernel) (by decide +kernel)
theorem xd_7_0 : xe_dck cX4_printed (16 * 0) xt_7_0 = true := by decide +kernel
theorem xd_7_1 : xe_dck cX4_printed (16 * 1) xt_7_1 = true := by decide +kernel
theorem xd_7_2 : xe_dck cX4_printed (16 * 2) xt_7_2 = true := by decide +kernel
theorem xk_7 : xOK xMT xCLs xWS xNS 7 := xOK_of [297, 296, 143, 145] [] [] 479 63 ⟨xd_7_0, xd_7_1, xd_7_2, trivial⟩ (by decide +kernel) rfl (by decide +kernel) (by decide +kernel) (by decide +kernel) (by decide +kernel) (by decide +kernel)
theorem xd_8_0 : xe_dck cX4_cell (16 * 0) xt_8_0 = true := by decide +kernel
theorem xd_8_1 : xe_dck cX4_cell (16 * 1) xt_8_1 = true := by decide +kernel
theorem xd_8_2 : xe_dck cX4_cell (16 * 2) xt_8_2 = true := by decide +kernel
theorem xd_8_3 : xe_dck cX4_cell (16 * 3) xt_8_3 = true := by decide +kernel
theorem xd_8_4 : xe_dck cX4_cell (16 * 4) xt_8_4 = true := by decide +kernel
theorem xk_8 : xOK xMT xCLs xWS xNS 8 := xOK_of [297, 296, 133, 135] [] [[348, 349], [484, 413]] 483 63 ⟨xd_8_0, xd_8_1, xd_8_2, xd_8_3, xd_8_4, trivial⟩ (by decide +kernel) rfl (by decide +kernel) (by decide +kernel) (by decide +kernel) (by decide +kernel) (by decide +kernel)
theorem xd_9_0 : xe_dck cX4_flow (16 * 0) xt_9_0 = true := by decide +kernel
theorem xk_9 : xOK xMT xCLs xWS xNS 9 := xOK_of [301] [] [[489, 491, 13], [555, 556, 557]] 488 63 ⟨xd_9_0, trivial⟩ (by decide +kernel) rfl (by decide +kernel) (by decide +kernel) (by decide +kernel) (by decide +kernel) (by decide +kernel)
theorem xd_10_0 : xe_dck cX4_bad (16 * 0) xt_10_0 = true := by decide +kernel
theorem xd_10_1 : xe_dck cX4_bad (16 * 1) xt_10_1 = true := by decide +kernel
theorem xd_10_2 : xe_dck cX4_bad (16 * 2) xt_10_2 = true := by decide +kernel
theorem xd_10_3 : xe_dck cX4_bad (16 * 3) xt_10_3 = true := by decide +kernel
theorem xd_10_4 : xe_dck cX4_bad (16 * 4) xt_10_4 = true := by decide +kernel
theorem xd_10_5 : xe_dck cX4_bad (16 * 5) xt_10_5 = true := by decide +kernel
theorem xk_10 : xOK xMT xCLs xWS xNS 10 := xOK_of [301, 292] [] [[489, 491, 13], [568, 569, 570]] 567 63 ⟨xd_10_0, xd_10_1, xd_10_2, xd_10_3, xd_10_4, xd_10_5, trivial⟩ (by decide +kernel) rfl (by decide +kernel) (by decide +kernel) (by decide +kernel) (by decide +kernel) (by decide +kernel)
theorem xd_11_0 : xe_dck cX4_state (16 * 0) xt_11_0 = true := by decide +kernel
theorem xd_11_1 : xe_dck cX4_state (16 * 1) xt_11_1 = true := by decide +kernel
theorem xd_11_2 : xe_dck cX4_state (16 * 2) xt_11_2 = true := by decide +kernel
theorem xk_11 : xOK xMT xCLs xWS xNS 11 := xOK_of [292, 86, 301] [] [[342, 343], [348, 349], [489, 491, 13], [578, 579, 580]] 577 63 ⟨xd_11_0, xd_11_1, xd_11_2, trivial⟩ (by decide +kernel) rfl (by decide +kernel) (by decide +kernel) (by decide +kernel) (by decide +kernel) (by decide +kernel)
theorem xd_12_0 : xe_dck cX4_witness (16 * 0) xt_12_0 = true := by decide +kernel
theorem xd_12_1 : xe_dck cX4_witness (16 * 1) xt_12_1 = true := by decide +kernel
theorem xd_12_2 : xe_dck cX4_witness (16 * 2) xt_12_2 = true := by decide +kernel
theorem xd_12_3 : xe_dck cX4_witness (16 * 3) xt_12_3 = true := by decide +kernel
theorem xk_12 : xOK xMT xCLs xWS xNS 12 := xOK_of [292, 301] [] [[369, 370, 371], [489, 491, 13], [586, 359]] 585 63 ⟨xd_12_0, xd_12_1, xd_12_2, xd_12_3, trivial⟩ (by decide +kernel) rfl (by decide +kernel) (by decide +kernel) (by decide +kernel) (by decide +kernel) (by decide +kernel)
theorem xd_13_0 : xe_dck cX4_needs (16 * 0) xt_13_0 = true := by decide +kernel
theorem xd_13_1 : xe_dck cX4_needs (16 * 1) xt_13_1 = true := by decide +kernel
theorem xd_13_2 : xe_dck cX4_needs (16 * 2) xt_13_2 = true := by decide +kernel
theorem xd_13_3 : xe_dck cX4_needs (16 * 3) xt_13_3 = true := by decide +kernel
theorem xd_13_4 : xe_dck cX4_needs (16 * 4) xt_13_4 = true := by decide +kernel
theorem xd_13_5 : xe_dck cX4_needs (16 * 5) xt_13_5 = true := by decide +kernel
theorem xk_13 : xOK xMT xCLs xWS xNS 13 := xOK_of [303, 304] [] [[342, 343], [599, 600, 601], [494, 495, 496], [603, 604, 605], [607, 608, 609]] 598 63 ⟨xd_13_0, xd_13_1, xd_13_2, xd_13_3, xd_13_4, xd_13_5, trivial⟩ (by decide +kernel) rfl (by decide +kernel) (by decide +kernel) (by decide +kernel) (by decide +kernel) (by decide +kernel)
theorem xd_14_0 : xe_dck cX4_writes (16 * 0) xt_14_0 = true := by decide +kernel
theorem xd_14_1 : xe_dck cX4_writes (16 * 1) xt_14_1 = true := by decide +kernel
theorem xd_14_2 : xe_dck cX4_writes (16 * 2) xt_14_2 = true := by decide +kernel
theorem xk_14 : xOK xMT xCLs xWS xNS 14 := xOK_of [303, 207, 209] [493] [[342, 343], [599, 600, 601], [494, 495, 496]] 614 63 ⟨xd_14_0, xd_14_1, xd_14_2, trivial⟩ (by decide +kernel) rfl (by decide +kernel) (by decide +kernel) (by decide +kernel) (by decide +kernel) (by decide +kernel)
theorem xd_15_0 : xe_dck cX4_cost (16 * 0) xt_15_0 = true := by decide +kernel
theorem xd_15_1 : xe_dck cX4_cost (16 * 1) xt_15_1 = true := by decide +kernel
theorem xd_15_2 : xe_dck cX4_cost (16 * 2) xt_15_2 = true := by decide +kernel
theorem xk_15 : xOK xMT xCLs xWS xNS 15 := xOK_of [293] [] [[342, 343]] 618 63 ⟨xd_15_0, xd_15_1, xd_15_2, trivial⟩ (by decide +kernel) rfl (by decide +kernel) (by decide +kernel) (by decide +kernel) (by decide +kernel) (by decide +kernel)
theorem xd_16_0 : xe_dck cX4_mend (16 * 0) xt_16_0 = true := by decide +kernel
theorem xd_16_1 : xe_dck cX4_mend (16 * 1) xt_16_1 = true := by decide +kernel
theorem xd_16_2 : xe_dck cX4_mend (16 * 2) xt_16_2 = true := by decide +kernel
theorem xk_16 : xOK xMT xCLs xWS xNS 16 := xOK_of [305, 293, 306] [] [[489, 491, 13], [623, 624, 625], [639, 640, 641]] 622 63 ⟨xd_16_0, xd_16_1, xd_16_2, trivial⟩ (by decide +kernel) rfl (by decide +kernel) (by decide +kernel) (by decide +kernel) (by decide +kernel) (by decide +kernel)
theorem xd_17_0 : xe_dck cX4_mended (16 * 0) xt_17_0 = true := by decide +kernel
theorem xd_17_1 : xe_dck cX4_mended (16 * 1) xt_17_1 = true := by decide +kernel
theorem xd_17_2 : xe_dck cX4_mended (16 * 2) xt_17_2 = true := by decide +kernel
theorem xd_17_3 : xe_dck cX4_mended (16 * 3) xt_17_3 = true := by decide +kernel
theorem xd_17_4 : xe_dck cX4_mended (16 * 4) xt_17_4 = true := by decide +kernel
theorem xk_17 : xOK xMT xCLs xWS xNS 17 := xOK_of [305, 264, 260, 262] [] [] 680 63 ⟨xd_17_0, xd_17_1, xd_17_2, xd_17_3, xd_17_4, trivial⟩ (by decide +kernel) rfl (by decide +kernel) (by decide +kernel) (by decide +kernel) (by decide +kernel) (by decide +kernel)
theorem xd_18_0 : xe_dck cX4_apply (16 * 0) xt_18_0 = true := by decide +kernel
theorem xd_18_1 : xe_dck cX4_apply (16 * 1) xt_18_1 = true := by decide +kernel
theorem xk_18 : xOK xMT xCLs xWS xNS 18 := xOK_of [306, 305] [] [[361, 363, 0]] 684 63 ⟨xd_18_0, xd_18_1, trivial⟩ (by decide +kernel) rfl (by decide +kernel) (by decide +kernel) (by decide +kernel) (by decide +kernel) (by decide +kernel)
theorem xd_19_0 : xe_dck cX4_count (16 * 0) xt_19_0 = true := by decide +kernel
theorem xd_19_1 : xe_dck cX4_count (16 * 1) xt_19_1 = true := by decide +kernel
theorem xd_19_2 : xe_dck cX4_count (16 * 2) xt_19_2 = true := by decide +kernel
theorem xd_19_3 : xe_dck cX4_count (16 * 3) xt_19_3 = true := by decide +kernel
theorem xk_19 : xOK xMT xCLs xWS xNS 19 := xOK_of [295, 292, 86, 293] [] [] 709 63 ⟨xd_19_0, xd_19_1, xd_19_2, xd_19_3, trivial⟩ (by decide +kernel) rfl (by decide +kernel) (by decide +kernel) (by decide +kernel) (by decide +kernel) (by decide +kernel)
theorem xd_20_0 : xe_dck cX4_programIsAnother (16 * 0) xt_20_0 = true := by decide +kernel
theorem xk_20 : xOK xMT xCLs xWS xNS 20 := xOK_of [302, 306] [] [] 364 63 ⟨xd_20_0, trivial⟩ (by decide +kernel) rfl (by decide +kernel) (by decide +kernel) (by decide +kernel) (by decide +kernel) (by decide +kernel)
theorem xd_21_0 : xe_dck cX4_freshen (16 * 0) xt_21_0 = true := by decide +kernel
theorem xd_21_1 : xe_dck cX4_freshen (16 * 1) xt_21_1 = true := by decide +kernel
theorem xk_21 : xOK xMT xCLs xWS xNS 21 := xOK_of [302, 301] [493] [[494, 495, 496]] 492 63 ⟨xd_21_0, xd_21_1, trivial⟩ (by decide +kernel) rfl (by decide +kernel) (by decide +kernel) (by decide +kernel) (by decide +kernel) (by decide +kernel)
theorem xd_22_0 : xe_dck cX4_isFunction (16 * 0) xt_22_0 = true := by decide +kernel
theorem xk_22 : xOK xMT xCLs xWS xNS 22 := xOK_of [] [] [] 344 63 ⟨xd_22_0, trivial⟩ (by decide +kernel) rfl (by decide +kernel) (by decide +kernel) (by decide +kernel) (by decide +kernel) (by decide +kernel)
theorem xd_23_0 : xe_dck cX4_isCell (16 * 0) xt_23_0 = true := by decide +kernel
theorem xk_23 : xOK xMT xCLs xWS xNS 23 := xOK_of [] [] [] 350 63 ⟨xd_23_0, trivial⟩ (by decide +kernel) rfl (by decide +kernel) (by decide +kernel) (by decide +kernel) (by decide +kernel) (by decide +kernel)
theorem xd_24_0 : xe_dck cX4_isRow (16 * 0) xt_24_0 = true := by decide +kernel
theorem xd_24_1 : xe_dck cX4_isRow (16 * 1) xt_24_1 = true := by decide +kernel
theorem xk_24 : xOK xMT xCLs xWS xNS 24 := xOK_of [] [] [[348, 349]] 353 63 ⟨xd_24_0, xd_24_1, trivial⟩ (by decide +kernel) rfl (by decide +kernel) (by decide +kernel) (by decide +kernel) (by decide +kernel) (by decide +kernel)
theorem xd_25_0 : xe_dck cX4_isAsTold (16 * 0) xt_25_0 = true := by decide +kernel
theorem xd_25_1 : xe_dck cX4_isAsTold (16 * 1) xt_25_1 = true := by decide +kernel
theorem xd_25_2 : xe_dck cX4_isAsTold (16 * 2) xt_25_2 = true := by decide +kernel
theorem xd_25_3 : xe_dck cX4_isAsTold (16 * 3) xt_25_3 = true := by decide +kernel
theorem xd_25_4 : xe_dck cX4_isAsTold (16 * 4) xt_25_4 = true := by decide +kernel
theorem xd_25_5 : xe_dck cX4_isAsTold (16 * 5) xt_25_5 = true := by decide +kernel
theorem xd_25_6 : xe_dck cX4_isAsTold (16 * 6) xt_25_6 = true := by decide +kernel
theorem xd_25_7 : xe_dck cX4_isAsTold (16 * 7) xt_25_7 = true := by decide +kernel
theorem xd_25_8 : xe_dck cX4_isAsTold (16 * 8) xt_25_8 = true := by decide +kernel
theorem xd_25_9 : xe_dck cX4_isAsTold (16 * 9) xt_25_9 = true := by decide +kernel
theorem xd_25_10 : xe_dck cX4_isAsTold (16 * 10) xt_25_10 = true := by decide +kernel
theorem xd_25_11 : xe_dck cX4_isAsTold (16 * 11) xt_25_11 = true := by decide +kernel
theorem xd_25_12 : xe_dck cX4_isAsTold (16 * 12) xt_25_12 = true := by decide +kernel
theorem xd_25_13 : xe_dck cX4_isAsTold (16 * 13) xt_25_13 = true := by decide +kernel
theorem xd_25_14 : xe_dck cX4_isAsTold (16 * 14) xt_25_14 = true := by decide +kernel
theorem xd_25_15 : xe_dck cX4_isAsTold (16 * 15) xt_25_15 = true := by decide +kernel
theorem xd_25_16 : xe_dck cX4_isAsTold (16 * 16) xt_25_16 = true := by decide +kernel
theorem xd_25_17 : xe_dck cX4_isAsTold (16 * 17) xt_25_17 = true := by decide +kernel
theorem xd_25_18 : xe_dck cX4_isAsTold (16 * 18) xt_25_18 = true := by decide +kernel
theorem xd_25_19 : xe_dck cX4_isAsTold (16 * 19) xt_25_19 = true := by decide +kernel
theorem xd_25_20 : xe_dck cX4_isAsTold (16 * 20) xt_25_20 = true := by decide +kernel
theorem xd_25_21 : xe_dck cX4_isAsTold (16 * 21) xt_25_21 = true := by decide +kernel
theorem xk_25 : xOK xMT xCLs xWS xNS 25 := xOK_of [] [] [[348, 349], [351, 352], [342, 343]] 347 63 ⟨xd_25_0, xd_25_1, xd_25_2, xd_25_3, xd_25_4, xd_25_5, xd_25_6, xd_25_7, xd_25_8, xd_25_9, xd_25_10, xd_25_11, xd_25_12, xd_25_13, xd_25_14, xd_25_15, xd_25_16, xd_25_17, xd_25_18, xd_25_19, xd_25_20, xd_25_21, trivial⟩ (by decide +kernel) rfl (by decide +kernel) (by decide +kernel) (by decide +kernel) (by decide +kernel) (by decide +kernel)
theorem xd_26_0 : xe_dck cX4_locate (16 * 0) xt_26_0 = true := by decide +kernel
theorem xk_26 : xOK xMT xCLs xWS xNS 26 := xOK_of [] [] [] 360 63 ⟨xd_26_0, trivial⟩ (by decide +kernel) rfl (by decide +kernel) (by decide +kernel) (by decide +kernel) (by decide +kernel) (by decide +kernel)
theorem xd_27_0 : xe_dck cX4_hasBit (16 * 0) xt_27_0 = true := by decide +kernel
theorem xk_27 : xOK xMT xCLs xWS xNS 27 := xOK_of [] [] [] 414 63 ⟨xd_27_0, trivial⟩ (by decide +kernel) rfl (by decide +kernel) (by decide +kernel) (by decide +kernel) (by decide +kernel) (by decide +kernel)
theorem xd_28_0 : xe_dck cX2_has (16 * 0) xt_28_0 = true := by decide +kernel
theorem xd_28_1 : xe_dck cX2_has (16 * 1) xt_28_1 = true := by decide +kernel
theorem xk_28 : xOK xMT xCLs xWS xNS 28 := xOK_of [85] [] [[343]] 372 64 ⟨xd_28_0, xd_28_1, trivial⟩ (by decide +kernel) rfl (by decide +kernel) (by decide +kernel) (by decide +kernel) (by decide +kernel) (by decide +kernel)
theorem xd_29_0 : xe_dck cX2_put (16 * 0) xt_29_0 = true := by decide +kernel
theorem xd_29_1 : xe_dck cX2_put (16 * 1) xt_29_1 = true := by decide +kernel
theorem xd_29_2 : xe_dck cX2_put (16 * 2) xt_29_2 = true := by decide +kernel
theorem xd_29_3 : xe_dck cX2_put (16 * 3) xt_29_3 = true := by decide +kernel
theorem xk_29 : xOK xMT xCLs xWS xNS 29 := xOK_of [89, 92, 95, 98, 101] [] [[359]] 357 64 ⟨xd_29_0, xd_29_1, xd_29_2, xd_29_3, trivial⟩ (by decide +kernel) rfl (by decide +kernel) (by decide +kernel) (by decide +kernel) (by decide +kernel) (by decide +kernel)
theorem xd_30_0 : xe_dck cX3_go (16 * 0) xt_30_0 = true := by decide +kernel
theorem xd_30_1 : xe_dck cX3_go (16 * 1) xt_30_1 = true := by decide +kernel
theorem xd_30_2 : xe_dck cX3_go (16 * 2) xt_30_2 = true := by decide +kernel
theorem xd_30_3 : xe_dck cX3_go (16 * 3) xt_30_3 = true := by decide +kernel
theorem xd_30_4 : xe_dck cX3_go (16 * 4) xt_30_4 = true := by decide +kernel
theorem xd_30_5 : xe_dck cX3_go (16 * 5) xt_30_5 = true := by decide +kernel
theorem xd_30_6 : xe_dck cX3_go (16 * 6) xt_30_6 = true := by decide +kernel
theorem xk_30 : xOK xMT xCLs xWS xNS 30 := xOK_of [126, 124, 130, 131, 136, 129] [] [[394, 396, 1], [398, 370, 371]] 393 65 ⟨xd_30_0, xd_30_1, xd_30_2, xd_30_3, xd_30_4, xd_30_5, xd_30_6, trivial⟩ (by decide +kernel) rfl (by decide +kernel) (by decide +kernel) (by decide +kernel) (by decide +kernel) (by decide +kernel)
theorem xd_31_0 : xe_dck cX3_startAnew (16 * 0) xt_31_0 = true := by decide +kernel
theorem xd_31_1 : xe_dck cX3_startAnew (16 * 1) xt_31_1 = true := by decide +kernel
theorem xd_31_2 : xe_dck cX3_startAnew (16 * 2) xt_31_2 = true := by decide +kernel
theorem xd_31_3 : xe_dck cX3_startAnew (16 * 3) xt_31_3 = true := by decide +kernel
theorem xd_31_4 : xe_dck cX3_startAnew (16 * 4) xt_31_4 = true := by decide +kernel
theorem xk_31 : xOK xMT xCLs xWS xNS 31 := xOK_of [132, 134, 129, 130, 131, 136, 138, 140, 142, 146, 150] [] [] 397 65 ⟨xd_31_0, xd_31_1, xd_31_2, xd_31_3, xd_31_4, trivial⟩ (by decide +kernel) rfl (by decide +kernel) (by decide +kernel) (by decide +kernel) (by decide +kernel) (by decide +kernel)
theorem xd_32_0 : xe_dck cX0_takePlain (16 * 0) xt_32_0 = true := by decide +kernel
theorem xd_32_1 : xe_dck cX0_takePlain (16 * 1) xt_32_1 = true := by decide +kernel
theorem xd_32_2 : xe_dck cX0_takePlain (16 * 2) xt_32_2 = true := by decide +kernel
theorem xk_32 : xOK xMT xCLs xWS xNS 32 := xOK_of [212, 210, 211] [] [] 602 66 ⟨xd_32_0, xd_32_1, xd_32_2, trivial⟩ (by decide +kernel) rfl (by decide +kernel) (by decide +kernel) (by decide +kernel) (by decide +kernel) (by decide +kernel)
theorem xd_33_0 : xe_dck cX0_unsetAtBegin (16 * 0) xt_33_0 = true := by decide +kernel
theorem xd_33_1 : xe_dck cX0_unsetAtBegin (16 * 1) xt_33_1 = true := by decide +kernel
theorem xk_33 : xOK xMT xCLs xWS xNS 33 := xOK_of [211, 212] [] [] 636 66 ⟨xd_33_0, xd_33_1, trivial⟩ (by decide +kernel) rfl (by decide +kernel) (by decide +kernel) (by decide +kernel) (by decide +kernel) (by decide +kernel)
theorem xd_34_0 : xe_dck cX0_follow (16 * 0) xt_34_0 = true := by decide +kernel
theorem xd_34_1 : xe_dck cX0_follow (16 * 1) xt_34_1 = true := by decide +kernel
theorem xd_34_2 : xe_dck cX0_follow (16 * 2) xt_34_2 = true := by decide +kernel
theorem xd_34_3 : xe_dck cX0_follow (16 * 3) xt_34_3 = true := by decide +kernel
theorem xd_34_4 : xe_dck cX0_follow (16 * 4) xt_34_4 = true := by decide +kernel
theorem xd_34_5 : xe_dck cX0_follow (16 * 5) xt_34_5 = true := by decide +kernel
theorem xd_34_6 : xe_dck cX0_follow (16 * 6) xt_34_6 = true := by decide +kernel
theorem xk_34 : xOK xMT xCLs xWS xNS 34 := xOK_of [199, 195, 88, 198] [502, 511] [[498, 500, 14], [503, 505, 15], [512, 514, 17]] 497 66 ⟨xd_34_0, xd_34_1, xd_34_2, xd_34_3, xd_34_4, xd_34_5, xd_34_6, trivial⟩ (by decide +kernel) rfl (by decide +kernel) (by decide +kernel) (by decide +kernel) (by decide +kernel) (by decide +kernel)
theorem xd_35_0 : xe_dck cX0_mayBe (16 * 0) xt_35_0 = true := by decide +kernel
theorem xd_35_1 : xe_dck cX0_mayBe (16 * 1) xt_35_1 = true := by decide +kernel
theorem xd_35_2 : xe_dck cX0_mayBe (16 * 2) xt_35_2 = true := by decide +kernel
theorem xk_35 : xOK xMT xCLs xWS xNS 35 := xOK_of [196, 197] [] [[413]] 581 66 ⟨xd_35_0, xd_35_1, xd_35_2, trivial⟩ (by decide +kernel) rfl (by decide +kernel) (by decide +kernel) (by decide +kernel) (by decide +kernel) (by decide +kernel)
theorem xd_36_0 : xe_dck cX0_badUses (16 * 0) xt_36_0 = true := by decide +kernel
theorem xd_36_1 : xe_dck cX0_badUses (16 * 1) xt_36_1 = true := by decide +kernel
theorem xd_36_2 : xe_dck cX0_badUses (16 * 2) xt_36_2 = true := by decide +kernel
theorem xd_36_3 : xe_dck cX0_badUses (16 * 3) xt_36_3 = true := by decide +kernel
theorem xk_36 : xOK xMT xCLs xWS xNS 36 := xOK_of [195, 88] [] [] 558 66 ⟨xd_36_0, xd_36_1, xd_36_2, xd_36_3, trivial⟩ (by decide +kernel) rfl (by decide +kernel) (by decide +kernel) (by decide +kernel) (by decide +kernel) (by decide +kernel)
theorem xd_37_0 : xe_dck cX0_badUseAt (16 * 0) xt_37_0 = true := by decide +kernel
theorem xd_37_1 : xe_dck cX0_badUseAt (16 * 1) xt_37_1 = true := by decide +kernel
theorem xd_37_2 : xe_dck cX0_badUseAt (16 * 2) xt_37_2 = true := by decide +kernel
theorem xd_37_3 : xe_dck cX0_badUseAt (16 * 3) xt_37_3 = true := by decide +kernel
theorem xd_37_4 : xe_dck cX0_badUseAt (16 * 4) xt_37_4 = true := by decide +kernel
theorem xk_37 : xOK xMT xCLs xWS xNS 37 := xOK_of [195, 88] [] [[359]] 571 66 ⟨xd_37_0, xd_37_1, xd_37_2, xd_37_3, xd_37_4, trivial⟩ (by decide +kernel) rfl (by decide +kernel) (by decide +kernel) (by decide +kernel) (by decide +kernel) (by decide +kernel)
theorem xd_38_0 : xe_dck cX0_tellKinds (16 * 0) xt_38_0 = true := by decide +kernel
theorem xd_38_1 : xe_dck cX0_tellKinds (16 * 1) xt_38_1 = true := by decide +kernel
theorem xd_38_2 : xe_dck cX0_tellKinds (16 * 2) xt_38_2 = true := by decide +kernel
theorem xd_38_3 : xe_dck cX0_tellKinds (16 * 3) xt_38_3 = true := by decide +kernel
theorem xk_38 : xOK xMT xCLs xWS xNS 38 := xOK_of [195, 88] [] [[359]] 606 66 ⟨xd_38_0, xd_38_1, xd_38_2, xd_38_3, trivial⟩ (by decide +kernel) rfl (by decide +kernel) (by decide +kernel) (by decide +kernel) (by decide +kernel) (by decide +kernel)
theorem xd_39_0 : xe_dck cX0_hasKinds (16 * 0) xt_39_0 = true := by decide +kernel
theorem xd_39_1 : xe_dck cX0_hasKinds (16 * 1) xt_39_1 = true := by decide +kernel
theorem xd_39_2 : xe_dck cX0_hasKinds (16 * 2) xt_39_2 = true := by decide +kernel
theorem xd_39_3 : xe_dck cX0_hasKinds (16 * 3) xt_39_3 = true := by decide +kernel
theorem xk_39 : xOK xMT xCLs xWS xNS 39 := xOK_of [195, 88] [] [[359]] 610 66 ⟨xd_39_0, xd_39_1, xd_39_2, xd_39_3, trivial⟩ (by decide +kernel) rfl (by decide +kernel) (by decide +kernel) (by decide +kernel) (by decide +kernel) (by decide +kernel)
theorem xd_40_0 : xe_dck cX0_forget (16 * 0) xt_40_0 = true := by decide +kernel
theorem xd_40_1 : xe_dck cX0_forget (16 * 1) xt_40_1 = true := by decide +kernel
theorem xd_40_2 : xe_dck cX0_forget (16 * 2) xt_40_2 = true := by decide +kernel
theorem xd_40_3 : xe_dck cX0_forget (16 * 3) xt_40_3 = true := by decide +kernel
theorem xd_40_4 : xe_dck cX0_forget (16 * 4) xt_40_4 = true := by decide +kernel
theorem xd_40_5 : xe_dck cX0_forget (16 * 5) xt_40_5 = true := by decide +kernel
theorem xk_40 : xOK xMT xCLs xWS xNS 40 := xOK_of [196, 197, 198, 202, 204, 206, 208, 199] [] [] 501 66 ⟨xd_40_0, xd_40_1, xd_40_2, xd_40_3, xd_40_4, xd_40_5, trivial⟩ (by decide +kernel) rfl (by decide +kernel) (by decide +kernel) (by decide +kernel) (by decide +kernel) (by decide +kernel)
theorem xd_41_0 : xe_dck cX0_come (16 * 0) xt_41_0 = true := by decide +kernel
theorem xd_41_1 : xe_dck cX0_come (16 * 1) xt_41_1 = true := by decide +kernel
theorem xd_41_2 : xe_dck cX0_come (16 * 2) xt_41_2 = true := by decide +kernel
theorem xd_41_3 : xe_dck cX0_come (16 * 3) xt_41_3 = true := by decide +kernel
theorem xk_41 : xOK xMT xCLs xWS xNS 41 := xOK_of [202, 204, 210, 211] [] [[507, 509, 16]] 506 66 ⟨xd_41_0, xd_41_1, xd_41_2, xd_41_3, trivial⟩ (by decide +kernel) rfl (by decide +kernel) (by decide +kernel) (by decide +kernel) (by decide +kernel) (by decide +kernel)
theorem xd_42_0 : xe_dck cX0_join (16 * 0) xt_42_0 = true := by decide +kernel
theorem xd_42_1 : xe_dck cX0_join (16 * 1) xt_42_1 = true := by decide +kernel
theorem xd_42_2 : xe_dck cX0_join (16 * 2) xt_42_2 = true := by decide +kernel
theorem xd_42_3 : xe_dck cX0_join (16 * 3) xt_42_3 = true := by decide +kernel
theorem xd_42_4 : xe_dck cX0_join (16 * 4) xt_42_4 = true := by decide +kernel
theorem xd_42_5 : xe_dck cX0_join (16 * 5) xt_42_5 = true := by decide +kernel
theorem xd_42_6 : xe_dck cX0_join (16 * 6) xt_42_6 = true := by decide +kernel
theorem xk_42 : xOK xMT xCLs xWS xNS 42 := xOK_of [195, 88, 196, 197, 198, 199] [] [] 510 66 ⟨xd_42_0, xd_42_1, xd_42_2, xd_42_3, xd_42_4, xd_42_5, xd_42_6, trivial⟩ (by decide +kernel) rfl (by decide +kernel) (by decide +kernel) (by decide +kernel) (by decide +kernel) (by decide +kernel)
theorem xd_43_0 : xe_dck cX0_takeOn (16 * 0) xt_43_0 = true := by decide +kernel
theorem xd_43_1 : xe_dck cX0_takeOn (16 * 1) xt_43_1 = true := by decide +kernel
theorem xd_43_2 : xe_dck cX0_takeOn (16 * 2) xt_43_2 = true := by decide +kernel
theorem xd_43_3 : xe_dck cX0_takeOn (16 * 3) xt_43_3 = true := by decide +kernel
theorem xd_43_4 : xe_dck cX0_takeOn (16 * 4) xt_43_4 = true := by decide +kernel
theorem xd_43_5 : xe_dck cX0_takeOn (16 * 5) xt_43_5 = true := by decide +kernel
theorem xd_43_6 : xe_dck cX0_takeOn (16 * 6) xt_43_6 = true := by decide +kernel
theorem xd_43_7 : xe_dck cX0_takeOn (16 * 7) xt_43_7 = true := by decide +kernel
theorem xd_43_8 : xe_dck cX0_takeOn (16 * 8) xt_43_8 = true := by decide +kernel
theorem xd_43_9 : xe_dck cX0_takeOn (16 * 9) xt_43_9 = true := by decide +kernel
theorem xd_43_10 : xe_dck cX0_takeOn (16 * 10) xt_43_10 = true := by decide +kernel
theorem xd_43_11 : xe_dck cX0_takeOn (16 * 11) xt_43_11 = true := by decide +kernel
theorem xd_43_12 : xe_dck cX0_takeOn (16 * 12) xt_43_12 = true := by decide +kernel
theorem xd_43_13 : xe_dck cX0_takeOn (16 * 13) xt_43_13 = true := by decide +kernel
theorem xd_43_14 : xe_dck cX0_takeOn (16 * 14) xt_43_14 = true := by decide +kernel
theorem xd_43_15 : xe_dck cX0_takeOn (16 * 15) xt_43_15 = true := by decide +kernel
theorem xk_43 : xOK xMT xCLs xWS xNS 43 := xOK_of [198, 196, 197, 195, 88, 91, 97, 94, 206, 208, 200, 201] [] [[359], [517, 519, 18], [507, 509, 16], [503, 505, 15]] 515 66 ⟨xd_43_0, xd_43_1, xd_43_2, xd_43_3, xd_43_4, xd_43_5, xd_43_6, xd_43_7, xd_43_8, xd_43_9, xd_43_10, xd_43_11, xd_43_12, xd_43_13, xd_43_14, xd_43_15, trivial⟩ (by decide +kernel) rfl (by decide +kernel) (by decide +kernel) (by decide +kernel) (by decide +kernel) (by decide +kernel)
theorem xd_44_0 : xe_dck cX0_leave (16 * 0) xt_44_0 = true := by decide +kernel
theorem xd_44_1 : xe_dck cX0_leave (16 * 1) xt_44_1 = true := by decide +kernel
theorem xd_44_2 : xe_dck cX0_leave (16 * 2) xt_44_2 = true := by decide +kernel
theorem xd_44_3 : xe_dck cX0_leave (16 * 3) xt_44_3 = true := by decide +kernel
theorem xd_44_4 : xe_dck cX0_leave (16 * 4) xt_44_4 = true := by decide +kernel
theorem xd_44_5 : xe_dck cX0_leave (16 * 5) xt_44_5 = true := by decide +kernel
theorem xd_44_6 : xe_dck cX0_leave (16 * 6) xt_44_6 = true := by decide +kernel
theorem xd_44_7 : xe_dck cX0_leave (16 * 7) xt_44_7 = true := by decide +kernel
theorem xd_44_8 : xe_dck cX0_leave (16 * 8) xt_44_8 = true := by decide +kernel
theorem xd_44_9 : xe_dck cX0_leave (16 * 9) xt_44_9 = true := by decide +kernel
theorem xk_44 : xOK xMT xCLs xWS xNS 44 := xOK_of [206, 208, 195, 88, 91, 94, 198, 199] [] [[359]] 520 66 ⟨xd_44_0, xd_44_1, xd_44_2, xd_44_3, xd_44_4, xd_44_5, xd_44_6, xd_44_7, xd_44_8, xd_44_9, trivial⟩ (by decide +kernel) rfl (by decide +kernel) (by decide +kernel) (by decide +kernel) (by decide +kernel) (by decide +kernel)
theorem xd_45_0 : xe_dck cX1_gather (16 * 0) xt_45_0 = true := by decide +kernel
theorem xd_45_1 : xe_dck cX1_gather (16 * 1) xt_45_1 = true := by decide +kernel
theorem xd_45_2 : xe_dck cX1_gather (16 * 2) xt_45_2 = true := by decide +kernel
theorem xd_45_3 : xe_dck cX1_gather (16 * 3) xt_45_3 = true := by decide +kernel
theorem xd_45_4 : xe_dck cX1_gather (16 * 4) xt_45_4 = true := by decide +kernel
theorem xd_45_5 : xe_dck cX1_gather (16 * 5) xt_45_5 = true := by decide +kernel
theorem xd_45_6 : xe_dck cX1_gather (16 * 6) xt_45_6 = true := by decide +kernel
theorem xd_45_7 : xe_dck cX1_gather (16 * 7) xt_45_7 = true := by decide +kernel
theorem xk_45 : xOK xMT xCLs xWS xNS 45 := xOK_of [255, 250, 205, 203, 252, 253] [] [[413], [628, 630, 28]] 626 67 ⟨xd_45_0, xd_45_1, xd_45_2, xd_45_3, xd_45_4, xd_45_5, xd_45_6, xd_45_7, trivial⟩ (by decide +kernel) rfl (by decide +kernel) (by decide +kernel) (by decide +kernel) (by decide +kernel) (by decide +kernel)
theorem xd_46_0 : xe_dck cX1_find (16 * 0) xt_46_0 = true := by decide +kernel
theorem xd_46_1 : xe_dck cX1_find (16 * 1) xt_46_1 = true := by decide +kernel
theorem xk_46 : xOK xMT xCLs xWS xNS 46 := xOK_of [] [] [[643, 645, 29], [661, 663, 32], [673, 675, 35], [665, 667, 33]] 642 67 ⟨xd_46_0, xd_46_1, trivial⟩ (by decide +kernel) rfl (by decide +kernel) (by decide +kernel) (by decide +kernel) (by decide +kernel) (by decide +kernel)
theorem xd_47_0 : xe_dck cX1_leads (16 * 0) xt_47_0 = true := by decide +kernel
theorem xd_47_1 : xe_dck cX1_leads (16 * 1) xt_47_1 = true := by decide +kernel
theorem xd_47_2 : xe_dck cX1_leads (16 * 2) xt_47_2 = true := by decide +kernel
theorem xk_47 : xOK xMT xCLs xWS xNS 47 := xOK_of [251] [] [[632, 600, 601], [633, 634, 635], [637, 495, 496], [638, 556, 557]] 631 67 ⟨xd_47_0, xd_47_1, xd_47_2, trivial⟩ (by decide +kernel) rfl (by decide +kernel) (by decide +kernel) (by decide +kernel) (by decide +kernel) (by decide +kernel)
theorem xd_48_0 : xe_dck cX1_followWays (16 * 0) xt_48_0 = true := by decide +kernel
theorem xd_48_1 : xe_dck cX1_followWays (16 * 1) xt_48_1 = true := by decide +kernel
theorem xd_48_2 : xe_dck cX1_followWays (16 * 2) xt_48_2 = true := by decide +kernel
theorem xd_48_3 : xe_dck cX1_followWays (16 * 3) xt_48_3 = true := by decide +kernel
theorem xd_48_4 : xe_dck cX1_followWays (16 * 4) xt_48_4 = true := by decide +kernel
theorem xd_48_5 : xe_dck cX1_followWays (16 * 5) xt_48_5 = true := by decide +kernel
theorem xd_48_6 : xe_dck cX1_followWays (16 * 6) xt_48_6 = true := by decide +kernel
theorem xd_48_7 : xe_dck cX1_followWays (16 * 7) xt_48_7 = true := by decide +kernel
theorem xd_48_8 : xe_dck cX1_followWays (16 * 8) xt_48_8 = true := by decide +kernel
theorem xk_48 : xOK xMT xCLs xWS xNS 48 := xOK_of [251, 257, 258, 256, 255, 252, 253, 254] [655] [[647, 649, 30], [637, 495, 496], [656, 658, 31], [638, 556, 557], [633, 634, 635]] 646 67 ⟨xd_48_0, xd_48_1, xd_48_2, xd_48_3, xd_48_4, xd_48_5, xd_48_6, xd_48_7, xd_48_8, trivial⟩ (by decide +kernel) rfl (by decide +kernel) (by decide +kernel) (by decide +kernel) (by decide +kernel) (by decide +kernel)
theorem xd_49_0 : xe_dck cX1_doAllMends (16 * 0) xt_49_0 = true := by decide +kernel
theorem xd_49_1 : xe_dck cX1_doAllMends (16 * 1) xt_49_1 = true := by decide +kernel
theorem xd_49_2 : xe_dck cX1_doAllMends (16 * 2) xt_49_2 = true := by decide +kernel
theorem xk_49 : xOK xMT xCLs xWS xNS 49 := xOK_of [251, 255, 252, 253] [] [[632, 600, 601]] 650 67 ⟨xd_49_0, xd_49_1, xd_49_2, trivial⟩ (by decide +kernel) rfl (by decide +kernel) (by decide +kernel) (by decide +kernel) (by decide +kernel) (by decide +kernel)
theorem xd_50_0 : xe_dck cX1_mendsComeTo (16 * 0) xt_50_0 = true := by decide +kernel
theorem xd_50_1 : xe_dck cX1_mendsComeTo (16 * 1) xt_50_1 = true := by decide +kernel
theorem xd_50_2 : xe_dck cX1_mendsComeTo (16 * 2) xt_50_2 = true := by decide +kernel
theorem xd_50_3 : xe_dck cX1_mendsComeTo (16 * 3) xt_50_3 = true := by decide +kernel
theorem xk_50 : xOK xMT xCLs xWS xNS 50 := xOK_of [255, 251, 205, 252, 253] [] [[413]] 659 67 ⟨xd_50_0, xd_50_1, xd_50_2, xd_50_3, trivial⟩ (by decide +kernel) rfl (by decide +kernel) (by decide +kernel) (by decide +kernel) (by decide +kernel) (by decide +kernel)
theorem xd_51_0 : xe_dck cX1_cheapest (16 * 0) xt_51_0 = true := by decide +kernel
theorem xd_51_1 : xe_dck cX1_cheapest (16 * 1) xt_51_1 = true := by decide +kernel
theorem xd_51_2 : xe_dck cX1_cheapest (16 * 2) xt_51_2 = true := by decide +kernel
theorem xd_51_3 : xe_dck cX1_cheapest (16 * 3) xt_51_3 = true := by decide +kernel
theorem xd_51_4 : xe_dck cX1_cheapest (16 * 4) xt_51_4 = true := by decide +kernel
theorem xk_51 : xOK xMT xCLs xWS xNS 51 := xOK_of [258, 255] [] [[665, 667, 33], [669, 671, 34]] 664 67 ⟨xd_51_0, xd_51_1, xd_51_2, xd_51_3, xd_51_4, trivial⟩ (by decide +kernel) rfl (by decide +kernel) (by decide +kernel) (by decide +kernel) (by decide +kernel) (by decide +kernel)
theorem xd_52_0 : xe_dck cX1_costOf (16 * 0) xt_52_0 = true := by decide +kernel
theorem xd_52_1 : xe_dck cX1_costOf (16 * 1) xt_52_1 = true := by decide +kernel
theorem xd_52_2 : xe_dck cX1_costOf (16 * 2) xt_52_2 = true := by decide +kernel
theorem xk_52 : xOK xMT xCLs xWS xNS 52 := xOK_of [255, 252] [] [[413]] 668 67 ⟨xd_52_0, xd_52_1, xd_52_2, trivial⟩ (by decide +kernel) rfl (by decide +kernel) (by decide +kernel) (by decide +kernel) (by decide +kernel) (by decide +kernel)
theorem xd_53_0 : xe_dck cX1_cutsAllWays (16 * 0) xt_53_0 = true := by decide +kernel
theorem xd_53_1 : xe_dck cX1_cutsAllWays (16 * 1) xt_53_1 = true := by decide +kernel
theorem xd_53_2 : xe_dck cX1_cutsAllWays (16 * 2) xt_53_2 = true := by decide +kernel
theorem xd_53_3 : xe_dck cX1_cutsAllWays (16 * 3) xt_53_3 = true := by decide +kernel
theorem xd_53_4 : xe_dck cX1_cutsAllWays (16 * 4) xt_53_4 = true := by decide +kernel
theorem xd_53_5 : xe_dck cX1_cutsAllWays (16 * 5) xt_53_5 = true := by decide +kernel
theorem xk_53 : xOK xMT xCLs xWS xNS 53 := xOK_of [257, 255, 254, 256] [] [[413]] 672 67 ⟨xd_53_0, xd_53_1, xd_53_2, xd_53_3, xd_53_4, xd_53_5, trivial⟩ (by decide +kernel) rfl (by decide +kernel) (by decide +kernel) (by decide +kernel) (by decide +kernel) (by decide +kernel)
theorem xd_54_0 : xe_dck cX1_keep (16 * 0) xt_54_0 = true := by decide +kernel
theorem xd_54_1 : xe_dck cX1_keep (16 * 1) xt_54_1 = true := by decide +kernel
theorem xd_54_2 : xe_dck cX1_keep (16 * 2) xt_54_2 = true := by decide +kernel
theorem xd_54_3 : xe_dck cX1_keep (16 * 3) xt_54_3 = true := by decide +kernel
theorem xd_54_4 : xe_dck cX1_keep (16 * 4) xt_54_4 = true := by decide +kernel
theorem xk_54 : xOK xMT xCLs xWS xNS 54 := xOK_of [263, 255, 259, 252, 261, 253] [] [[413]] 676 67 ⟨xd_54_0, xd_54_1, xd_54_2, xd_54_3, xd_54_4, trivial⟩ (by decide +kernel) rfl (by decide +kernel) (by decide +kernel) (by decide +kernel) (by decide +kernel) (by decide +kernel)
theorem xd_55_0 : xe_dck cX5_in (16 * 0) xt_55_0 = true := by decide +kernel
theorem xk_55 : xOK xMT xCLs xWS xNS 55 := xOK_of [] [] [] 894 68 ⟨xd_55_0, trivial⟩ (by decide +kernel) rfl (by decide +kernel) (by decide +kernel) (by decide +kernel) (by decide +kernel) (by decide +kernel)
theorem xd_56_0 : xe_dck cX5_isFunction (16 * 0) xt_56_0 = true := by decide +kernel
theorem xk_56 : xOK xMT xCLs xWS xNS 56 := xOK_of [] [] [[892, 893]] 891 68 ⟨xd_56_0, trivial⟩ (by decide +kernel) rfl (by decide +kernel) (by decide +kernel) (by decide +kernel) (by decide +kernel) (by decide +kernel)
theorem xd_57_0 : xe_dck cX5_isCell (16 * 0) xt_57_0 = true := by decide +kernel
theorem xk_57 : xOK xMT xCLs xWS xNS 57 := xOK_of [] [] [[892, 893]] 900 68 ⟨xd_57_0, trivial⟩ (by decide +kernel) rfl (by decide +kernel) (by decide +kernel) (by decide +kernel) (by decide +kernel) (by decide +kernel)
theorem xd_58_0 : xe_dck cX5_isRow (16 * 0) xt_58_0 = true := by decide +kernel
theorem xd_58_1 : xe_dck cX5_isRow (16 * 1) xt_58_1 = true := by decide +kernel
theorem xk_58 : xOK xMT xCLs xWS xNS 58 := xOK_of [] [] [[898, 899], [892, 893]] 903 68 ⟨xd_58_0, xd_58_1, trivial⟩ (by decide +kernel) rfl (by decide +kernel) (by decide +kernel) (by decide +kernel) (by decide +kernel) (by decide +kernel)
theorem xd_59_0 : xe_dck cX5_isGood (16 * 0) xt_59_0 = true := by decide +kernel
theorem xd_59_1 : xe_dck cX5_isGood (16 * 1) xt_59_1 = true := by decide +kernel
theorem xd_59_2 : xe_dck cX5_isGood (16 * 2) xt_59_2 = true := by decide +kernel
theorem xd_59_3 : xe_dck cX5_isGood (16 * 3) xt_59_3 = true := by decide +kernel
theorem xd_59_4 : xe_dck cX5_isGood (16 * 4) xt_59_4 = true := by decide +kernel
theorem xd_59_5 : xe_dck cX5_isGood (16 * 5) xt_59_5 = true := by decide +kernel
theorem xd_59_6 : xe_dck cX5_isGood (16 * 6) xt_59_6 = true := by decide +kernel
theorem xd_59_7 : xe_dck cX5_isGood (16 * 7) xt_59_7 = true := by decide +kernel
theorem xd_59_8 : xe_dck cX5_isGood (16 * 8) xt_59_8 = true := by decide +kernel
theorem xd_59_9 : xe_dck cX5_isGood (16 * 9) xt_59_9 = true := by decide +kernel
theorem xd_59_10 : xe_dck cX5_isGood (16 * 10) xt_59_10 = true := by decide +kernel
theorem xd_59_11 : xe_dck cX5_isGood (16 * 11) xt_59_11 = true := by decide +kernel
theorem xd_59_12 : xe_dck cX5_isGood (16 * 12) xt_59_12 = true := by decide +kernel
theorem xd_59_13 : xe_dck cX5_isGood (16 * 13) xt_59_13 = true := by decide +kernel
theorem xd_59_14 : xe_dck cX5_isGood (16 * 14) xt_59_14 = true := by decide +kernel
theorem xd_59_15 : xe_dck cX5_isGood (16 * 15) xt_59_15 = true := by decide +kernel
theorem xd_59_16 : xe_dck cX5_isGood (16 * 16) xt_59_16 = true := by decide +kernel
theorem xd_59_17 : xe_dck cX5_isGood (16 * 17) xt_59_17 = true := by decide +kernel
theorem xd_59_18 : xe_dck cX5_isGood (16 * 18) xt_59_18 = true := by decide +kernel
theorem xd_59_19 : xe_dck cX5_isGood (16 * 19) xt_59_19 = true := by decide +kernel
theorem xd_59_20 : xe_dck cX5_isGood (16 * 20) xt_59_20 = true := by decide +kernel
theorem xd_59_21 : xe_dck cX5_isGood (16 * 21) xt_59_21 = true := by decide +kernel
theorem xk_59 : xOK xMT xCLs xWS xNS 59 := xOK_of [] [] [[898, 899], [892, 893], [901, 902], [889, 890]] 897 68 ⟨xd_59_0, xd_59_1, xd_59_2, xd_59_3, xd_59_4, xd_59_5, xd_59_6, xd_59_7, xd_59_8, xd_59_9, xd_59_10, xd_59_11, xd_59_12, xd_59_13, xd_59_14, xd_59_15, xd_59_16, xd_59_17, xd_59_18, xd_59_19, xd_59_20, xd_59_21, trivial⟩ (by decide +kernel) rfl (by decide +kernel) (by decide +kernel) (by decide +kernel) (by decide +kernel) (by decide +kernel)
theorem xd_60_0 : xe_dck cX5_puts (16 * 0) xt_60_0 = true := by decide +kernel
theorem xd_60_1 : xe_dck cX5_puts (16 * 1) xt_60_1 = true := by decide +kernel
theorem xd_60_2 : xe_dck cX5_puts (16 * 2) xt_60_2 = true := by decide +kernel
theorem xd_60_3 : xe_dck cX5_puts (16 * 3) xt_60_3 = true := by decide +kernel
theorem xd_60_4 : xe_dck cX5_puts (16 * 4) xt_60_4 = true := by decide +kernel
theorem xk_60 : xOK xMT xCLs xWS xNS 60 := xOK_of [716, 721] [] [] 907 68 ⟨xd_60_0, xd_60_1, xd_60_2, xd_60_3, xd_60_4, trivial⟩ (by decide +kernel) rfl (by decide +kernel) (by decide +kernel) (by decide +kernel) (by decide +kernel) (by decide +kernel)
theorem xd_61_0 : xe_dck cX5_code (16 * 0) xt_61_0 = true := by decide +kernel
theorem xd_61_1 : xe_dck cX5_code (16 * 1) xt_61_1 = true := by decide +kernel
theorem xd_61_2 : xe_dck cX5_code (16 * 2) xt_61_2 = true := by decide +kernel
theorem xd_61_3 : xe_dck cX5_code (16 * 3) xt_61_3 = true := by decide +kernel
theorem xd_61_4 : xe_dck cX5_code (16 * 4) xt_61_4 = true := by decide +kernel
theorem xk_61 : xOK xMT xCLs xWS xNS 61 := xOK_of [717] [] [[889, 890], [895, 896], [904, 906, 37]] 888 68 ⟨xd_61_0, xd_61_1, xd_61_2, xd_61_3, xd_61_4, trivial⟩ (by decide +kernel) rfl (by decide +kernel) (by decide +kernel) (by decide +kernel) (by decide +kernel) (by decide +kernel)
theorem xd_62_0 : xe_dck cX5_change (16 * 0) xt_62_0 = true := by decide +kernel
theorem xd_62_1 : xe_dck cX5_change (16 * 1) xt_62_1 = true := by decide +kernel
theorem xd_62_2 : xe_dck cX5_change (16 * 2) xt_62_2 = true := by decide +kernel
theorem xd_62_3 : xe_dck cX5_change (16 * 3) xt_62_3 = true := by decide +kernel
theorem xk_62 : xOK xMT xCLs xWS xNS 62 := xOK_of [717] [] [[889, 890], [892, 893], [895, 896], [904, 906, 37]] 911 68 ⟨xd_62_0, xd_62_1, xd_62_2, xd_62_3, trivial⟩ (by decide +kernel) rfl (by decide +kernel) (by decide +kernel) (by decide +kernel) (by decide +kernel) (by decide +kernel)
theorem xd_63_0 : xe_dck cX5_clear (16 * 0) xt_63_0 = true := by decide +kernel
theorem xd_63_1 : xe_dck cX5_clear (16 * 1) xt_63_1 = true := by decide +kernel
theorem xk_63 : xOK xMT xCLs xWS xNS 63 := xOK_of [717, 721] [] [[889, 890]] 915 68 ⟨xd_63_0, xd_63_1, trivial⟩ (by decide +kernel) rfl (by decide +kernel) (by decide +kernel) (by decide +kernel) (by decide +kernel) (by decide +kernel)
theorem xd_64_0 : xe_dck cX5_input (16 * 0) xt_64_0 = true := by decide +kernel
theorem xd_64_1 : xe_dck cX5_input (16 * 1) xt_64_1 = true := by decide +kernel
theorem xd_64_2 : xe_dck cX5_input (16 * 2) xt_64_2 = true := by decide +kernel
theorem xk_64 : xOK xMT xCLs xWS xNS 64 := xOK_of [720, 719] [] [[892, 893]] 919 68 ⟨xd_64_0, xd_64_1, xd_64_2, trivial⟩ (by decide +kernel) rfl (by decide +kernel) (by decide +kernel) (by decide +kernel) (by decide +kernel) (by decide +kernel)
theorem xd_65_0 : xe_dck cX5_empty (16 * 0) xt_65_0 = true := by decide +kernel
theorem xk_65 : xOK xMT xCLs xWS xNS 65 := xOK_of [720] [] [] 923 68 ⟨xd_65_0, trivial⟩ (by decide +kernel) rfl (by decide +kernel) (by decide +kernel) (by decide +kernel) (by decide +kernel) (by decide +kernel)
theorem xd_66_0 : xe_dck cX5_runs (16 * 0) xt_66_0 = true := by decide +kernel
theorem xd_66_1 : xe_dck cX5_runs (16 * 1) xt_66_1 = true := by decide +kernel
theorem xd_66_2 : xe_dck cX5_runs (16 * 2) xt_66_2 = true := by decide +kernel
theorem xd_66_3 : xe_dck cX5_runs (16 * 3) xt_66_3 = true := by decide +kernel
theorem xd_66_4 : xe_dck cX5_runs (16 * 4) xt_66_4 = true := by decide +kernel
theorem xd_66_5 : xe_dck cX5_runs (16 * 5) xt_66_5 = true := by decide +kernel
theorem xd_66_6 : xe_dck cX5_runs (16 * 6) xt_66_6 = true := by decide +kernel
theorem xd_66_7 : xe_dck cX5_runs (16 * 7) xt_66_7 = true := by decide +kernel
theorem xd_66_8 : xe_dck cX5_runs (16 * 8) xt_66_8 = true := by decide +kernel
theorem xd_66_9 : xe_dck cX5_runs (16 * 9) xt_66_9 = true := by decide +kernel
theorem xd_66_10 : xe_dck cX5_runs (16 * 10) xt_66_10 = true := by decide +kernel
theorem xd_66_11 : xe_dck cX5_runs (16 * 11) xt_66_11 = true := by decide +kernel
theorem xd_66_12 : xe_dck cX5_runs (16 * 12) xt_66_12 = true := by decide +kernel
theorem xd_66_13 : xe_dck cX5_runs (16 * 13) xt_66_13 = true := by decide +kernel
theorem xd_66_14 : xe_dck cX5_runs (16 * 14) xt_66_14 = true := by decide +kernel
theorem xd_66_15 : xe_dck cX5_runs (16 * 15) xt_66_15 = true := by decide +kernel
theorem xd_66_16 : xe_dck cX5_runs (16 * 16) xt_66_16 = true := by decide +kernel
theorem xd_66_17 : xe_dck cX5_runs (16 * 17) xt_66_17 = true := by decide +kernel
theorem xd_66_18 : xe_dck cX5_runs (16 * 18) xt_66_18 = true := by decide +kernel
theorem xd_66_19 : xe_dck cX5_runs (16 * 19) xt_66_19 = true := by decide +kernel
theorem xk_66 : xOK xMT xCLs xWS xNS 66 := xOK_of [722, 723, 726, 727, 728, 729, 730, 734, 737, 724, 725, 717, 716] [] [] 931 68 ⟨xd_66_0, xd_66_1, xd_66_2, xd_66_3, xd_66_4, xd_66_5, xd_66_6, xd_66_7, xd_66_8, xd_66_9, xd_66_10, xd_66_11, xd_66_12, xd_66_13, xd_66_14, xd_66_15, xd_66_16, xd_66_17, xd_66_18, xd_66_19, trivial⟩ (by decide +kernel) rfl (by decide +kernel) (by decide +kernel) (by decide +kernel) (by decide +kernel) (by decide +kernel)
theorem xd_67_0 : xe_dck cX5_run (16 * 0) xt_67_0 = true := by decide +kernel
theorem xd_67_1 : xe_dck cX5_run (16 * 1) xt_67_1 = true := by decide +kernel
theorem xd_67_2 : xe_dck cX5_run (16 * 2) xt_67_2 = true := by decide +kernel
theorem xd_67_3 : xe_dck cX5_run (16 * 3) xt_67_3 = true := by decide +kernel
theorem xd_67_4 : xe_dck cX5_run (16 * 4) xt_67_4 = true := by decide +kernel
theorem xd_67_5 : xe_dck cX5_run (16 * 5) xt_67_5 = true := by decide +kernel
theorem xd_67_6 : xe_dck cX5_run (16 * 6) xt_67_6 = true := by decide +kernel
theorem xd_67_7 : xe_dck cX5_run (16 * 7) xt_67_7 = true := by decide +kernel
theorem xd_67_8 : xe_dck cX5_run (16 * 8) xt_67_8 = true := by decide +kernel
theorem xk_67 : xOK xMT xCLs xWS xNS 67 := xOK_of [733, 735, 740, 726, 741, 727, 742, 728, 743, 729, 744, 730, 745, 746, 731, 747, 722, 748, 723] [] [[928, 930, 38]] 927 68 ⟨xd_67_0, xd_67_1, xd_67_2, xd_67_3, xd_67_4, xd_67_5, xd_67_6, xd_67_7, xd_67_8, trivial⟩ (by decide +kernel) rfl (by decide +kernel) (by decide +kernel) (by decide +kernel) (by decide +kernel) (by decide +kernel)
theorem xd_68_0 : xe_dck cX5_ran (16 * 0) xt_68_0 = true := by decide +kernel
theorem xd_68_1 : xe_dck cX5_ran (16 * 1) xt_68_1 = true := by decide +kernel
theorem xd_68_2 : xe_dck cX5_ran (16 * 2) xt_68_2 = true := by decide +kernel
theorem xd_68_3 : xe_dck cX5_ran (16 * 3) xt_68_3 = true := by decide +kernel
theorem xd_68_4 : xe_dck cX5_ran (16 * 4) xt_68_4 = true := by decide +kernel
theorem xd_68_5 : xe_dck cX5_ran (16 * 5) xt_68_5 = true := by decide +kernel
theorem xd_68_6 : xe_dck cX5_ran (16 * 6) xt_68_6 = true := by decide +kernel
theorem xk_68 : xOK xMT xCLs xWS xNS 68 := xOK_of [740, 741, 742, 743, 744, 745, 748] [] [] 958 68 ⟨xd_68_0, xd_68_1, xd_68_2, xd_68_3, xd_68_4, xd_68_5, xd_68_6, trivial⟩ (by decide +kernel) rfl (by decide +kernel) (by decide +kernel) (by decide +kernel) (by decide +kernel) (by decide +kernel)
theorem xd_69_0 : xe_dck cX5_printed (16 * 0) xt_69_0 = true := by decide +kernel
theorem xd_69_1 : xe_dck cX5_printed (16 * 1) xt_69_1 = true := by decide +kernel
theorem xd_69_2 : xe_dck cX5_printed (16 * 2) xt_69_2 = true := by decide +kernel
theorem xk_69 : xOK xMT xCLs xWS xNS 69 := xOK_of [740, 745, 746] [] [[892, 893]] 962 68 ⟨xd_69_0, xd_69_1, xd_69_2, trivial⟩ (by decide +kernel) rfl (by decide +kernel) (by decide +kernel) (by decide +kernel) (by decide +kernel) (by decide +kernel)
theorem xd_70_0 : xe_dck cX5_cell (16 * 0) xt_70_0 = true := by decide +kernel
theorem xd_70_1 : xe_dck cX5_cell (16 * 1) xt_70_1 = true := by decide +kernel
theorem xd_70_2 : xe_dck cX5_cell (16 * 2) xt_70_2 = true := by decide +kernel
theorem xd_70_3 : xe_dck cX5_cell (16 * 3) xt_70_3 = true := by decide +kernel
theorem xk_70 : xOK xMT xCLs xWS xNS 70 := xOK_of [740, 747, 748] [] [[898, 899]] 966 68 ⟨xd_70_0, xd_70_1, xd_70_2, xd_70_3, trivial⟩ (by decide +kernel) rfl (by decide +kernel) (by decide +kernel) (by decide +kernel) (by decide +kernel) (by decide +kernel)
theorem xd_71_0 : xe_dck cX5_witness (16 * 0) xt_71_0 = true := by decide +kernel
theorem xd_71_1 : xe_dck cX5_witness (16 * 1) xt_71_1 = true := by decide +kernel
theorem xd_71_2 : xe_dck cX5_witness (16 * 2) xt_71_2 = true := by decide +kernel
theorem xd_71_3 : xe_dck cX5_witness (16 * 3) xt_71_3 = true := by decide +kernel
theorem xd_71_4 : xe_dck cX5_witness (16 * 4) xt_71_4 = true := by decide +kernel
theorem xd_71_5 : xe_dck cX5_witness (16 * 5) xt_71_5 = true := by decide +kernel
theorem xd_71_6 : xe_dck cX5_witness (16 * 6) xt_71_6 = true := by decide +kernel
theorem xk_71 : xOK xMT xCLs xWS xNS 71 := xOK_of [717, 733, 735, 736, 732, 737] [] [[889, 890], [892, 893], [928, 930, 38]] 970 68 ⟨xd_71_0, xd_71_1, xd_71_2, xd_71_3, xd_71_4, xd_71_5, xd_71_6, trivial⟩ (by decide +kernel) rfl (by decide +kernel) (by decide +kernel) (by decide +kernel) (by decide +kernel) (by decide +kernel)
theorem xd_72_0 : xe_dck cX5_goes (16 * 0) xt_72_0 = true := by decide +kernel
theorem xd_72_1 : xe_dck cX5_goes (16 * 1) xt_72_1 = true := by decide +kernel
theorem xd_72_2 : xe_dck cX5_goes (16 * 2) xt_72_2 = true := by decide +kernel
theorem xd_72_3 : xe_dck cX5_goes (16 * 3) xt_72_3 = true := by decide +kernel
theorem xd_72_4 : xe_dck cX5_goes (16 * 4) xt_72_4 = true := by decide +kernel
theorem xd_72_5 : xe_dck cX5_goes (16 * 5) xt_72_5 = true := by decide +kernel
theorem xd_72_6 : xe_dck cX5_goes (16 * 6) xt_72_6 = true := by decide +kernel
theorem xk_72 : xOK xMT xCLs xWS xNS 72 := xOK_of [756, 749, 750, 757, 751, 758] [] [] 995 68 ⟨xd_72_0, xd_72_1, xd_72_2, xd_72_3, xd_72_4, xd_72_5, xd_72_6, trivial⟩ (by decide +kernel) rfl (by decide +kernel) (by decide +kernel) (by decide +kernel) (by decide +kernel) (by decide +kernel)
theorem xd_73_0 : xe_dck cX5_begins (16 * 0) xt_73_0 = true := by decide +kernel
theorem xd_73_1 : xe_dck cX5_begins (16 * 1) xt_73_1 = true := by decide +kernel
theorem xd_73_2 : xe_dck cX5_begins (16 * 2) xt_73_2 = true := by decide +kernel
theorem xd_73_3 : xe_dck cX5_begins (16 * 3) xt_73_3 = true := by decide +kernel
theorem xd_73_4 : xe_dck cX5_begins (16 * 4) xt_73_4 = true := by decide +kernel
theorem xd_73_5 : xe_dck cX5_begins (16 * 5) xt_73_5 = true := by decide +kernel
theorem xk_73 : xOK xMT xCLs xWS xNS 73 := xOK_of [757, 758, 759, 760, 755] [983] [[992, 994, 48]] 991 68 ⟨xd_73_0, xd_73_1, xd_73_2, xd_73_3, xd_73_4, xd_73_5, trivial⟩ (by decide +kernel) rfl (by decide +kernel) (by decide +kernel) (by decide +kernel) (by decide +kernel) (by decide +kernel)
theorem xd_74_0 : xe_dck cX5_returns (16 * 0) xt_74_0 = true := by decide +kernel
theorem xd_74_1 : xe_dck cX5_returns (16 * 1) xt_74_1 = true := by decide +kernel
theorem xd_74_2 : xe_dck cX5_returns (16 * 2) xt_74_2 = true := by decide +kernel
theorem xd_74_3 : xe_dck cX5_returns (16 * 3) xt_74_3 = true := by decide +kernel
theorem xd_74_4 : xe_dck cX5_returns (16 * 4) xt_74_4 = true := by decide +kernel
theorem xd_74_5 : xe_dck cX5_returns (16 * 5) xt_74_5 = true := by decide +kernel
theorem xd_74_6 : xe_dck cX5_returns (16 * 6) xt_74_6 = true := by decide +kernel
theorem xk_74 : xOK xMT xCLs xWS xNS 74 := xOK_of [756, 752, 753, 757, 754, 758] [] [] 999 68 ⟨xd_74_0, xd_74_1, xd_74_2, xd_74_3, xd_74_4, xd_74_5, xd_74_6, trivial⟩ (by decide +kernel) rfl (by decide +kernel) (by decide +kernel) (by decide +kernel) (by decide +kernel) (by decide +kernel)
theorem xd_75_0 : xe_dck cX5_flows (16 * 0) xt_75_0 = true := by decide +kernel
theorem xd_75_1 : xe_dck cX5_flows (16 * 1) xt_75_1 = true := by decide +kernel
theorem xd_75_2 : xe_dck cX5_flows (16 * 2) xt_75_2 = true := by decide +kernel
theorem xd_75_3 : xe_dck cX5_flows (16 * 3) xt_75_3 = true := by decide +kernel
theorem xd_75_4 : xe_dck cX5_flows (16 * 4) xt_75_4 = true := by decide +kernel
theorem xd_75_5 : xe_dck cX5_flows (16 * 5) xt_75_5 = true := by decide +kernel
theorem xd_75_6 : xe_dck cX5_flows (16 * 6) xt_75_6 = true := by decide +kernel
theorem xd_75_7 : xe_dck cX5_flows (16 * 7) xt_75_7 = true := by decide +kernel
theorem xd_75_8 : xe_dck cX5_flows (16 * 8) xt_75_8 = true := by decide +kernel
theorem xd_75_9 : xe_dck cX5_flows (16 * 9) xt_75_9 = true := by decide +kernel
theorem xd_75_10 : xe_dck cX5_flows (16 * 10) xt_75_10 = true := by decide +kernel
theorem xd_75_11 : xe_dck cX5_flows (16 * 11) xt_75_11 = true := by decide +kernel
theorem xd_75_12 : xe_dck cX5_flows (16 * 12) xt_75_12 = true := by decide +kernel
theorem xd_75_13 : xe_dck cX5_flows (16 * 13) xt_75_13 = true := by decide +kernel
theorem xd_75_14 : xe_dck cX5_flows (16 * 14) xt_75_14 = true := by decide +kernel
theorem xd_75_15 : xe_dck cX5_flows (16 * 15) xt_75_15 = true := by decide +kernel
theorem xd_75_16 : xe_dck cX5_flows (16 * 16) xt_75_16 = true := by decide +kernel
theorem xk_75 : xOK xMT xCLs xWS xNS 75 := xOK_of [749, 750, 751, 752, 753, 754, 759, 760, 757, 758, 756, 717] [] [[988, 990, 47], [996, 998, 49], [992, 994, 48]] 987 68 ⟨xd_75_0, xd_75_1, xd_75_2, xd_75_3, xd_75_4, xd_75_5, xd_75_6, xd_75_7, xd_75_8, xd_75_9, xd_75_10, xd_75_11, xd_75_12, xd_75_13, xd_75_14, xd_75_15, xd_75_16, trivial⟩ (by decide +kernel) rfl (by decide +kernel) (by decide +kernel) (by decide +kernel) (by decide +kernel) (by decide +kernel)
theorem xd_76_0 : xe_dck cX5_has (16 * 0) xt_76_0 = true := by decide +kernel
theorem xk_76 : xOK xMT xCLs xWS xNS 76 := xOK_of [] [] [] 1013 68 ⟨xd_76_0, trivial⟩ (by decide +kernel) rfl (by decide +kernel) (by decide +kernel) (by decide +kernel) (by decide +kernel) (by decide +kernel)
theorem xd_77_0 : xe_dck cX5_badMany (16 * 0) xt_77_0 = true := by decide +kernel
theorem xd_77_1 : xe_dck cX5_badMany (16 * 1) xt_77_1 = true := by decide +kernel
theorem xd_77_2 : xe_dck cX5_badMany (16 * 2) xt_77_2 = true := by decide +kernel
theorem xd_77_3 : xe_dck cX5_badMany (16 * 3) xt_77_3 = true := by decide +kernel
theorem xk_77 : xOK xMT xCLs xWS xNS 77 := xOK_of [717] [] [] 1017 68 ⟨xd_77_0, xd_77_1, xd_77_2, xd_77_3, trivial⟩ (by decide +kernel) rfl (by decide +kernel) (by decide +kernel) (by decide +kernel) (by decide +kernel) (by decide +kernel)
theorem xd_78_0 : xe_dck cX5_unmends (16 * 0) xt_78_0 = true := by decide +kernel
theorem xd_78_1 : xe_dck cX5_unmends (16 * 1) xt_78_1 = true := by decide +kernel
theorem xk_78 : xOK xMT xCLs xWS xNS 78 := xOK_of [755] [] [] 982 68 ⟨xd_78_0, xd_78_1, trivial⟩ (by decide +kernel) rfl (by decide +kernel) (by decide +kernel) (by decide +kernel) (by decide +kernel) (by decide +kernel)
theorem xd_79_0 : xe_dck cX5_flowsPlain (16 * 0) xt_79_0 = true := by decide +kernel
theorem xk_79 : xOK xMT xCLs xWS xNS 79 := xOK_of [] [983] [[979, 981, 45], [984, 986, 46]] 978 68 ⟨xd_79_0, trivial⟩ (by decide +kernel) rfl (by decide +kernel) (by decide +kernel) (by decide +kernel) (by decide +kernel) (by decide +kernel)
theorem xd_80_0 : xe_dck cX5_flow (16 * 0) xt_80_0 = true := by decide +kernel
theorem xk_80 : xOK xMT xCLs xWS xNS 80 := xOK_of [] [] [[975, 977, 44], [1014, 1016, 52]] 974 68 ⟨xd_80_0, trivial⟩ (by decide +kernel) rfl (by decide +kernel) (by decide +kernel) (by decide +kernel) (by decide +kernel) (by decide +kernel)
theorem xd_81_0 : xe_dck cX5_bad (16 * 0) xt_81_0 = true := by decide +kernel
theorem xd_81_1 : xe_dck cX5_bad (16 * 1) xt_81_1 = true := by decide +kernel
theorem xd_81_2 : xe_dck cX5_bad (16 * 2) xt_81_2 = true := by decide +kernel
theorem xd_81_3 : xe_dck cX5_bad (16 * 3) xt_81_3 = true := by decide +kernel
theorem xd_81_4 : xe_dck cX5_bad (16 * 4) xt_81_4 = true := by decide +kernel
theorem xd_81_5 : xe_dck cX5_bad (16 * 5) xt_81_5 = true := by decide +kernel
theorem xd_81_6 : xe_dck cX5_bad (16 * 6) xt_81_6 = true := by decide +kernel
theorem xd_81_7 : xe_dck cX5_bad (16 * 7) xt_81_7 = true := by decide +kernel
theorem xd_81_8 : xe_dck cX5_bad (16 * 8) xt_81_8 = true := by decide +kernel
theorem xd_81_9 : xe_dck cX5_bad (16 * 9) xt_81_9 = true := by decide +kernel
theorem xk_81 : xOK xMT xCLs xWS xNS 81 := xOK_of [717, 750] [] [[975, 977, 44], [1011, 1012]] 1029 68 ⟨xd_81_0, xd_81_1, xd_81_2, xd_81_3, xd_81_4, xd_81_5, xd_81_6, xd_81_7, xd_81_8, xd_81_9, trivial⟩ (by decide +kernel) rfl (by decide +kernel) (by decide +kernel) (by decide +kernel) (by decide +kernel) (by decide +kernel)
theorem xd_82_0 : xe_dck cX5_state (16 * 0) xt_82_0 = true := by decide +kernel
theorem xd_82_1 : xe_dck cX5_state (16 * 1) xt_82_1 = true := by decide +kernel
theorem xd_82_2 : xe_dck cX5_state (16 * 2) xt_82_2 = true := by decide +kernel
theorem xd_82_3 : xe_dck cX5_state (16 * 3) xt_82_3 = true := by decide +kernel
theorem xd_82_4 : xe_dck cX5_state (16 * 4) xt_82_4 = true := by decide +kernel
theorem xd_82_5 : xe_dck cX5_state (16 * 5) xt_82_5 = true := by decide +kernel
theorem xd_82_6 : xe_dck cX5_state (16 * 6) xt_82_6 = true := by decide +kernel
theorem xk_82 : xOK xMT xCLs xWS xNS 82 := xOK_of [717, 749, 750, 751] [] [[889, 890], [892, 893], [898, 899], [975, 977, 44], [1011, 1012]] 1033 68 ⟨xd_82_0, xd_82_1, xd_82_2, xd_82_3, xd_82_4, xd_82_5, xd_82_6, trivial⟩ (by decide +kernel) rfl (by decide +kernel) (by decide +kernel) (by decide +kernel) (by decide +kernel) (by decide +kernel)
theorem xd_83_0 : xe_dck cX5_needs (16 * 0) xt_83_0 = true := by decide +kernel
theorem xd_83_1 : xe_dck cX5_needs (16 * 1) xt_83_1 = true := by decide +kernel
theorem xd_83_2 : xe_dck cX5_needs (16 * 2) xt_83_2 = true := by decide +kernel
theorem xd_83_3 : xe_dck cX5_needs (16 * 3) xt_83_3 = true := by decide +kernel
theorem xd_83_4 : xe_dck cX5_needs (16 * 4) xt_83_4 = true := by decide +kernel
theorem xd_83_5 : xe_dck cX5_needs (16 * 5) xt_83_5 = true := by decide +kernel
theorem xd_83_6 : xe_dck cX5_needs (16 * 6) xt_83_6 = true := by decide +kernel
theorem xd_83_7 : xe_dck cX5_needs (16 * 7) xt_83_7 = true := by decide +kernel
theorem xd_83_8 : xe_dck cX5_needs (16 * 8) xt_83_8 = true := by decide +kernel
theorem xd_83_9 : xe_dck cX5_needs (16 * 9) xt_83_9 = true := by decide +kernel
theorem xd_83_10 : xe_dck cX5_needs (16 * 10) xt_83_10 = true := by decide +kernel
theorem xd_83_11 : xe_dck cX5_needs (16 * 11) xt_83_11 = true := by decide +kernel
theorem xd_83_12 : xe_dck cX5_needs (16 * 12) xt_83_12 = true := by decide +kernel
theorem xk_83 : xOK xMT xCLs xWS xNS 83 := xOK_of [717, 761] [983] [[889, 890], [979, 981, 45], [984, 986, 46]] 1037 68 ⟨xd_83_0, xd_83_1, xd_83_2, xd_83_3, xd_83_4, xd_83_5, xd_83_6, xd_83_7, xd_83_8, xd_83_9, xd_83_10, xd_83_11, xd_83_12, trivial⟩ (by decide +kernel) rfl (by decide +kernel) (by decide +kernel) (by decide +kernel) (by decide +kernel) (by decide +kernel)
theorem xd_84_0 : xe_dck cX5_writes (16 * 0) xt_84_0 = true := by decide +kernel
theorem xd_84_1 : xe_dck cX5_writes (16 * 1) xt_84_1 = true := by decide +kernel
theorem xd_84_2 : xe_dck cX5_writes (16 * 2) xt_84_2 = true := by decide +kernel
theorem xd_84_3 : xe_dck cX5_writes (16 * 3) xt_84_3 = true := by decide +kernel
theorem xk_84 : xOK xMT xCLs xWS xNS 84 := xOK_of [752, 753, 754] [983] [[889, 890], [979, 981, 45], [984, 986, 46]] 1045 68 ⟨xd_84_0, xd_84_1, xd_84_2, xd_84_3, trivial⟩ (by decide +kernel) rfl (by decide +kernel) (by decide +kernel) (by decide +kernel) (by decide +kernel) (by decide +kernel)
theorem xd_85_0 : xe_dck cX5_cost (16 * 0) xt_85_0 = true := by decide +kernel
theorem xd_85_1 : xe_dck cX5_cost (16 * 1) xt_85_1 = true := by decide +kernel
theorem xd_85_2 : xe_dck cX5_cost (16 * 2) xt_85_2 = true := by decide +kernel
theorem xk_85 : xOK xMT xCLs xWS xNS 85 := xOK_of [718] [] [[889, 890], [892, 893]] 1049 68 ⟨xd_85_0, xd_85_1, xd_85_2, trivial⟩ (by decide +kernel) rfl (by decide +kernel) (by decide +kernel) (by decide +kernel) (by decide +kernel) (by decide +kernel)
theorem xd_86_0 : xe_dck cX5_mend (16 * 0) xt_86_0 = true := by decide +kernel
theorem xd_86_1 : xe_dck cX5_mend (16 * 1) xt_86_1 = true := by decide +kernel
theorem xd_86_2 : xe_dck cX5_mend (16 * 2) xt_86_2 = true := by decide +kernel
theorem xd_86_3 : xe_dck cX5_mend (16 * 3) xt_86_3 = true := by decide +kernel
theorem xd_86_4 : xe_dck cX5_mend (16 * 4) xt_86_4 = true := by decide +kernel
theorem xd_86_5 : xe_dck cX5_mend (16 * 5) xt_86_5 = true := by decide +kernel
theorem xd_86_6 : xe_dck cX5_mend (16 * 6) xt_86_6 = true := by decide +kernel
theorem xd_86_7 : xe_dck cX5_mend (16 * 7) xt_86_7 = true := by decide +kernel
theorem xd_86_8 : xe_dck cX5_mend (16 * 8) xt_86_8 = true := by decide +kernel
theorem xd_86_9 : xe_dck cX5_mend (16 * 9) xt_86_9 = true := by decide +kernel
theorem xd_86_10 : xe_dck cX5_mend (16 * 10) xt_86_10 = true := by decide +kernel
theorem xd_86_11 : xe_dck cX5_mend (16 * 11) xt_86_11 = true := by decide +kernel
theorem xd_86_12 : xe_dck cX5_mend (16 * 12) xt_86_12 = true := by decide +kernel
theorem xd_86_13 : xe_dck cX5_mend (16 * 13) xt_86_13 = true := by decide +kernel
theorem xd_86_14 : xe_dck cX5_mend (16 * 14) xt_86_14 = true := by decide +kernel
theorem xd_86_15 : xe_dck cX5_mend (16 * 15) xt_86_15 = true := by decide +kernel
theorem xd_86_16 : xe_dck cX5_mend (16 * 16) xt_86_16 = true := by decide +kernel
theorem xk_86 : xOK xMT xCLs xWS xNS 86 := xOK_of [762, 718, 763, 755, 764, 768, 721, 769, 770, 771] [1074, 983] [[975, 977, 44], [1014, 1016, 52], [979, 981, 45], [984, 986, 46]] 1053 68 ⟨xd_86_0, xd_86_1, xd_86_2, xd_86_3, xd_86_4, xd_86_5, xd_86_6, xd_86_7, xd_86_8, xd_86_9, xd_86_10, xd_86_11, xd_86_12, xd_86_13, xd_86_14, xd_86_15, xd_86_16, trivial⟩ (by decide +kernel) rfl (by decide +kernel) (by decide +kernel) (by decide +kernel) (by decide +kernel) (by decide +kernel)
theorem xd_87_0 : xe_dck cX5_mended (16 * 0) xt_87_0 = true := by decide +kernel
theorem xd_87_1 : xe_dck cX5_mended (16 * 1) xt_87_1 = true := by decide +kernel
theorem xd_87_2 : xe_dck cX5_mended (16 * 2) xt_87_2 = true := by decide +kernel
theorem xd_87_3 : xe_dck cX5_mended (16 * 3) xt_87_3 = true := by decide +kernel
theorem xk_87 : xOK xMT xCLs xWS xNS 87 := xOK_of [768, 769, 770, 771] [] [[892, 893]] 1078 68 ⟨xd_87_0, xd_87_1, xd_87_2, xd_87_3, trivial⟩ (by decide +kernel) rfl (by decide +kernel) (by decide +kernel) (by decide +kernel) (by decide +kernel) (by decide +kernel)
theorem xd_88_0 : xe_dck cX5_apply (16 * 0) xt_88_0 = true := by decide +kernel
theorem xd_88_1 : xe_dck cX5_apply (16 * 1) xt_88_1 = true := by decide +kernel
theorem xd_88_2 : xe_dck cX5_apply (16 * 2) xt_88_2 = true := by decide +kernel
theorem xd_88_3 : xe_dck cX5_apply (16 * 3) xt_88_3 = true := by decide +kernel
theorem xd_88_4 : xe_dck cX5_apply (16 * 4) xt_88_4 = true := by decide +kernel
theorem xd_88_5 : xe_dck cX5_apply (16 * 5) xt_88_5 = true := by decide +kernel
theorem xd_88_6 : xe_dck cX5_apply (16 * 6) xt_88_6 = true := by decide +kernel
theorem xd_88_7 : xe_dck cX5_apply (16 * 7) xt_88_7 = true := by decide +kernel
theorem xd_88_8 : xe_dck cX5_apply (16 * 8) xt_88_8 = true := by decide +kernel
theorem xd_88_9 : xe_dck cX5_apply (16 * 9) xt_88_9 = true := by decide +kernel
theorem xd_88_10 : xe_dck cX5_apply (16 * 10) xt_88_10 = true := by decide +kernel
theorem xd_88_11 : xe_dck cX5_apply (16 * 11) xt_88_11 = true := by decide +kernel
theorem xd_88_12 : xe_dck cX5_apply (16 * 12) xt_88_12 = true := by decide +kernel
theorem xd_88_13 : xe_dck cX5_apply (16 * 13) xt_88_13 = true := by decide +kernel
theorem xd_88_14 : xe_dck cX5_apply (16 * 14) xt_88_14 = true := by decide +kernel
theorem xd_88_15 : xe_dck cX5_apply (16 * 15) xt_88_15 = true := by decide +kernel
theorem xd_88_16 : xe_dck cX5_apply (16 * 16) xt_88_16 = true := by decide +kernel
theorem xd_88_17 : xe_dck cX5_apply (16 * 17) xt_88_17 = true := by decide +kernel
theorem xk_88 : xOK xMT xCLs xWS xNS 88 := xOK_of [768, 769, 721, 717, 770, 716, 771] [] [[904, 906, 37]] 1082 68 ⟨xd_88_0, xd_88_1, xd_88_2, xd_88_3, xd_88_4, xd_88_5, xd_88_6, xd_88_7, xd_88_8, xd_88_9, xd_88_10, xd_88_11, xd_88_12, xd_88_13, xd_88_14, xd_88_15, xd_88_16, xd_88_17, trivial⟩ (by decide +kernel) rfl (by decide +kernel) (by decide +kernel) (by decide +kernel) (by decide +kernel) (by decide +kernel)
theorem xd_89_0 : xe_dck cX5_count (16 * 0) xt_89_0 = true := by decide +kernel
theorem xd_89_1 : xe_dck cX5_count (16 * 1) xt_89_1 = true := by decide +kernel
theorem xd_89_2 : xe_dck cX5_count (16 * 2) xt_89_2 = true := by decide +kernel
theorem xd_89_3 : xe_dck cX5_count (16 * 3) xt_89_3 = true := by decide +kernel
theorem xk_89 : xOK xMT xCLs xWS xNS 89 := xOK_of [720, 717, 718] [] [[892, 893]] 1090 68 ⟨xd_89_0, xd_89_1, xd_89_2, xd_89_3, trivial⟩ (by decide +kernel) rfl (by decide +kernel) (by decide +kernel) (by decide +kernel) (by decide +kernel) (by decide +kernel)
theorem xOK_congr {M : Nat → xM} {CL : List vw_C} {WS : List Cond} {ns : xN} {k j : Nat} (h : M k = M j) (hj : xOK M CL WS ns j) : xOK M CL WS ns k := by
  unfold xOK at hj ⊢
  rw [h]
  exact hj
theorem xk_out {k : Nat} (h : 90 ≤ k) : xMT k = xMT 0 := by
  rcases Nat.lt_or_ge k 96 with h2 | h2
  · rcases (show k = 90 ∨ k = 91 ∨ k = 92 ∨ k = 93 ∨ k = 94 ∨ k = 95 by omega) with rfl | rfl | rfl | rfl | rfl | rfl <;> rfl
  · have e : xe_nth xml (k / 16) = none := by rw [xe_nth_eq]; exact List.getElem?_eq_none (by show 6 ≤ k / 16; omega)
    unfold xMT
    rw [e]
    rfl
theorem xk_all : ∀ k : Nat, xOK xMT xCLs xWS xNS k
  | 0 => xk_0
  | 1 => xk_1
  | 2 => xk_2
  | 3 => xk_3
  | 4 => xk_4
  | 5 => xk_5
  | 6 => xk_6
  | 7 => xk_7
  | 8 => xk_8
  | 9 => xk_9
  | 10 => xk_10
  | 11 => xk_11
  | 12 => xk_12
  | 13 => xk_13
  | 14 => xk_14
  | 15 => xk_15
  | 16 => xk_16
  | 17 => xk_17
  | 18 => xk_18
  | 19 => xk_19
  | 20 => xk_20
  | 21 => xk_21
  | 22 => xk_22
  | 23 => xk_23
  | 24 => xk_24
  | 25 => xk_25
  | 26 => xk_26
  | 27 => xk_27
  | 28 => xk_28
  | 29 => xk_29
  | 30 => xk_30
  | 31 => xk_31
  | 32 => xk_32
  | 33 => xk_33
  | 34 => xk_34
  | 35 => xk_35
  | 36 => xk_36
  | 37 => xk_37
  | 38 => xk_38
  | 39 => xk_39
  | 40 => xk_40
  | 41 => xk_41
  | 42 => xk_42
  | 43 => xk_43
  | 44 => xk_44
  | 45 => xk_45
  | 46 => xk_46
  | 47 => xk_47
  | 48 => xk_48
  | 49 => xk_49
  | 50 => xk_50
  | 51 => xk_51
  | 52 => xk_52
  | 53 => xk_53
  | 54 => xk_54
  | 55 => xk_55
  | 56 => xk_56
  | 57 => xk_57
  | 58 => xk_58
  | 59 => xk_59
  | 60 => xk_60
  | 61 => xk_61
  | 62 => xk_62
  | 63 => xk_63
  | 64 => xk_64
  | 65 => xk_65
  | 66 => xk_66
  | 67 => xk_67
  | 68 => xk_68
  | 69 => xk_69
  | 70 => xk_70
  | 71 => xk_71
  | 72 => xk_72
  | 73 => xk_73
  | 74 => xk_74
  | 75 => xk_75
  | 76 => xk_76
  | 77 => xk_77
  | 78 => xk_78
  | 79 => xk_79
  | 80 => xk_80
  | 81 => xk_81
  | 82 => xk_82
  | 83 => xk_83
  | 84 => xk_84
  | 85 => xk_85
  | 86 => xk_86
  | 87 => xk_87
  | 88 => xk_88
  | 89 => xk_89
  | n + 90 => xOK_congr (xk_out (Nat.le_add_left 90 n)) xk_0
theorem xq_0 : xe_all2 (fun u n => xe_wd n u) (u_ws RX0 TX0 14) [213, 215, 217, 219, 221, 223, 225, 227, 229, 231, 233, 235, 237, 239] = true := by decide +kernel
theorem xq_1 : xe_all2 (fun u n => xe_wd n u) (u_ws RX1 TX1 13) [265, 267, 269, 271, 273, 275, 277, 279, 281, 283, 285, 287, 289] = true := by decide +kernel
theorem xq_2 : xe_all2 (fun u n => xe_wd n u) (u_ws RX2 TX2 6) [104, 106, 108, 110, 112, 114] = true := by decide +kernel
theorem xq_3 : xe_all2 (fun u n => xe_wd n u) (u_ws RX3 TX3 18) [152, 154, 156, 158, 160, 162, 164, 166, 168, 170, 172, 174, 176, 178, 180, 182, 184, 186] = true := by decide +kernel
theorem xq_4 : xe_all2 (fun u n => xe_wd n u) (u_ws RX4 TX4 15) [307, 309, 311, 313, 315, 317, 319, 321, 323, 325, 327, 329, 331, 333, 335] = true := by decide +kernel
theorem xq_5 : xe_all2 (fun u n => xe_wd n u) (u_ws RX5 TX5 56) [772, 774, 776, 778, 780, 782, 784, 786, 788, 790, 792, 794, 796, 798, 800, 802, 804, 806, 808, 810, 812, 814, 816, 818, 820, 822, 824, 826, 828, 830, 832, 834, 836, 838, 840, 842, 844, 846, 848, 850, 852, 854, 856, 858, 860, 862, 864, 866, 868, 870, 872, 874, 876, 878, 880, 882] = true := by decide +kernel
theorem xq_all : xCL xCLs xWS := by
  intro ci C T N h
  match ci, h with
  | 0, h => cases h; exact ⟨fun u hu => (xe_all2_mem xq_0 u hu).elim fun _ h => xe_wd_mem h, tyX0, tyX0_ok, nmX0⟩
  | 1, h => cases h; exact ⟨fun u hu => (xe_all2_mem xq_1 u hu).elim fun _ h => xe_wd_mem h, tyX1, tyX1_ok, nmX1⟩
  | 2, h => cases h; exact ⟨fun u hu => (xe_all2_mem xq_2 u hu).elim fun _ h => xe_wd_mem h, tyX2, tyX2_ok, nmX2⟩
  | 3, h => cases h; exact ⟨fun u hu => (xe_all2_mem xq_3 u hu).elim fun _ h => xe_wd_mem h, tyX3, tyX3_ok, nmX3⟩
  | 4, h => cases h; exact ⟨fun u hu => (xe_all2_mem xq_4 u hu).elim fun _ h => xe_wd_mem h, tyX4, tyX4_ok, nmX4⟩
  | 5, h => cases h; exact ⟨fun u hu => (xe_all2_mem xq_5 u hu).elim fun _ h => xe_wd_mem h, tyX5, tyX5_ok, nmX5⟩
  | n + 6, h => simp [xCLs] at h
