/-! THE CHECKS of the tables -/
theorem xd_0_0 : xe_dck cX0_takePlain (16 * 0) xt_0_0 = true := by decide +kernel
theorem xd_0_1 : xe_dck cX0_takePlain (16 * 1) xt_0_1 = true := by decide +kernel
theorem xd_0_2 : xe_dck cX0_takePlain (16 * 2) xt_0_2 = true := by decide +kernel
theorem xk_0 : xOK xMT xCLs xWS xNS 0 := xOK_of [212, 210, 211] [] [] 602 66 ⟨xd_0_0, xd_0_1, xd_0_2, trivial⟩ (by decide +kernel) rfl (by decide +kernel) (by decide +kernel) (by decide +kernel) (by decide +kernel) (by decide +kernel)
theorem xd_1_0 : xe_dck cX0_setAtBegin (16 * 0) xt_1_0 = true := by decide +kernel
theorem xk_1 : xOK xMT xCLs xWS xNS 1 := xOK_of [210] [] [] 654 66 ⟨xd_1_0, trivial⟩ (by decide +kernel) rfl (by decide +kernel) (by decide +kernel) (by decide +kernel) (by decide +kernel) (by decide +kernel)
theorem xd_2_0 : xe_dck cX0_unsetAtBegin (16 * 0) xt_2_0 = true := by decide +kernel
theorem xd_2_1 : xe_dck cX0_unsetAtBegin (16 * 1) xt_2_1 = true := by decide +kernel
theorem xk_2 : xOK xMT xCLs xWS xNS 2 := xOK_of [211, 212] [] [] 636 66 ⟨xd_2_0, xd_2_1, trivial⟩ (by decide +kernel) rfl (by decide +kernel) (by decide +kernel) (by decide +kernel) (by decide +kernel) (by decide +kernel)
theorem xd_3_0 : xe_dck cX0_follow (16 * 0) xt_3_0 = true := by decide +kernel
theorem xd_3_1 : xe_dck cX0_follow (16 * 1) xt_3_1 = true := by decide +kernel
theorem xd_3_2 : xe_dck cX0_follow (16 * 2) xt_3_2 = true := by decide +kernel
theorem xd_3_3 : xe_dck cX0_follow (16 * 3) xt_3_3 = true := by decide +kernel
theorem xd_3_4 : xe_dck cX0_follow (16 * 4) xt_3_4 = true := by decide +kernel
theorem xd_3_5 : xe_dck cX0_follow (16 * 5) xt_3_5 = true := by decide +kernel
theorem xd_3_6 : xe_dck cX0_follow (16 * 6) xt_3_6 = true := by decide +kernel
theorem xk_3 : xOK xMT xCLs xWS xNS 3 := xOK_of [199, 195, 88, 198] [502, 511] [[498, 500, 14], [503, 505, 15], [512, 514, 17]] 497 66 ⟨xd_3_0, xd_3_1, xd_3_2, xd_3_3, xd_3_4, xd_3_5, xd_3_6, trivial⟩ (by decide +kernel) rfl (by decide +kernel) (by decide +kernel) (by decide +kernel) (by decide +kernel) (by decide +kernel)
theorem xd_4_0 : xe_dck cX0_mayBe (16 * 0) xt_4_0 = true := by decide +kernel
theorem xd_4_1 : xe_dck cX0_mayBe (16 * 1) xt_4_1 = true := by decide +kernel
theorem xd_4_2 : xe_dck cX0_mayBe (16 * 2) xt_4_2 = true := by decide +kernel
theorem xk_4 : xOK xMT xCLs xWS xNS 4 := xOK_of [196, 197] [] [[413]] 581 66 ⟨xd_4_0, xd_4_1, xd_4_2, trivial⟩ (by decide +kernel) rfl (by decide +kernel) (by decide +kernel) (by decide +kernel) (by decide +kernel) (by decide +kernel)
theorem xd_5_0 : xe_dck cX0_kind (16 * 0) xt_5_0 = true := by decide +kernel
theorem xd_5_1 : xe_dck cX0_kind (16 * 1) xt_5_1 = true := by decide +kernel
theorem xd_5_2 : xe_dck cX0_kind (16 * 2) xt_5_2 = true := by decide +kernel
theorem xd_5_3 : xe_dck cX0_kind (16 * 3) xt_5_3 = true := by decide +kernel
theorem xk_5 : xOK xMT xCLs xWS xNS 5 := xOK_of [195, 197, 196] [] [[359], [563, 409, 410], [413]] 562 66 ⟨xd_5_0, xd_5_1, xd_5_2, xd_5_3, trivial⟩ (by decide +kernel) rfl (by decide +kernel) (by decide +kernel) (by decide +kernel) (by decide +kernel) (by decide +kernel)
theorem xd_6_0 : xe_dck cX0_badUses (16 * 0) xt_6_0 = true := by decide +kernel
theorem xd_6_1 : xe_dck cX0_badUses (16 * 1) xt_6_1 = true := by decide +kernel
theorem xd_6_2 : xe_dck cX0_badUses (16 * 2) xt_6_2 = true := by decide +kernel
theorem xd_6_3 : xe_dck cX0_badUses (16 * 3) xt_6_3 = true := by decide +kernel
theorem xk_6 : xOK xMT xCLs xWS xNS 6 := xOK_of [195, 88] [] [[559, 560, 561]] 558 66 ⟨xd_6_0, xd_6_1, xd_6_2, xd_6_3, trivial⟩ (by decide +kernel) rfl (by decide +kernel) (by decide +kernel) (by decide +kernel) (by decide +kernel) (by decide +kernel)
theorem xd_7_0 : xe_dck cX0_badUseAt (16 * 0) xt_7_0 = true := by decide +kernel
theorem xd_7_1 : xe_dck cX0_badUseAt (16 * 1) xt_7_1 = true := by decide +kernel
theorem xd_7_2 : xe_dck cX0_badUseAt (16 * 2) xt_7_2 = true := by decide +kernel
theorem xd_7_3 : xe_dck cX0_badUseAt (16 * 3) xt_7_3 = true := by decide +kernel
theorem xd_7_4 : xe_dck cX0_badUseAt (16 * 4) xt_7_4 = true := by decide +kernel
theorem xk_7 : xOK xMT xCLs xWS xNS 7 := xOK_of [195, 88] [] [[559, 560, 561], [359]] 571 66 ⟨xd_7_0, xd_7_1, xd_7_2, xd_7_3, xd_7_4, trivial⟩ (by decide +kernel) rfl (by decide +kernel) (by decide +kernel) (by decide +kernel) (by decide +kernel) (by decide +kernel)
theorem xd_8_0 : xe_dck cX0_tellKinds (16 * 0) xt_8_0 = true := by decide +kernel
theorem xd_8_1 : xe_dck cX0_tellKinds (16 * 1) xt_8_1 = true := by decide +kernel
theorem xd_8_2 : xe_dck cX0_tellKinds (16 * 2) xt_8_2 = true := by decide +kernel
theorem xd_8_3 : xe_dck cX0_tellKinds (16 * 3) xt_8_3 = true := by decide +kernel
theorem xk_8 : xOK xMT xCLs xWS xNS 8 := xOK_of [195, 88] [] [[359], [559, 560, 561]] 606 66 ⟨xd_8_0, xd_8_1, xd_8_2, xd_8_3, trivial⟩ (by decide +kernel) rfl (by decide +kernel) (by decide +kernel) (by decide +kernel) (by decide +kernel) (by decide +kernel)
theorem xd_9_0 : xe_dck cX0_hasKinds (16 * 0) xt_9_0 = true := by decide +kernel
theorem xd_9_1 : xe_dck cX0_hasKinds (16 * 1) xt_9_1 = true := by decide +kernel
theorem xd_9_2 : xe_dck cX0_hasKinds (16 * 2) xt_9_2 = true := by decide +kernel
theorem xd_9_3 : xe_dck cX0_hasKinds (16 * 3) xt_9_3 = true := by decide +kernel
theorem xk_9 : xOK xMT xCLs xWS xNS 9 := xOK_of [195, 88] [] [[359], [559, 560, 561]] 610 66 ⟨xd_9_0, xd_9_1, xd_9_2, xd_9_3, trivial⟩ (by decide +kernel) rfl (by decide +kernel) (by decide +kernel) (by decide +kernel) (by decide +kernel) (by decide +kernel)
theorem xd_10_0 : xe_dck cX0_forget (16 * 0) xt_10_0 = true := by decide +kernel
theorem xd_10_1 : xe_dck cX0_forget (16 * 1) xt_10_1 = true := by decide +kernel
theorem xd_10_2 : xe_dck cX0_forget (16 * 2) xt_10_2 = true := by decide +kernel
theorem xd_10_3 : xe_dck cX0_forget (16 * 3) xt_10_3 = true := by decide +kernel
theorem xd_10_4 : xe_dck cX0_forget (16 * 4) xt_10_4 = true := by decide +kernel
theorem xd_10_5 : xe_dck cX0_forget (16 * 5) xt_10_5 = true := by decide +kernel
theorem xk_10 : xOK xMT xCLs xWS xNS 10 := xOK_of [196, 197, 198, 202, 204, 206, 208, 199] [] [] 501 66 ⟨xd_10_0, xd_10_1, xd_10_2, xd_10_3, xd_10_4, xd_10_5, trivial⟩ (by decide +kernel) rfl (by decide +kernel) (by decide +kernel) (by decide +kernel) (by decide +kernel) (by decide +kernel)
theorem xd_11_0 : xe_dck cX0_come (16 * 0) xt_11_0 = true := by decide +kernel
theorem xd_11_1 : xe_dck cX0_come (16 * 1) xt_11_1 = true := by decide +kernel
theorem xd_11_2 : xe_dck cX0_come (16 * 2) xt_11_2 = true := by decide +kernel
theorem xd_11_3 : xe_dck cX0_come (16 * 3) xt_11_3 = true := by decide +kernel
theorem xk_11 : xOK xMT xCLs xWS xNS 11 := xOK_of [202, 204, 210, 211] [] [[507, 509, 16]] 506 66 ⟨xd_11_0, xd_11_1, xd_11_2, xd_11_3, trivial⟩ (by decide +kernel) rfl (by decide +kernel) (by decide +kernel) (by decide +kernel) (by decide +kernel) (by decide +kernel)
theorem xd_12_0 : xe_dck cX0_join (16 * 0) xt_12_0 = true := by decide +kernel
theorem xd_12_1 : xe_dck cX0_join (16 * 1) xt_12_1 = true := by decide +kernel
theorem xd_12_2 : xe_dck cX0_join (16 * 2) xt_12_2 = true := by decide +kernel
theorem xd_12_3 : xe_dck cX0_join (16 * 3) xt_12_3 = true := by decide +kernel
theorem xd_12_4 : xe_dck cX0_join (16 * 4) xt_12_4 = true := by decide +kernel
theorem xd_12_5 : xe_dck cX0_join (16 * 5) xt_12_5 = true := by decide +kernel
theorem xd_12_6 : xe_dck cX0_join (16 * 6) xt_12_6 = true := by decide +kernel
theorem xk_12 : xOK xMT xCLs xWS xNS 12 := xOK_of [195, 88, 196, 197, 198, 199] [] [] 510 66 ⟨xd_12_0, xd_12_1, xd_12_2, xd_12_3, xd_12_4, xd_12_5, xd_12_6, trivial⟩ (by decide +kernel) rfl (by decide +kernel) (by decide +kernel) (by decide +kernel) (by decide +kernel) (by decide +kernel)
theorem xd_13_0 : xe_dck cX0_takeOn (16 * 0) xt_13_0 = true := by decide +kernel
theorem xd_13_1 : xe_dck cX0_takeOn (16 * 1) xt_13_1 = true := by decide +kernel
theorem xd_13_2 : xe_dck cX0_takeOn (16 * 2) xt_13_2 = true := by decide +kernel
theorem xd_13_3 : xe_dck cX0_takeOn (16 * 3) xt_13_3 = true := by decide +kernel
theorem xd_13_4 : xe_dck cX0_takeOn (16 * 4) xt_13_4 = true := by decide +kernel
theorem xd_13_5 : xe_dck cX0_takeOn (16 * 5) xt_13_5 = true := by decide +kernel
theorem xd_13_6 : xe_dck cX0_takeOn (16 * 6) xt_13_6 = true := by decide +kernel
theorem xd_13_7 : xe_dck cX0_takeOn (16 * 7) xt_13_7 = true := by decide +kernel
theorem xd_13_8 : xe_dck cX0_takeOn (16 * 8) xt_13_8 = true := by decide +kernel
theorem xd_13_9 : xe_dck cX0_takeOn (16 * 9) xt_13_9 = true := by decide +kernel
theorem xd_13_10 : xe_dck cX0_takeOn (16 * 10) xt_13_10 = true := by decide +kernel
theorem xd_13_11 : xe_dck cX0_takeOn (16 * 11) xt_13_11 = true := by decide +kernel
theorem xd_13_12 : xe_dck cX0_takeOn (16 * 12) xt_13_12 = true := by decide +kernel
theorem xd_13_13 : xe_dck cX0_takeOn (16 * 13) xt_13_13 = true := by decide +kernel
theorem xd_13_14 : xe_dck cX0_takeOn (16 * 14) xt_13_14 = true := by decide +kernel
theorem xd_13_15 : xe_dck cX0_takeOn (16 * 15) xt_13_15 = true := by decide +kernel
theorem xk_13 : xOK xMT xCLs xWS xNS 13 := xOK_of [198, 196, 197, 195, 88, 91, 97, 94, 206, 208, 200, 201] [] [[359], [517, 519, 18], [507, 509, 16], [503, 505, 15], [525, 527, 20]] 515 66 ⟨xd_13_0, xd_13_1, xd_13_2, xd_13_3, xd_13_4, xd_13_5, xd_13_6, xd_13_7, xd_13_8, xd_13_9, xd_13_10, xd_13_11, xd_13_12, xd_13_13, xd_13_14, xd_13_15, trivial⟩ (by decide +kernel) rfl (by decide +kernel) (by decide +kernel) (by decide +kernel) (by decide +kernel) (by decide +kernel)
theorem xd_14_0 : xe_dck cX0_leave (16 * 0) xt_14_0 = true := by decide +kernel
theorem xd_14_1 : xe_dck cX0_leave (16 * 1) xt_14_1 = true := by decide +kernel
theorem xd_14_2 : xe_dck cX0_leave (16 * 2) xt_14_2 = true := by decide +kernel
theorem xd_14_3 : xe_dck cX0_leave (16 * 3) xt_14_3 = true := by decide +kernel
theorem xd_14_4 : xe_dck cX0_leave (16 * 4) xt_14_4 = true := by decide +kernel
theorem xd_14_5 : xe_dck cX0_leave (16 * 5) xt_14_5 = true := by decide +kernel
theorem xd_14_6 : xe_dck cX0_leave (16 * 6) xt_14_6 = true := by decide +kernel
theorem xd_14_7 : xe_dck cX0_leave (16 * 7) xt_14_7 = true := by decide +kernel
theorem xd_14_8 : xe_dck cX0_leave (16 * 8) xt_14_8 = true := by decide +kernel
theorem xd_14_9 : xe_dck cX0_leave (16 * 9) xt_14_9 = true := by decide +kernel
theorem xk_14 : xOK xMT xCLs xWS xNS 14 := xOK_of [206, 208, 195, 88, 91, 94, 198, 199] [] [[359], [521, 523, 19]] 520 66 ⟨xd_14_0, xd_14_1, xd_14_2, xd_14_3, xd_14_4, xd_14_5, xd_14_6, xd_14_7, xd_14_8, xd_14_9, trivial⟩ (by decide +kernel) rfl (by decide +kernel) (by decide +kernel) (by decide +kernel) (by decide +kernel) (by decide +kernel)
theorem xd_15_0 : xe_dck cX0_isComeTo (16 * 0) xt_15_0 = true := by decide +kernel
theorem xd_15_1 : xe_dck cX0_isComeTo (16 * 1) xt_15_1 = true := by decide +kernel
theorem xk_15 : xOK xMT xCLs xWS xNS 15 := xOK_of [196, 197] [] [] 524 66 ⟨xd_15_0, xd_15_1, trivial⟩ (by decide +kernel) rfl (by decide +kernel) (by decide +kernel) (by decide +kernel) (by decide +kernel) (by decide +kernel)
theorem xd_16_0 : xe_dck cX0_fill (16 * 0) xt_16_0 = true := by decide +kernel
theorem xd_16_1 : xe_dck cX0_fill (16 * 1) xt_16_1 = true := by decide +kernel
theorem xd_16_2 : xe_dck cX0_fill (16 * 2) xt_16_2 = true := by decide +kernel
theorem xd_16_3 : xe_dck cX0_fill (16 * 3) xt_16_3 = true := by decide +kernel
theorem xd_16_4 : xe_dck cX0_fill (16 * 4) xt_16_4 = true := by decide +kernel
theorem xd_16_5 : xe_dck cX0_fill (16 * 5) xt_16_5 = true := by decide +kernel
theorem xd_16_6 : xe_dck cX0_fill (16 * 6) xt_16_6 = true := by decide +kernel
theorem xd_16_7 : xe_dck cX0_fill (16 * 7) xt_16_7 = true := by decide +kernel
theorem xd_16_8 : xe_dck cX0_fill (16 * 8) xt_16_8 = true := by decide +kernel
theorem xd_16_9 : xe_dck cX0_fill (16 * 9) xt_16_9 = true := by decide +kernel
theorem xd_16_10 : xe_dck cX0_fill (16 * 10) xt_16_10 = true := by decide +kernel
theorem xd_16_11 : xe_dck cX0_fill (16 * 11) xt_16_11 = true := by decide +kernel
theorem xk_16 : xOK xMT xCLs xWS xNS 16 := xOK_of [195, 94, 97, 91, 212, 100, 103] [] [[529, 531, 21], [536, 538, 22], [541, 543, 23], [547, 549, 24], [551, 553, 25]] 528 66 ⟨xd_16_0, xd_16_1, xd_16_2, xd_16_3, xd_16_4, xd_16_5, xd_16_6, xd_16_7, xd_16_8, xd_16_9, xd_16_10, xd_16_11, trivial⟩ (by decide +kernel) rfl (by decide +kernel) (by decide +kernel) (by decide +kernel) (by decide +kernel) (by decide +kernel)
theorem xd_17_0 : xe_dck cX0_fillRow (16 * 0) xt_17_0 = true := by decide +kernel
theorem xd_17_1 : xe_dck cX0_fillRow (16 * 1) xt_17_1 = true := by decide +kernel
theorem xd_17_2 : xe_dck cX0_fillRow (16 * 2) xt_17_2 = true := by decide +kernel
theorem xd_17_3 : xe_dck cX0_fillRow (16 * 3) xt_17_3 = true := by decide +kernel
theorem xk_17 : xOK xMT xCLs xWS xNS 17 := xOK_of [200, 201] [] [[534]] 532 66 ⟨xd_17_0, xd_17_1, xd_17_2, xd_17_3, trivial⟩ (by decide +kernel) rfl (by decide +kernel) (by decide +kernel) (by decide +kernel) (by decide +kernel) (by decide +kernel)
theorem xd_18_0 : xe_dck cX0_copyRow (16 * 0) xt_18_0 = true := by decide +kernel
theorem xd_18_1 : xe_dck cX0_copyRow (16 * 1) xt_18_1 = true := by decide +kernel
theorem xk_18 : xOK xMT xCLs xWS xNS 18 := xOK_of [200, 201] [] [[431]] 539 66 ⟨xd_18_0, xd_18_1, trivial⟩ (by decide +kernel) rfl (by decide +kernel) (by decide +kernel) (by decide +kernel) (by decide +kernel) (by decide +kernel)
theorem xd_19_0 : xe_dck cX0_add (16 * 0) xt_19_0 = true := by decide +kernel
theorem xd_19_1 : xe_dck cX0_add (16 * 1) xt_19_1 = true := by decide +kernel
theorem xd_19_2 : xe_dck cX0_add (16 * 2) xt_19_2 = true := by decide +kernel
theorem xd_19_3 : xe_dck cX0_add (16 * 3) xt_19_3 = true := by decide +kernel
theorem xd_19_4 : xe_dck cX0_add (16 * 4) xt_19_4 = true := by decide +kernel
theorem xd_19_5 : xe_dck cX0_add (16 * 5) xt_19_5 = true := by decide +kernel
theorem xk_19 : xOK xMT xCLs xWS xNS 19 := xOK_of [200, 201] [] [[413], [450]] 544 66 ⟨xd_19_0, xd_19_1, xd_19_2, xd_19_3, xd_19_4, xd_19_5, trivial⟩ (by decide +kernel) rfl (by decide +kernel) (by decide +kernel) (by decide +kernel) (by decide +kernel) (by decide +kernel)
theorem xd_20_0 : xe_dck cX0_store (16 * 0) xt_20_0 = true := by decide +kernel
theorem xd_20_1 : xe_dck cX0_store (16 * 1) xt_20_1 = true := by decide +kernel
theorem xd_20_2 : xe_dck cX0_store (16 * 2) xt_20_2 = true := by decide +kernel
theorem xd_20_3 : xe_dck cX0_store (16 * 3) xt_20_3 = true := by decide +kernel
theorem xd_20_4 : xe_dck cX0_store (16 * 4) xt_20_4 = true := by decide +kernel
theorem xd_20_5 : xe_dck cX0_store (16 * 5) xt_20_5 = true := by decide +kernel
theorem xk_20 : xOK xMT xCLs xWS xNS 20 := xOK_of [200, 201] [502] [[534], [413]] 550 66 ⟨xd_20_0, xd_20_1, xd_20_2, xd_20_3, xd_20_4, xd_20_5, trivial⟩ (by decide +kernel) rfl (by decide +kernel) (by decide +kernel) (by decide +kernel) (by decide +kernel) (by decide +kernel)
theorem xd_21_0 : xe_dck cX0_load (16 * 0) xt_21_0 = true := by decide +kernel
theorem xd_21_1 : xe_dck cX0_load (16 * 1) xt_21_1 = true := by decide +kernel
theorem xd_21_2 : xe_dck cX0_load (16 * 2) xt_21_2 = true := by decide +kernel
theorem xd_21_3 : xe_dck cX0_load (16 * 3) xt_21_3 = true := by decide +kernel
theorem xd_21_4 : xe_dck cX0_load (16 * 4) xt_21_4 = true := by decide +kernel
theorem xk_21 : xOK xMT xCLs xWS xNS 21 := xOK_of [200, 201] [] [[534], [450]] 554 66 ⟨xd_21_0, xd_21_1, xd_21_2, xd_21_3, xd_21_4, trivial⟩ (by decide +kernel) rfl (by decide +kernel) (by decide +kernel) (by decide +kernel) (by decide +kernel) (by decide +kernel)
theorem xd_22_0 : xe_dck cX1_gather (16 * 0) xt_22_0 = true := by decide +kernel
theorem xd_22_1 : xe_dck cX1_gather (16 * 1) xt_22_1 = true := by decide +kernel
theorem xd_22_2 : xe_dck cX1_gather (16 * 2) xt_22_2 = true := by decide +kernel
theorem xd_22_3 : xe_dck cX1_gather (16 * 3) xt_22_3 = true := by decide +kernel
theorem xd_22_4 : xe_dck cX1_gather (16 * 4) xt_22_4 = true := by decide +kernel
theorem xd_22_5 : xe_dck cX1_gather (16 * 5) xt_22_5 = true := by decide +kernel
theorem xd_22_6 : xe_dck cX1_gather (16 * 6) xt_22_6 = true := by decide +kernel
theorem xd_22_7 : xe_dck cX1_gather (16 * 7) xt_22_7 = true := by decide +kernel
theorem xk_22 : xOK xMT xCLs xWS xNS 22 := xOK_of [255, 250, 205, 203, 252, 253] [] [[413], [628, 630, 28]] 626 67 ⟨xd_22_0, xd_22_1, xd_22_2, xd_22_3, xd_22_4, xd_22_5, xd_22_6, xd_22_7, trivial⟩ (by decide +kernel) rfl (by decide +kernel) (by decide +kernel) (by decide +kernel) (by decide +kernel) (by decide +kernel)
theorem xd_23_0 : xe_dck cX1_find (16 * 0) xt_23_0 = true := by decide +kernel
theorem xd_23_1 : xe_dck cX1_find (16 * 1) xt_23_1 = true := by decide +kernel
theorem xk_23 : xOK xMT xCLs xWS xNS 23 := xOK_of [] [] [[643, 645, 29], [661, 663, 32], [673, 675, 35], [665, 667, 33]] 642 67 ⟨xd_23_0, xd_23_1, trivial⟩ (by decide +kernel) rfl (by decide +kernel) (by decide +kernel) (by decide +kernel) (by decide +kernel) (by decide +kernel)
theorem xd_24_0 : xe_dck cX1_canBeDone (16 * 0) xt_24_0 = true := by decide +kernel
theorem xd_24_1 : xe_dck cX1_canBeDone (16 * 1) xt_24_1 = true := by decide +kernel
theorem xd_24_2 : xe_dck cX1_canBeDone (16 * 2) xt_24_2 = true := by decide +kernel
theorem xd_24_3 : xe_dck cX1_canBeDone (16 * 3) xt_24_3 = true := by decide +kernel
theorem xd_24_4 : xe_dck cX1_canBeDone (16 * 4) xt_24_4 = true := by decide +kernel
theorem xk_24 : xOK xMT xCLs xWS xNS 24 := xOK_of [249, 87, 263] [] [[689, 691, 36], [693, 694, 695]] 688 67 ⟨xd_24_0, xd_24_1, xd_24_2, xd_24_3, xd_24_4, trivial⟩ (by decide +kernel) rfl (by decide +kernel) (by decide +kernel) (by decide +kernel) (by decide +kernel) (by decide +kernel)
theorem xd_25_0 : xe_dck cX1_putSets (16 * 0) xt_25_0 = true := by decide +kernel
theorem xd_25_1 : xe_dck cX1_putSets (16 * 1) xt_25_1 = true := by decide +kernel
theorem xd_25_2 : xe_dck cX1_putSets (16 * 2) xt_25_2 = true := by decide +kernel
theorem xk_25 : xOK xMT xCLs xWS xNS 25 := xOK_of [263, 249, 259, 261] [] [[701, 702, 703]] 700 67 ⟨xd_25_0, xd_25_1, xd_25_2, trivial⟩ (by decide +kernel) rfl (by decide +kernel) (by decide +kernel) (by decide +kernel) (by decide +kernel) (by decide +kernel)
theorem xd_26_0 : xe_dck cX1_keptAt (16 * 0) xt_26_0 = true := by decide +kernel
theorem xd_26_1 : xe_dck cX1_keptAt (16 * 1) xt_26_1 = true := by decide +kernel
theorem xd_26_2 : xe_dck cX1_keptAt (16 * 2) xt_26_2 = true := by decide +kernel
theorem xk_26 : xOK xMT xCLs xWS xNS 26 := xOK_of [263, 259] [] [] 692 67 ⟨xd_26_0, xd_26_1, xd_26_2, trivial⟩ (by decide +kernel) rfl (by decide +kernel) (by decide +kernel) (by decide +kernel) (by decide +kernel) (by decide +kernel)
theorem xd_27_0 : xe_dck cX1_leads (16 * 0) xt_27_0 = true := by decide +kernel
theorem xd_27_1 : xe_dck cX1_leads (16 * 1) xt_27_1 = true := by decide +kernel
theorem xd_27_2 : xe_dck cX1_leads (16 * 2) xt_27_2 = true := by decide +kernel
theorem xk_27 : xOK xMT xCLs xWS xNS 27 := xOK_of [251] [] [[632, 600, 601], [633, 634, 635], [637, 495, 496], [638, 556, 557]] 631 67 ⟨xd_27_0, xd_27_1, xd_27_2, trivial⟩ (by decide +kernel) rfl (by decide +kernel) (by decide +kernel) (by decide +kernel) (by decide +kernel) (by decide +kernel)
theorem xd_28_0 : xe_dck cX1_followWays (16 * 0) xt_28_0 = true := by decide +kernel
theorem xd_28_1 : xe_dck cX1_followWays (16 * 1) xt_28_1 = true := by decide +kernel
theorem xd_28_2 : xe_dck cX1_followWays (16 * 2) xt_28_2 = true := by decide +kernel
theorem xd_28_3 : xe_dck cX1_followWays (16 * 3) xt_28_3 = true := by decide +kernel
theorem xd_28_4 : xe_dck cX1_followWays (16 * 4) xt_28_4 = true := by decide +kernel
theorem xd_28_5 : xe_dck cX1_followWays (16 * 5) xt_28_5 = true := by decide +kernel
theorem xd_28_6 : xe_dck cX1_followWays (16 * 6) xt_28_6 = true := by decide +kernel
theorem xd_28_7 : xe_dck cX1_followWays (16 * 7) xt_28_7 = true := by decide +kernel
theorem xd_28_8 : xe_dck cX1_followWays (16 * 8) xt_28_8 = true := by decide +kernel
theorem xk_28 : xOK xMT xCLs xWS xNS 28 := xOK_of [251, 257, 258, 256, 255, 252, 253, 254] [655] [[647, 649, 30], [637, 495, 496], [656, 658, 31], [638, 556, 557], [633, 634, 635], [450]] 646 67 ⟨xd_28_0, xd_28_1, xd_28_2, xd_28_3, xd_28_4, xd_28_5, xd_28_6, xd_28_7, xd_28_8, trivial⟩ (by decide +kernel) rfl (by decide +kernel) (by decide +kernel) (by decide +kernel) (by decide +kernel) (by decide +kernel)
theorem xd_29_0 : xe_dck cX1_doAllMends (16 * 0) xt_29_0 = true := by decide +kernel
theorem xd_29_1 : xe_dck cX1_doAllMends (16 * 1) xt_29_1 = true := by decide +kernel
theorem xd_29_2 : xe_dck cX1_doAllMends (16 * 2) xt_29_2 = true := by decide +kernel
theorem xk_29 : xOK xMT xCLs xWS xNS 29 := xOK_of [251, 255, 252, 253] [] [[632, 600, 601], [651, 652, 653]] 650 67 ⟨xd_29_0, xd_29_1, xd_29_2, trivial⟩ (by decide +kernel) rfl (by decide +kernel) (by decide +kernel) (by decide +kernel) (by decide +kernel) (by decide +kernel)
theorem xd_30_0 : xe_dck cX1_mendsComeTo (16 * 0) xt_30_0 = true := by decide +kernel
theorem xd_30_1 : xe_dck cX1_mendsComeTo (16 * 1) xt_30_1 = true := by decide +kernel
theorem xd_30_2 : xe_dck cX1_mendsComeTo (16 * 2) xt_30_2 = true := by decide +kernel
theorem xd_30_3 : xe_dck cX1_mendsComeTo (16 * 3) xt_30_3 = true := by decide +kernel
theorem xk_30 : xOK xMT xCLs xWS xNS 30 := xOK_of [255, 251, 205, 252, 253] [] [[413], [450]] 659 67 ⟨xd_30_0, xd_30_1, xd_30_2, xd_30_3, trivial⟩ (by decide +kernel) rfl (by decide +kernel) (by decide +kernel) (by decide +kernel) (by decide +kernel) (by decide +kernel)
theorem xd_31_0 : xe_dck cX1_cheapest (16 * 0) xt_31_0 = true := by decide +kernel
theorem xd_31_1 : xe_dck cX1_cheapest (16 * 1) xt_31_1 = true := by decide +kernel
theorem xd_31_2 : xe_dck cX1_cheapest (16 * 2) xt_31_2 = true := by decide +kernel
theorem xd_31_3 : xe_dck cX1_cheapest (16 * 3) xt_31_3 = true := by decide +kernel
theorem xd_31_4 : xe_dck cX1_cheapest (16 * 4) xt_31_4 = true := by decide +kernel
theorem xk_31 : xOK xMT xCLs xWS xNS 31 := xOK_of [258, 255] [] [[665, 667, 33], [669, 671, 34]] 664 67 ⟨xd_31_0, xd_31_1, xd_31_2, xd_31_3, xd_31_4, trivial⟩ (by decide +kernel) rfl (by decide +kernel) (by decide +kernel) (by decide +kernel) (by decide +kernel) (by decide +kernel)
theorem xd_32_0 : xe_dck cX1_costOf (16 * 0) xt_32_0 = true := by decide +kernel
theorem xd_32_1 : xe_dck cX1_costOf (16 * 1) xt_32_1 = true := by decide +kernel
theorem xd_32_2 : xe_dck cX1_costOf (16 * 2) xt_32_2 = true := by decide +kernel
theorem xk_32 : xOK xMT xCLs xWS xNS 32 := xOK_of [255, 252] [] [[413]] 668 67 ⟨xd_32_0, xd_32_1, xd_32_2, trivial⟩ (by decide +kernel) rfl (by decide +kernel) (by decide +kernel) (by decide +kernel) (by decide +kernel) (by decide +kernel)
theorem xd_33_0 : xe_dck cX1_cutsAllWays (16 * 0) xt_33_0 = true := by decide +kernel
theorem xd_33_1 : xe_dck cX1_cutsAllWays (16 * 1) xt_33_1 = true := by decide +kernel
theorem xd_33_2 : xe_dck cX1_cutsAllWays (16 * 2) xt_33_2 = true := by decide +kernel
theorem xd_33_3 : xe_dck cX1_cutsAllWays (16 * 3) xt_33_3 = true := by decide +kernel
theorem xd_33_4 : xe_dck cX1_cutsAllWays (16 * 4) xt_33_4 = true := by decide +kernel
theorem xd_33_5 : xe_dck cX1_cutsAllWays (16 * 5) xt_33_5 = true := by decide +kernel
theorem xk_33 : xOK xMT xCLs xWS xNS 33 := xOK_of [257, 255, 254, 256] [] [[413]] 672 67 ⟨xd_33_0, xd_33_1, xd_33_2, xd_33_3, xd_33_4, xd_33_5, trivial⟩ (by decide +kernel) rfl (by decide +kernel) (by decide +kernel) (by decide +kernel) (by decide +kernel) (by decide +kernel)
theorem xd_34_0 : xe_dck cX1_keep (16 * 0) xt_34_0 = true := by decide +kernel
theorem xd_34_1 : xe_dck cX1_keep (16 * 1) xt_34_1 = true := by decide +kernel
theorem xd_34_2 : xe_dck cX1_keep (16 * 2) xt_34_2 = true := by decide +kernel
theorem xd_34_3 : xe_dck cX1_keep (16 * 3) xt_34_3 = true := by decide +kernel
theorem xd_34_4 : xe_dck cX1_keep (16 * 4) xt_34_4 = true := by decide +kernel
theorem xk_34 : xOK xMT xCLs xWS xNS 34 := xOK_of [263, 255, 259, 252, 261, 253] [] [[413]] 676 67 ⟨xd_34_0, xd_34_1, xd_34_2, xd_34_3, xd_34_4, trivial⟩ (by decide +kernel) rfl (by decide +kernel) (by decide +kernel) (by decide +kernel) (by decide +kernel) (by decide +kernel)
theorem xd_35_0 : xe_dck cX2_has (16 * 0) xt_35_0 = true := by decide +kernel
theorem xd_35_1 : xe_dck cX2_has (16 * 1) xt_35_1 = true := by decide +kernel
theorem xk_35 : xOK xMT xCLs xWS xNS 35 := xOK_of [85] [] [[343]] 372 64 ⟨xd_35_0, xd_35_1, trivial⟩ (by decide +kernel) rfl (by decide +kernel) (by decide +kernel) (by decide +kernel) (by decide +kernel) (by decide +kernel)
theorem xd_36_0 : xe_dck cX2_put (16 * 0) xt_36_0 = true := by decide +kernel
theorem xd_36_1 : xe_dck cX2_put (16 * 1) xt_36_1 = true := by decide +kernel
theorem xd_36_2 : xe_dck cX2_put (16 * 2) xt_36_2 = true := by decide +kernel
theorem xd_36_3 : xe_dck cX2_put (16 * 3) xt_36_3 = true := by decide +kernel
theorem xk_36 : xOK xMT xCLs xWS xNS 36 := xOK_of [89, 92, 95, 98, 101] [] [[359]] 357 64 ⟨xd_36_0, xd_36_1, xd_36_2, xd_36_3, trivial⟩ (by decide +kernel) rfl (by decide +kernel) (by decide +kernel) (by decide +kernel) (by decide +kernel) (by decide +kernel)
theorem xd_37_0 : xe_dck cX2_putSetAhead (16 * 0) xt_37_0 = true := by decide +kernel
theorem xd_37_1 : xe_dck cX2_putSetAhead (16 * 1) xt_37_1 = true := by decide +kernel
theorem xd_37_2 : xe_dck cX2_putSetAhead (16 * 2) xt_37_2 = true := by decide +kernel
theorem xd_37_3 : xe_dck cX2_putSetAhead (16 * 3) xt_37_3 = true := by decide +kernel
theorem xd_37_4 : xe_dck cX2_putSetAhead (16 * 4) xt_37_4 = true := by decide +kernel
theorem xd_37_5 : xe_dck cX2_putSetAhead (16 * 5) xt_37_5 = true := by decide +kernel
theorem xd_37_6 : xe_dck cX2_putSetAhead (16 * 6) xt_37_6 = true := by decide +kernel
theorem xk_37 : xOK xMT xCLs xWS xNS 37 := xOK_of [85, 89, 92, 95, 98, 101] [] [[359], [705, 355, 356]] 704 64 ⟨xd_37_0, xd_37_1, xd_37_2, xd_37_3, xd_37_4, xd_37_5, xd_37_6, trivial⟩ (by decide +kernel) rfl (by decide +kernel) (by decide +kernel) (by decide +kernel) (by decide +kernel) (by decide +kernel)
theorem xd_38_0 : xe_dck cX2_usedCell (16 * 0) xt_38_0 = true := by decide +kernel
theorem xd_38_1 : xe_dck cX2_usedCell (16 * 1) xt_38_1 = true := by decide +kernel
theorem xd_38_2 : xe_dck cX2_usedCell (16 * 2) xt_38_2 = true := by decide +kernel
theorem xd_38_3 : xe_dck cX2_usedCell (16 * 3) xt_38_3 = true := by decide +kernel
theorem xk_38 : xOK xMT xCLs xWS xNS 38 := xOK_of [89, 92, 98, 101] [] [] 411 64 ⟨xd_38_0, xd_38_1, xd_38_2, xd_38_3, trivial⟩ (by decide +kernel) rfl (by decide +kernel) (by decide +kernel) (by decide +kernel) (by decide +kernel) (by decide +kernel)
theorem xd_39_0 : xe_dck cX2_skipsBelowZero (16 * 0) xt_39_0 = true := by decide +kernel
theorem xd_39_1 : xe_dck cX2_skipsBelowZero (16 * 1) xt_39_1 = true := by decide +kernel
theorem xd_39_2 : xe_dck cX2_skipsBelowZero (16 * 2) xt_39_2 = true := by decide +kernel
theorem xd_39_3 : xe_dck cX2_skipsBelowZero (16 * 3) xt_39_3 = true := by decide +kernel
theorem xk_39 : xOK xMT xCLs xWS xNS 39 := xOK_of [85, 89, 95] [] [[359]] 696 64 ⟨xd_39_0, xd_39_1, xd_39_2, xd_39_3, trivial⟩ (by decide +kernel) rfl (by decide +kernel) (by decide +kernel) (by decide +kernel) (by decide +kernel) (by decide +kernel)
theorem xd_40_0 : xe_dck cX3_go (16 * 0) xt_40_0 = true := by decide +kernel
theorem xd_40_1 : xe_dck cX3_go (16 * 1) xt_40_1 = true := by decide +kernel
theorem xd_40_2 : xe_dck cX3_go (16 * 2) xt_40_2 = true := by decide +kernel
theorem xd_40_3 : xe_dck cX3_go (16 * 3) xt_40_3 = true := by decide +kernel
theorem xd_40_4 : xe_dck cX3_go (16 * 4) xt_40_4 = true := by decide +kernel
theorem xd_40_5 : xe_dck cX3_go (16 * 5) xt_40_5 = true := by decide +kernel
theorem xd_40_6 : xe_dck cX3_go (16 * 6) xt_40_6 = true := by decide +kernel
theorem xk_40 : xOK xMT xCLs xWS xNS 40 := xOK_of [126, 124, 130, 131, 136, 129] [] [[394, 396, 1], [398, 370, 371], [399, 401, 2], [456, 458, 12]] 393 65 ⟨xd_40_0, xd_40_1, xd_40_2, xd_40_3, xd_40_4, xd_40_5, xd_40_6, trivial⟩ (by decide +kernel) rfl (by decide +kernel) (by decide +kernel) (by decide +kernel) (by decide +kernel) (by decide +kernel)
theorem xd_41_0 : xe_dck cX3_startAnew (16 * 0) xt_41_0 = true := by decide +kernel
theorem xd_41_1 : xe_dck cX3_startAnew (16 * 1) xt_41_1 = true := by decide +kernel
theorem xd_41_2 : xe_dck cX3_startAnew (16 * 2) xt_41_2 = true := by decide +kernel
theorem xd_41_3 : xe_dck cX3_startAnew (16 * 3) xt_41_3 = true := by decide +kernel
theorem xd_41_4 : xe_dck cX3_startAnew (16 * 4) xt_41_4 = true := by decide +kernel
theorem xk_41 : xOK xMT xCLs xWS xNS 41 := xOK_of [132, 134, 129, 130, 131, 136, 138, 140, 142, 146, 150] [] [] 397 65 ⟨xd_41_0, xd_41_1, xd_41_2, xd_41_3, xd_41_4, trivial⟩ (by decide +kernel) rfl (by decide +kernel) (by decide +kernel) (by decide +kernel) (by decide +kernel) (by decide +kernel)
theorem xd_42_0 : xe_dck cX3_goBack (16 * 0) xt_42_0 = true := by decide +kernel
theorem xd_42_1 : xe_dck cX3_goBack (16 * 1) xt_42_1 = true := by decide +kernel
theorem xd_42_2 : xe_dck cX3_goBack (16 * 2) xt_42_2 = true := by decide +kernel
theorem xk_42 : xOK xMT xCLs xWS xNS 42 := xOK_of [129, 127, 130, 128, 131] [] [] 459 65 ⟨xd_42_0, xd_42_1, xd_42_2, trivial⟩ (by decide +kernel) rfl (by decide +kernel) (by decide +kernel) (by decide +kernel) (by decide +kernel) (by decide +kernel)
theorem xd_43_0 : xe_dck cX3_doOne (16 * 0) xt_43_0 = true := by decide +kernel
theorem xd_43_1 : xe_dck cX3_doOne (16 * 1) xt_43_1 = true := by decide +kernel
theorem xd_43_2 : xe_dck cX3_doOne (16 * 2) xt_43_2 = true := by decide +kernel
theorem xd_43_3 : xe_dck cX3_doOne (16 * 3) xt_43_3 = true := by decide +kernel
theorem xd_43_4 : xe_dck cX3_doOne (16 * 4) xt_43_4 = true := by decide +kernel
theorem xd_43_5 : xe_dck cX3_doOne (16 * 5) xt_43_5 = true := by decide +kernel
theorem xd_43_6 : xe_dck cX3_doOne (16 * 6) xt_43_6 = true := by decide +kernel
theorem xd_43_7 : xe_dck cX3_doOne (16 * 7) xt_43_7 = true := by decide +kernel
theorem xd_43_8 : xe_dck cX3_doOne (16 * 8) xt_43_8 = true := by decide +kernel
theorem xd_43_9 : xe_dck cX3_doOne (16 * 9) xt_43_9 = true := by decide +kernel
theorem xk_43 : xOK xMT xCLs xWS xNS 43 := xOK_of [130, 131, 124, 93, 90, 132, 96] [] [[359], [404, 406, 3], [415, 417, 4], [419, 421, 5], [433, 435, 7], [437, 439, 8], [441, 443, 9]] 402 65 ⟨xd_43_0, xd_43_1, xd_43_2, xd_43_3, xd_43_4, xd_43_5, xd_43_6, xd_43_7, xd_43_8, xd_43_9, trivial⟩ (by decide +kernel) rfl (by decide +kernel) (by decide +kernel) (by decide +kernel) (by decide +kernel) (by decide +kernel)
theorem xd_44_0 : xe_dck cX3_lookAtUse (16 * 0) xt_44_0 = true := by decide +kernel
theorem xd_44_1 : xe_dck cX3_lookAtUse (16 * 1) xt_44_1 = true := by decide +kernel
theorem xd_44_2 : xe_dck cX3_lookAtUse (16 * 2) xt_44_2 = true := by decide +kernel
theorem xd_44_3 : xe_dck cX3_lookAtUse (16 * 3) xt_44_3 = true := by decide +kernel
theorem xk_44 : xOK xMT xCLs xWS xNS 44 := xOK_of [124, 134, 138, 140, 148, 150] [] [[408, 409, 410], [413]] 407 65 ⟨xd_44_0, xd_44_1, xd_44_2, xd_44_3, trivial⟩ (by decide +kernel) rfl (by decide +kernel) (by decide +kernel) (by decide +kernel) (by decide +kernel) (by decide +kernel)
theorem xd_45_0 : xe_dck cX3_keepPrint (16 * 0) xt_45_0 = true := by decide +kernel
theorem xd_45_1 : xe_dck cX3_keepPrint (16 * 1) xt_45_1 = true := by decide +kernel
theorem xk_45 : xOK xMT xCLs xWS xNS 45 := xOK_of [142, 144] [] [] 418 65 ⟨xd_45_0, xd_45_1, trivial⟩ (by decide +kernel) rfl (by decide +kernel) (by decide +kernel) (by decide +kernel) (by decide +kernel) (by decide +kernel)
theorem xd_46_0 : xe_dck cX3_store (16 * 0) xt_46_0 = true := by decide +kernel
theorem xd_46_1 : xe_dck cX3_store (16 * 1) xt_46_1 = true := by decide +kernel
theorem xd_46_2 : xe_dck cX3_store (16 * 2) xt_46_2 = true := by decide +kernel
theorem xd_46_3 : xe_dck cX3_store (16 * 3) xt_46_3 = true := by decide +kernel
theorem xk_46 : xOK xMT xCLs xWS xNS 46 := xOK_of [132, 124, 99, 96, 93, 102] [] [[423, 425, 6]] 422 65 ⟨xd_46_0, xd_46_1, xd_46_2, xd_46_3, trivial⟩ (by decide +kernel) rfl (by decide +kernel) (by decide +kernel) (by decide +kernel) (by decide +kernel) (by decide +kernel)
theorem xd_47_0 : xe_dck cX3_load (16 * 0) xt_47_0 = true := by decide +kernel
theorem xd_47_1 : xe_dck cX3_load (16 * 1) xt_47_1 = true := by decide +kernel
theorem xd_47_2 : xe_dck cX3_load (16 * 2) xt_47_2 = true := by decide +kernel
theorem xd_47_3 : xe_dck cX3_load (16 * 3) xt_47_3 = true := by decide +kernel
theorem xk_47 : xOK xMT xCLs xWS xNS 47 := xOK_of [132, 124, 102, 99, 93, 96] [] [[423, 425, 6]] 436 65 ⟨xd_47_0, xd_47_1, xd_47_2, xd_47_3, trivial⟩ (by decide +kernel) rfl (by decide +kernel) (by decide +kernel) (by decide +kernel) (by decide +kernel) (by decide +kernel)
theorem xd_48_0 : xe_dck cX3_enter (16 * 0) xt_48_0 = true := by decide +kernel
theorem xd_48_1 : xe_dck cX3_enter (16 * 1) xt_48_1 = true := by decide +kernel
theorem xd_48_2 : xe_dck cX3_enter (16 * 2) xt_48_2 = true := by decide +kernel
theorem xd_48_3 : xe_dck cX3_enter (16 * 3) xt_48_3 = true := by decide +kernel
theorem xk_48 : xOK xMT xCLs xWS xNS 48 := xOK_of [129, 127, 130, 128, 131] [] [] 440 65 ⟨xd_48_0, xd_48_1, xd_48_2, xd_48_3, trivial⟩ (by decide +kernel) rfl (by decide +kernel) (by decide +kernel) (by decide +kernel) (by decide +kernel) (by decide +kernel)
theorem xd_49_0 : xe_dck cX3_fill (16 * 0) xt_49_0 = true := by decide +kernel
theorem xd_49_1 : xe_dck cX3_fill (16 * 1) xt_49_1 = true := by decide +kernel
theorem xd_49_2 : xe_dck cX3_fill (16 * 2) xt_49_2 = true := by decide +kernel
theorem xd_49_3 : xe_dck cX3_fill (16 * 3) xt_49_3 = true := by decide +kernel
theorem xd_49_4 : xe_dck cX3_fill (16 * 4) xt_49_4 = true := by decide +kernel
theorem xd_49_5 : xe_dck cX3_fill (16 * 5) xt_49_5 = true := by decide +kernel
theorem xd_49_6 : xe_dck cX3_fill (16 * 6) xt_49_6 = true := by decide +kernel
theorem xd_49_7 : xe_dck cX3_fill (16 * 7) xt_49_7 = true := by decide +kernel
theorem xd_49_8 : xe_dck cX3_fill (16 * 8) xt_49_8 = true := by decide +kernel
theorem xd_49_9 : xe_dck cX3_fill (16 * 9) xt_49_9 = true := by decide +kernel
theorem xd_49_10 : xe_dck cX3_fill (16 * 10) xt_49_10 = true := by decide +kernel
theorem xd_49_11 : xe_dck cX3_fill (16 * 11) xt_49_11 = true := by decide +kernel
theorem xd_49_12 : xe_dck cX3_fill (16 * 12) xt_49_12 = true := by decide +kernel
theorem xd_49_13 : xe_dck cX3_fill (16 * 13) xt_49_13 = true := by decide +kernel
theorem xk_49 : xOK xMT xCLs xWS xNS 49 := xOK_of [124, 93, 96, 90, 99, 132, 134] [] [[445, 447, 10], [423, 425, 6], [413], [452, 454, 11]] 444 65 ⟨xd_49_0, xd_49_1, xd_49_2, xd_49_3, xd_49_4, xd_49_5, xd_49_6, xd_49_7, xd_49_8, xd_49_9, xd_49_10, xd_49_11, xd_49_12, xd_49_13, trivial⟩ (by decide +kernel) rfl (by decide +kernel) (by decide +kernel) (by decide +kernel) (by decide +kernel) (by decide +kernel)
theorem xd_50_0 : xe_dck cX3_nextOfInput (16 * 0) xt_50_0 = true := by decide +kernel
theorem xd_50_1 : xe_dck cX3_nextOfInput (16 * 1) xt_50_1 = true := by decide +kernel
theorem xd_50_2 : xe_dck cX3_nextOfInput (16 * 2) xt_50_2 = true := by decide +kernel
theorem xd_50_3 : xe_dck cX3_nextOfInput (16 * 3) xt_50_3 = true := by decide +kernel
theorem xk_50 : xOK xMT xCLs xWS xNS 50 := xOK_of [146, 126, 125] [] [] 455 65 ⟨xd_50_0, xd_50_1, xd_50_2, xd_50_3, trivial⟩ (by decide +kernel) rfl (by decide +kernel) (by decide +kernel) (by decide +kernel) (by decide +kernel) (by decide +kernel)
theorem xd_51_0 : xe_dck cX3_fillRow (16 * 0) xt_51_0 = true := by decide +kernel
theorem xd_51_1 : xe_dck cX3_fillRow (16 * 1) xt_51_1 = true := by decide +kernel
theorem xd_51_2 : xe_dck cX3_fillRow (16 * 2) xt_51_2 = true := by decide +kernel
theorem xk_51 : xOK xMT xCLs xWS xNS 51 := xOK_of [132, 134] [] [[450]] 448 65 ⟨xd_51_0, xd_51_1, xd_51_2, trivial⟩ (by decide +kernel) rfl (by decide +kernel) (by decide +kernel) (by decide +kernel) (by decide +kernel) (by decide +kernel)
theorem xd_52_0 : xe_dck cX3_copyRow (16 * 0) xt_52_0 = true := by decide +kernel
theorem xd_52_1 : xe_dck cX3_copyRow (16 * 1) xt_52_1 = true := by decide +kernel
theorem xk_52 : xOK xMT xCLs xWS xNS 52 := xOK_of [132, 134] [] [[431]] 426 65 ⟨xd_52_0, xd_52_1, trivial⟩ (by decide +kernel) rfl (by decide +kernel) (by decide +kernel) (by decide +kernel) (by decide +kernel) (by decide +kernel)
theorem xd_53_0 : xe_dck cX4_code (16 * 0) xt_53_0 = true := by decide +kernel
theorem xd_53_1 : xe_dck cX4_code (16 * 1) xt_53_1 = true := by decide +kernel
theorem xd_53_2 : xe_dck cX4_code (16 * 2) xt_53_2 = true := by decide +kernel
theorem xd_53_3 : xe_dck cX4_code (16 * 3) xt_53_3 = true := by decide +kernel
theorem xd_53_4 : xe_dck cX4_code (16 * 4) xt_53_4 = true := by decide +kernel
theorem xd_53_5 : xe_dck cX4_code (16 * 5) xt_53_5 = true := by decide +kernel
theorem xk_53 : xOK xMT xCLs xWS xNS 53 := xOK_of [292, 86] [] [[342, 343], [345, 346], [354, 355, 356], [361, 363, 0]] 341 63 ⟨xd_53_0, xd_53_1, xd_53_2, xd_53_3, xd_53_4, xd_53_5, trivial⟩ (by decide +kernel) rfl (by decide +kernel) (by decide +kernel) (by decide +kernel) (by decide +kernel) (by decide +kernel)
theorem xd_54_0 : xe_dck cX4_change (16 * 0) xt_54_0 = true := by decide +kernel
theorem xd_54_1 : xe_dck cX4_change (16 * 1) xt_54_1 = true := by decide +kernel
theorem xd_54_2 : xe_dck cX4_change (16 * 2) xt_54_2 = true := by decide +kernel
theorem xd_54_3 : xe_dck cX4_change (16 * 3) xt_54_3 = true := by decide +kernel
theorem xk_54 : xOK xMT xCLs xWS xNS 54 := xOK_of [292] [] [[369, 370, 371], [345, 346], [354, 355, 356], [361, 363, 0]] 368 63 ⟨xd_54_0, xd_54_1, xd_54_2, xd_54_3, trivial⟩ (by decide +kernel) rfl (by decide +kernel) (by decide +kernel) (by decide +kernel) (by decide +kernel) (by decide +kernel)
theorem xd_55_0 : xe_dck cX4_clear (16 * 0) xt_55_0 = true := by decide +kernel
theorem xd_55_1 : xe_dck cX4_clear (16 * 1) xt_55_1 = true := by decide +kernel
theorem xd_55_2 : xe_dck cX4_clear (16 * 2) xt_55_2 = true := by decide +kernel
theorem xk_55 : xOK xMT xCLs xWS xNS 55 := xOK_of [292, 86] [] [[342, 343], [361, 363, 0]] 377 63 ⟨xd_55_0, xd_55_1, xd_55_2, trivial⟩ (by decide +kernel) rfl (by decide +kernel) (by decide +kernel) (by decide +kernel) (by decide +kernel) (by decide +kernel)
theorem xd_56_0 : xe_dck cX4_input (16 * 0) xt_56_0 = true := by decide +kernel
theorem xd_56_1 : xe_dck cX4_input (16 * 1) xt_56_1 = true := by decide +kernel
theorem xd_56_2 : xe_dck cX4_input (16 * 2) xt_56_2 = true := by decide +kernel
theorem xk_56 : xOK xMT xCLs xWS xNS 56 := xOK_of [295, 294] [] [] 381 63 ⟨xd_56_0, xd_56_1, xd_56_2, trivial⟩ (by decide +kernel) rfl (by decide +kernel) (by decide +kernel) (by decide +kernel) (by decide +kernel) (by decide +kernel)
theorem xd_57_0 : xe_dck cX4_empty (16 * 0) xt_57_0 = true := by decide +kernel
theorem xk_57 : xOK xMT xCLs xWS xNS 57 := xOK_of [295] [] [] 385 63 ⟨xd_57_0, trivial⟩ (by decide +kernel) rfl (by decide +kernel) (by decide +kernel) (by decide +kernel) (by decide +kernel) (by decide +kernel)
theorem xd_58_0 : xe_dck cX4_run (16 * 0) xt_58_0 = true := by decide +kernel
theorem xd_58_1 : xe_dck cX4_run (16 * 1) xt_58_1 = true := by decide +kernel
theorem xk_58 : xOK xMT xCLs xWS xNS 58 := xOK_of [297, 296, 295] [] [[390, 391, 392]] 389 63 ⟨xd_58_0, xd_58_1, trivial⟩ (by decide +kernel) rfl (by decide +kernel) (by decide +kernel) (by decide +kernel) (by decide +kernel) (by decide +kernel)
theorem xd_59_0 : xe_dck cX4_ran (16 * 0) xt_59_0 = true := by decide +kernel
theorem xd_59_1 : xe_dck cX4_ran (16 * 1) xt_59_1 = true := by decide +kernel
theorem xd_59_2 : xe_dck cX4_ran (16 * 2) xt_59_2 = true := by decide +kernel
theorem xd_59_3 : xe_dck cX4_ran (16 * 3) xt_59_3 = true := by decide +kernel
theorem xd_59_4 : xe_dck cX4_ran (16 * 4) xt_59_4 = true := by decide +kernel
theorem xd_59_5 : xe_dck cX4_ran (16 * 5) xt_59_5 = true := by decide +kernel
theorem xd_59_6 : xe_dck cX4_ran (16 * 6) xt_59_6 = true := by decide +kernel
theorem xd_59_7 : xe_dck cX4_ran (16 * 7) xt_59_7 = true := by decide +kernel
theorem xd_59_8 : xe_dck cX4_ran (16 * 8) xt_59_8 = true := by decide +kernel
theorem xk_59 : xOK xMT xCLs xWS xNS 59 := xOK_of [297, 296, 137, 139, 141, 143, 135] [] [[464, 465], [467, 468], [470, 471]] 463 63 ⟨xd_59_0, xd_59_1, xd_59_2, xd_59_3, xd_59_4, xd_59_5, xd_59_6, xd_59_7, xd_59_8, trivial⟩ (by decide +kernel) rfl (by decide +kernel) (by decide +kernel) (by decide +kernel) (by decide +kernel) (by decide +kernel)
theorem xd_60_0 : xe_dck cX4_printed (16 * 0) xt_60_0 = true := by decide +kernel
theorem xd_60_1 : xe_dck cX4_printed (16 * 1) xt_60_1 = true := by decide +kernel
theorem xd_60_2 : xe_dck cX4_printed (16 * 2) xt_60_2 = true := by decide +kernel
theorem xk_60 : xOK xMT xCLs xWS xNS 60 := xOK_of [297, 296, 143, 145] [] [] 479 63 ⟨xd_60_0, xd_60_1, xd_60_2, trivial⟩ (by decide +kernel) rfl (by decide +kernel) (by decide +kernel) (by decide +kernel) (by decide +kernel) (by decide +kernel)
theorem xd_61_0 : xe_dck cX4_cell (16 * 0) xt_61_0 = true := by decide +kernel
theorem xd_61_1 : xe_dck cX4_cell (16 * 1) xt_61_1 = true := by decide +kernel
theorem xd_61_2 : xe_dck cX4_cell (16 * 2) xt_61_2 = true := by decide +kernel
theorem xd_61_3 : xe_dck cX4_cell (16 * 3) xt_61_3 = true := by decide +kernel
theorem xd_61_4 : xe_dck cX4_cell (16 * 4) xt_61_4 = true := by decide +kernel
theorem xk_61 : xOK xMT xCLs xWS xNS 61 := xOK_of [297, 296, 133, 135] [] [[348, 349], [484, 413]] 483 63 ⟨xd_61_0, xd_61_1, xd_61_2, xd_61_3, xd_61_4, trivial⟩ (by decide +kernel) rfl (by decide +kernel) (by decide +kernel) (by decide +kernel) (by decide +kernel) (by decide +kernel)
theorem xd_62_0 : xe_dck cX4_flow (16 * 0) xt_62_0 = true := by decide +kernel
theorem xk_62 : xOK xMT xCLs xWS xNS 62 := xOK_of [301] [] [[489, 491, 13], [555, 556, 557]] 488 63 ⟨xd_62_0, trivial⟩ (by decide +kernel) rfl (by decide +kernel) (by decide +kernel) (by decide +kernel) (by decide +kernel) (by decide +kernel)
theorem xd_63_0 : xe_dck cX4_bad (16 * 0) xt_63_0 = true := by decide +kernel
theorem xd_63_1 : xe_dck cX4_bad (16 * 1) xt_63_1 = true := by decide +kernel
theorem xd_63_2 : xe_dck cX4_bad (16 * 2) xt_63_2 = true := by decide +kernel
theorem xd_63_3 : xe_dck cX4_bad (16 * 3) xt_63_3 = true := by decide +kernel
theorem xd_63_4 : xe_dck cX4_bad (16 * 4) xt_63_4 = true := by decide +kernel
theorem xd_63_5 : xe_dck cX4_bad (16 * 5) xt_63_5 = true := by decide +kernel
theorem xk_63 : xOK xMT xCLs xWS xNS 63 := xOK_of [301, 292] [] [[489, 491, 13], [568, 569, 570], [464, 465], [467, 468], [572, 409, 410], [573, 560, 561]] 567 63 ⟨xd_63_0, xd_63_1, xd_63_2, xd_63_3, xd_63_4, xd_63_5, trivial⟩ (by decide +kernel) rfl (by decide +kernel) (by decide +kernel) (by decide +kernel) (by decide +kernel) (by decide +kernel)
theorem xd_64_0 : xe_dck cX4_state (16 * 0) xt_64_0 = true := by decide +kernel
theorem xd_64_1 : xe_dck cX4_state (16 * 1) xt_64_1 = true := by decide +kernel
theorem xd_64_2 : xe_dck cX4_state (16 * 2) xt_64_2 = true := by decide +kernel
theorem xk_64 : xOK xMT xCLs xWS xNS 64 := xOK_of [292, 86, 301] [] [[342, 343], [348, 349], [489, 491, 13], [578, 579, 580]] 577 63 ⟨xd_64_0, xd_64_1, xd_64_2, trivial⟩ (by decide +kernel) rfl (by decide +kernel) (by decide +kernel) (by decide +kernel) (by decide +kernel) (by decide +kernel)
theorem xd_65_0 : xe_dck cX4_witness (16 * 0) xt_65_0 = true := by decide +kernel
theorem xd_65_1 : xe_dck cX4_witness (16 * 1) xt_65_1 = true := by decide +kernel
theorem xd_65_2 : xe_dck cX4_witness (16 * 2) xt_65_2 = true := by decide +kernel
theorem xd_65_3 : xe_dck cX4_witness (16 * 3) xt_65_3 = true := by decide +kernel
theorem xk_65 : xOK xMT xCLs xWS xNS 65 := xOK_of [292, 301] [] [[369, 370, 371], [489, 491, 13], [573, 560, 561], [586, 359], [587, 589, 26]] 585 63 ⟨xd_65_0, xd_65_1, xd_65_2, xd_65_3, trivial⟩ (by decide +kernel) rfl (by decide +kernel) (by decide +kernel) (by decide +kernel) (by decide +kernel) (by decide +kernel)
theorem xd_66_0 : xe_dck cX4_needs (16 * 0) xt_66_0 = true := by decide +kernel
theorem xd_66_1 : xe_dck cX4_needs (16 * 1) xt_66_1 = true := by decide +kernel
theorem xd_66_2 : xe_dck cX4_needs (16 * 2) xt_66_2 = true := by decide +kernel
theorem xd_66_3 : xe_dck cX4_needs (16 * 3) xt_66_3 = true := by decide +kernel
theorem xd_66_4 : xe_dck cX4_needs (16 * 4) xt_66_4 = true := by decide +kernel
theorem xd_66_5 : xe_dck cX4_needs (16 * 5) xt_66_5 = true := by decide +kernel
theorem xk_66 : xOK xMT xCLs xWS xNS 66 := xOK_of [303, 304] [] [[342, 343], [599, 600, 601], [494, 495, 496], [603, 604, 605], [607, 608, 609]] 598 63 ⟨xd_66_0, xd_66_1, xd_66_2, xd_66_3, xd_66_4, xd_66_5, trivial⟩ (by decide +kernel) rfl (by decide +kernel) (by decide +kernel) (by decide +kernel) (by decide +kernel) (by decide +kernel)
theorem xd_67_0 : xe_dck cX4_writes (16 * 0) xt_67_0 = true := by decide +kernel
theorem xd_67_1 : xe_dck cX4_writes (16 * 1) xt_67_1 = true := by decide +kernel
theorem xd_67_2 : xe_dck cX4_writes (16 * 2) xt_67_2 = true := by decide +kernel
theorem xk_67 : xOK xMT xCLs xWS xNS 67 := xOK_of [303, 207, 209] [493] [[342, 343], [599, 600, 601], [494, 495, 496]] 614 63 ⟨xd_67_0, xd_67_1, xd_67_2, trivial⟩ (by decide +kernel) rfl (by decide +kernel) (by decide +kernel) (by decide +kernel) (by decide +kernel) (by decide +kernel)
theorem xd_68_0 : xe_dck cX4_cost (16 * 0) xt_68_0 = true := by decide +kernel
theorem xd_68_1 : xe_dck cX4_cost (16 * 1) xt_68_1 = true := by decide +kernel
theorem xd_68_2 : xe_dck cX4_cost (16 * 2) xt_68_2 = true := by decide +kernel
theorem xk_68 : xOK xMT xCLs xWS xNS 68 := xOK_of [293] [] [[342, 343]] 618 63 ⟨xd_68_0, xd_68_1, xd_68_2, trivial⟩ (by decide +kernel) rfl (by decide +kernel) (by decide +kernel) (by decide +kernel) (by decide +kernel) (by decide +kernel)
theorem xd_69_0 : xe_dck cX4_mend (16 * 0) xt_69_0 = true := by decide +kernel
theorem xd_69_1 : xe_dck cX4_mend (16 * 1) xt_69_1 = true := by decide +kernel
theorem xd_69_2 : xe_dck cX4_mend (16 * 2) xt_69_2 = true := by decide +kernel
theorem xk_69 : xOK xMT xCLs xWS xNS 69 := xOK_of [305, 293, 306] [] [[489, 491, 13], [623, 624, 625], [639, 640, 641]] 622 63 ⟨xd_69_0, xd_69_1, xd_69_2, trivial⟩ (by decide +kernel) rfl (by decide +kernel) (by decide +kernel) (by decide +kernel) (by decide +kernel) (by decide +kernel)
theorem xd_70_0 : xe_dck cX4_mended (16 * 0) xt_70_0 = true := by decide +kernel
theorem xd_70_1 : xe_dck cX4_mended (16 * 1) xt_70_1 = true := by decide +kernel
theorem xd_70_2 : xe_dck cX4_mended (16 * 2) xt_70_2 = true := by decide +kernel
theorem xd_70_3 : xe_dck cX4_mended (16 * 3) xt_70_3 = true := by decide +kernel
theorem xd_70_4 : xe_dck cX4_mended (16 * 4) xt_70_4 = true := by decide +kernel
theorem xk_70 : xOK xMT xCLs xWS xNS 70 := xOK_of [305, 264, 260, 262] [] [] 680 63 ⟨xd_70_0, xd_70_1, xd_70_2, xd_70_3, xd_70_4, trivial⟩ (by decide +kernel) rfl (by decide +kernel) (by decide +kernel) (by decide +kernel) (by decide +kernel) (by decide +kernel)
theorem xd_71_0 : xe_dck cX4_apply (16 * 0) xt_71_0 = true := by decide +kernel
theorem xd_71_1 : xe_dck cX4_apply (16 * 1) xt_71_1 = true := by decide +kernel
theorem xk_71 : xOK xMT xCLs xWS xNS 71 := xOK_of [306, 305] [] [[685, 686, 687], [697, 698, 699], [361, 363, 0]] 684 63 ⟨xd_71_0, xd_71_1, trivial⟩ (by decide +kernel) rfl (by decide +kernel) (by decide +kernel) (by decide +kernel) (by decide +kernel) (by decide +kernel)
theorem xd_72_0 : xe_dck cX4_count (16 * 0) xt_72_0 = true := by decide +kernel
theorem xd_72_1 : xe_dck cX4_count (16 * 1) xt_72_1 = true := by decide +kernel
theorem xd_72_2 : xe_dck cX4_count (16 * 2) xt_72_2 = true := by decide +kernel
theorem xd_72_3 : xe_dck cX4_count (16 * 3) xt_72_3 = true := by decide +kernel
theorem xk_72 : xOK xMT xCLs xWS xNS 72 := xOK_of [295, 292, 86, 293] [] [] 709 63 ⟨xd_72_0, xd_72_1, xd_72_2, xd_72_3, trivial⟩ (by decide +kernel) rfl (by decide +kernel) (by decide +kernel) (by decide +kernel) (by decide +kernel) (by decide +kernel)
theorem xd_73_0 : xe_dck cX4_programIsAnother (16 * 0) xt_73_0 = true := by decide +kernel
theorem xk_73 : xOK xMT xCLs xWS xNS 73 := xOK_of [302, 306] [] [] 364 63 ⟨xd_73_0, trivial⟩ (by decide +kernel) rfl (by decide +kernel) (by decide +kernel) (by decide +kernel) (by decide +kernel) (by decide +kernel)
theorem xd_74_0 : xe_dck cX4_freshen (16 * 0) xt_74_0 = true := by decide +kernel
theorem xd_74_1 : xe_dck cX4_freshen (16 * 1) xt_74_1 = true := by decide +kernel
theorem xk_74 : xOK xMT xCLs xWS xNS 74 := xOK_of [302, 301] [493] [[494, 495, 496]] 492 63 ⟨xd_74_0, xd_74_1, trivial⟩ (by decide +kernel) rfl (by decide +kernel) (by decide +kernel) (by decide +kernel) (by decide +kernel) (by decide +kernel)
theorem xd_75_0 : xe_dck cX4_leastWitness (16 * 0) xt_75_0 = true := by decide +kernel
theorem xd_75_1 : xe_dck cX4_leastWitness (16 * 1) xt_75_1 = true := by decide +kernel
theorem xd_75_2 : xe_dck cX4_leastWitness (16 * 2) xt_75_2 = true := by decide +kernel
theorem xd_75_3 : xe_dck cX4_leastWitness (16 * 3) xt_75_3 = true := by decide +kernel
theorem xd_75_4 : xe_dck cX4_leastWitness (16 * 4) xt_75_4 = true := by decide +kernel
theorem xd_75_5 : xe_dck cX4_leastWitness (16 * 5) xt_75_5 = true := by decide +kernel
theorem xk_75 : xOK xMT xCLs xWS xNS 75 := xOK_of [300] [] [[591, 593, 27]] 590 63 ⟨xd_75_0, xd_75_1, xd_75_2, xd_75_3, xd_75_4, xd_75_5, trivial⟩ (by decide +kernel) rfl (by decide +kernel) (by decide +kernel) (by decide +kernel) (by decide +kernel) (by decide +kernel)
theorem xd_76_0 : xe_dck cX4_showsBad (16 * 0) xt_76_0 = true := by decide +kernel
theorem xd_76_1 : xe_dck cX4_showsBad (16 * 1) xt_76_1 = true := by decide +kernel
theorem xd_76_2 : xe_dck cX4_showsBad (16 * 2) xt_76_2 = true := by decide +kernel
theorem xd_76_3 : xe_dck cX4_showsBad (16 * 3) xt_76_3 = true := by decide +kernel
theorem xk_76 : xOK xMT xCLs xWS xNS 76 := xOK_of [298, 299, 149, 300, 147, 151] [] [[390, 391, 392]] 594 63 ⟨xd_76_0, xd_76_1, xd_76_2, xd_76_3, trivial⟩ (by decide +kernel) rfl (by decide +kernel) (by decide +kernel) (by decide +kernel) (by decide +kernel) (by decide +kernel)
theorem xd_77_0 : xe_dck cX4_isFunction (16 * 0) xt_77_0 = true := by decide +kernel
theorem xk_77 : xOK xMT xCLs xWS xNS 77 := xOK_of [] [] [] 344 63 ⟨xd_77_0, trivial⟩ (by decide +kernel) rfl (by decide +kernel) (by decide +kernel) (by decide +kernel) (by decide +kernel) (by decide +kernel)
theorem xd_78_0 : xe_dck cX4_isCell (16 * 0) xt_78_0 = true := by decide +kernel
theorem xk_78 : xOK xMT xCLs xWS xNS 78 := xOK_of [] [] [] 350 63 ⟨xd_78_0, trivial⟩ (by decide +kernel) rfl (by decide +kernel) (by decide +kernel) (by decide +kernel) (by decide +kernel) (by decide +kernel)
theorem xd_79_0 : xe_dck cX4_isRow (16 * 0) xt_79_0 = true := by decide +kernel
theorem xd_79_1 : xe_dck cX4_isRow (16 * 1) xt_79_1 = true := by decide +kernel
theorem xk_79 : xOK xMT xCLs xWS xNS 79 := xOK_of [] [] [[348, 349]] 353 63 ⟨xd_79_0, xd_79_1, trivial⟩ (by decide +kernel) rfl (by decide +kernel) (by decide +kernel) (by decide +kernel) (by decide +kernel) (by decide +kernel)
theorem xd_80_0 : xe_dck cX4_isAsTold (16 * 0) xt_80_0 = true := by decide +kernel
theorem xd_80_1 : xe_dck cX4_isAsTold (16 * 1) xt_80_1 = true := by decide +kernel
theorem xd_80_2 : xe_dck cX4_isAsTold (16 * 2) xt_80_2 = true := by decide +kernel
theorem xd_80_3 : xe_dck cX4_isAsTold (16 * 3) xt_80_3 = true := by decide +kernel
theorem xd_80_4 : xe_dck cX4_isAsTold (16 * 4) xt_80_4 = true := by decide +kernel
theorem xd_80_5 : xe_dck cX4_isAsTold (16 * 5) xt_80_5 = true := by decide +kernel
theorem xd_80_6 : xe_dck cX4_isAsTold (16 * 6) xt_80_6 = true := by decide +kernel
theorem xd_80_7 : xe_dck cX4_isAsTold (16 * 7) xt_80_7 = true := by decide +kernel
theorem xd_80_8 : xe_dck cX4_isAsTold (16 * 8) xt_80_8 = true := by decide +kernel
theorem xd_80_9 : xe_dck cX4_isAsTold (16 * 9) xt_80_9 = true := by decide +kernel
theorem xd_80_10 : xe_dck cX4_isAsTold (16 * 10) xt_80_10 = true := by decide +kernel
theorem xd_80_11 : xe_dck cX4_isAsTold (16 * 11) xt_80_11 = true := by decide +kernel
theorem xd_80_12 : xe_dck cX4_isAsTold (16 * 12) xt_80_12 = true := by decide +kernel
theorem xd_80_13 : xe_dck cX4_isAsTold (16 * 13) xt_80_13 = true := by decide +kernel
theorem xd_80_14 : xe_dck cX4_isAsTold (16 * 14) xt_80_14 = true := by decide +kernel
theorem xd_80_15 : xe_dck cX4_isAsTold (16 * 15) xt_80_15 = true := by decide +kernel
theorem xd_80_16 : xe_dck cX4_isAsTold (16 * 16) xt_80_16 = true := by decide +kernel
theorem xd_80_17 : xe_dck cX4_isAsTold (16 * 17) xt_80_17 = true := by decide +kernel
theorem xd_80_18 : xe_dck cX4_isAsTold (16 * 18) xt_80_18 = true := by decide +kernel
theorem xd_80_19 : xe_dck cX4_isAsTold (16 * 19) xt_80_19 = true := by decide +kernel
theorem xd_80_20 : xe_dck cX4_isAsTold (16 * 20) xt_80_20 = true := by decide +kernel
theorem xd_80_21 : xe_dck cX4_isAsTold (16 * 21) xt_80_21 = true := by decide +kernel
theorem xk_80 : xOK xMT xCLs xWS xNS 80 := xOK_of [] [] [[348, 349], [351, 352], [342, 343]] 347 63 ⟨xd_80_0, xd_80_1, xd_80_2, xd_80_3, xd_80_4, xd_80_5, xd_80_6, xd_80_7, xd_80_8, xd_80_9, xd_80_10, xd_80_11, xd_80_12, xd_80_13, xd_80_14, xd_80_15, xd_80_16, xd_80_17, xd_80_18, xd_80_19, xd_80_20, xd_80_21, trivial⟩ (by decide +kernel) rfl (by decide +kernel) (by decide +kernel) (by decide +kernel) (by decide +kernel) (by decide +kernel)
theorem xd_81_0 : xe_dck cX4_locate (16 * 0) xt_81_0 = true := by decide +kernel
theorem xk_81 : xOK xMT xCLs xWS xNS 81 := xOK_of [] [] [] 360 63 ⟨xd_81_0, trivial⟩ (by decide +kernel) rfl (by decide +kernel) (by decide +kernel) (by decide +kernel) (by decide +kernel) (by decide +kernel)
theorem xd_82_0 : xe_dck cX4_functionAt (16 * 0) xt_82_0 = true := by decide +kernel
theorem xk_82 : xOK xMT xCLs xWS xNS 82 := xOK_of [] [] [] 466 63 ⟨xd_82_0, trivial⟩ (by decide +kernel) rfl (by decide +kernel) (by decide +kernel) (by decide +kernel) (by decide +kernel) (by decide +kernel)
theorem xd_83_0 : xe_dck cX4_instructionAt (16 * 0) xt_83_0 = true := by decide +kernel
theorem xk_83 : xOK xMT xCLs xWS xNS 83 := xOK_of [] [] [] 469 63 ⟨xd_83_0, trivial⟩ (by decide +kernel) rfl (by decide +kernel) (by decide +kernel) (by decide +kernel) (by decide +kernel) (by decide +kernel)
theorem xd_84_0 : xe_dck cX4_hasBit (16 * 0) xt_84_0 = true := by decide +kernel
theorem xk_84 : xOK xMT xCLs xWS xNS 84 := xOK_of [] [] [] 414 63 ⟨xd_84_0, trivial⟩ (by decide +kernel) rfl (by decide +kernel) (by decide +kernel) (by decide +kernel) (by decide +kernel) (by decide +kernel)
theorem xd_85_0 : xe_dck cX4_rowOf (16 * 0) xt_85_0 = true := by decide +kernel
theorem xk_85 : xOK xMT xCLs xWS xNS 85 := xOK_of [] [] [] 535 63 ⟨xd_85_0, trivial⟩ (by decide +kernel) rfl (by decide +kernel) (by decide +kernel) (by decide +kernel) (by decide +kernel) (by decide +kernel)
theorem xd_86_0 : xe_dck cX4_withRowCopied (16 * 0) xt_86_0 = true := by decide +kernel
theorem xd_86_1 : xe_dck cX4_withRowCopied (16 * 1) xt_86_1 = true := by decide +kernel
theorem xk_86 : xOK xMT xCLs xWS xNS 86 := xOK_of [] [] [] 432 63 ⟨xd_86_0, xd_86_1, trivial⟩ (by decide +kernel) rfl (by decide +kernel) (by decide +kernel) (by decide +kernel) (by decide +kernel) (by decide +kernel)
theorem xd_87_0 : xe_dck cX4_withBit (16 * 0) xt_87_0 = true := by decide +kernel
theorem xd_87_1 : xe_dck cX4_withBit (16 * 1) xt_87_1 = true := by decide +kernel
theorem xk_87 : xOK xMT xCLs xWS xNS 87 := xOK_of [] [] [] 451 63 ⟨xd_87_0, xd_87_1, trivial⟩ (by decide +kernel) rfl (by decide +kernel) (by decide +kernel) (by decide +kernel) (by decide +kernel) (by decide +kernel)
theorem xd_88_0 : xe_dck cX5_in (16 * 0) xt_88_0 = true := by decide +kernel
theorem xk_88 : xOK xMT xCLs xWS xNS 88 := xOK_of [] [] [] 894 68 ⟨xd_88_0, trivial⟩ (by decide +kernel) rfl (by decide +kernel) (by decide +kernel) (by decide +kernel) (by decide +kernel) (by decide +kernel)
theorem xd_89_0 : xe_dck cX5_isFunction (16 * 0) xt_89_0 = true := by decide +kernel
theorem xk_89 : xOK xMT xCLs xWS xNS 89 := xOK_of [] [] [[892, 893]] 891 68 ⟨xd_89_0, trivial⟩ (by decide +kernel) rfl (by decide +kernel) (by decide +kernel) (by decide +kernel) (by decide +kernel) (by decide +kernel)
theorem xd_90_0 : xe_dck cX5_isCell (16 * 0) xt_90_0 = true := by decide +kernel
theorem xk_90 : xOK xMT xCLs xWS xNS 90 := xOK_of [] [] [[892, 893]] 900 68 ⟨xd_90_0, trivial⟩ (by decide +kernel) rfl (by decide +kernel) (by decide +kernel) (by decide +kernel) (by decide +kernel) (by decide +kernel)
theorem xd_91_0 : xe_dck cX5_isRow (16 * 0) xt_91_0 = true := by decide +kernel
theorem xd_91_1 : xe_dck cX5_isRow (16 * 1) xt_91_1 = true := by decide +kernel
theorem xk_91 : xOK xMT xCLs xWS xNS 91 := xOK_of [] [] [[898, 899], [892, 893]] 903 68 ⟨xd_91_0, xd_91_1, trivial⟩ (by decide +kernel) rfl (by decide +kernel) (by decide +kernel) (by decide +kernel) (by decide +kernel) (by decide +kernel)
theorem xd_92_0 : xe_dck cX5_isGood (16 * 0) xt_92_0 = true := by decide +kernel
theorem xd_92_1 : xe_dck cX5_isGood (16 * 1) xt_92_1 = true := by decide +kernel
theorem xd_92_2 : xe_dck cX5_isGood (16 * 2) xt_92_2 = true := by decide +kernel
theorem xd_92_3 : xe_dck cX5_isGood (16 * 3) xt_92_3 = true := by decide +kernel
theorem xd_92_4 : xe_dck cX5_isGood (16 * 4) xt_92_4 = true := by decide +kernel
theorem xd_92_5 : xe_dck cX5_isGood (16 * 5) xt_92_5 = true := by decide +kernel
theorem xd_92_6 : xe_dck cX5_isGood (16 * 6) xt_92_6 = true := by decide +kernel
theorem xd_92_7 : xe_dck cX5_isGood (16 * 7) xt_92_7 = true := by decide +kernel
theorem xd_92_8 : xe_dck cX5_isGood (16 * 8) xt_92_8 = true := by decide +kernel
theorem xd_92_9 : xe_dck cX5_isGood (16 * 9) xt_92_9 = true := by decide +kernel
theorem xd_92_10 : xe_dck cX5_isGood (16 * 10) xt_92_10 = true := by decide +kernel
theorem xd_92_11 : xe_dck cX5_isGood (16 * 11) xt_92_11 = true := by decide +kernel
theorem xd_92_12 : xe_dck cX5_isGood (16 * 12) xt_92_12 = true := by decide +kernel
theorem xd_92_13 : xe_dck cX5_isGood (16 * 13) xt_92_13 = true := by decide +kernel
theorem xd_92_14 : xe_dck cX5_isGood (16 * 14) xt_92_14 = true := by decide +kernel
theorem xd_92_15 : xe_dck cX5_isGood (16 * 15) xt_92_15 = true := by decide +kernel
theorem xd_92_16 : xe_dck cX5_isGood (16 * 16) xt_92_16 = true := by decide +kernel
theorem xd_92_17 : xe_dck cX5_isGood (16 * 17) xt_92_17 = true := by decide +kernel
theorem xd_92_18 : xe_dck cX5_isGood (16 * 18) xt_92_18 = true := by decide +kernel
theorem xd_92_19 : xe_dck cX5_isGood (16 * 19) xt_92_19 = true := by decide +kernel
theorem xd_92_20 : xe_dck cX5_isGood (16 * 20) xt_92_20 = true := by decide +kernel
theorem xd_92_21 : xe_dck cX5_isGood (16 * 21) xt_92_21 = true := by decide +kernel
theorem xk_92 : xOK xMT xCLs xWS xNS 92 := xOK_of [] [] [[898, 899], [892, 893], [901, 902], [889, 890]] 897 68 ⟨xd_92_0, xd_92_1, xd_92_2, xd_92_3, xd_92_4, xd_92_5, xd_92_6, xd_92_7, xd_92_8, xd_92_9, xd_92_10, xd_92_11, xd_92_12, xd_92_13, xd_92_14, xd_92_15, xd_92_16, xd_92_17, xd_92_18, xd_92_19, xd_92_20, xd_92_21, trivial⟩ (by decide +kernel) rfl (by decide +kernel) (by decide +kernel) (by decide +kernel) (by decide +kernel) (by decide +kernel)
theorem xd_93_0 : xe_dck cX5_puts (16 * 0) xt_93_0 = true := by decide +kernel
theorem xd_93_1 : xe_dck cX5_puts (16 * 1) xt_93_1 = true := by decide +kernel
theorem xd_93_2 : xe_dck cX5_puts (16 * 2) xt_93_2 = true := by decide +kernel
theorem xd_93_3 : xe_dck cX5_puts (16 * 3) xt_93_3 = true := by decide +kernel
theorem xd_93_4 : xe_dck cX5_puts (16 * 4) xt_93_4 = true := by decide +kernel
theorem xk_93 : xOK xMT xCLs xWS xNS 93 := xOK_of [716, 721] [] [] 907 68 ⟨xd_93_0, xd_93_1, xd_93_2, xd_93_3, xd_93_4, trivial⟩ (by decide +kernel) rfl (by decide +kernel) (by decide +kernel) (by decide +kernel) (by decide +kernel) (by decide +kernel)
theorem xd_94_0 : xe_dck cX5_code (16 * 0) xt_94_0 = true := by decide +kernel
theorem xd_94_1 : xe_dck cX5_code (16 * 1) xt_94_1 = true := by decide +kernel
theorem xd_94_2 : xe_dck cX5_code (16 * 2) xt_94_2 = true := by decide +kernel
theorem xd_94_3 : xe_dck cX5_code (16 * 3) xt_94_3 = true := by decide +kernel
theorem xd_94_4 : xe_dck cX5_code (16 * 4) xt_94_4 = true := by decide +kernel
theorem xk_94 : xOK xMT xCLs xWS xNS 94 := xOK_of [717] [] [[889, 890], [895, 896], [904, 906, 37]] 888 68 ⟨xd_94_0, xd_94_1, xd_94_2, xd_94_3, xd_94_4, trivial⟩ (by decide +kernel) rfl (by decide +kernel) (by decide +kernel) (by decide +kernel) (by decide +kernel) (by decide +kernel)
theorem xd_95_0 : xe_dck cX5_change (16 * 0) xt_95_0 = true := by decide +kernel
theorem xd_95_1 : xe_dck cX5_change (16 * 1) xt_95_1 = true := by decide +kernel
theorem xd_95_2 : xe_dck cX5_change (16 * 2) xt_95_2 = true := by decide +kernel
theorem xd_95_3 : xe_dck cX5_change (16 * 3) xt_95_3 = true := by decide +kernel
theorem xk_95 : xOK xMT xCLs xWS xNS 95 := xOK_of [717] [] [[889, 890], [892, 893], [895, 896], [904, 906, 37]] 911 68 ⟨xd_95_0, xd_95_1, xd_95_2, xd_95_3, trivial⟩ (by decide +kernel) rfl (by decide +kernel) (by decide +kernel) (by decide +kernel) (by decide +kernel) (by decide +kernel)
theorem xd_96_0 : xe_dck cX5_clear (16 * 0) xt_96_0 = true := by decide +kernel
theorem xd_96_1 : xe_dck cX5_clear (16 * 1) xt_96_1 = true := by decide +kernel
theorem xk_96 : xOK xMT xCLs xWS xNS 96 := xOK_of [717, 721] [] [[889, 890]] 915 68 ⟨xd_96_0, xd_96_1, trivial⟩ (by decide +kernel) rfl (by decide +kernel) (by decide +kernel) (by decide +kernel) (by decide +kernel) (by decide +kernel)
theorem xd_97_0 : xe_dck cX5_input (16 * 0) xt_97_0 = true := by decide +kernel
theorem xd_97_1 : xe_dck cX5_input (16 * 1) xt_97_1 = true := by decide +kernel
theorem xd_97_2 : xe_dck cX5_input (16 * 2) xt_97_2 = true := by decide +kernel
theorem xk_97 : xOK xMT xCLs xWS xNS 97 := xOK_of [720, 719] [] [[892, 893]] 919 68 ⟨xd_97_0, xd_97_1, xd_97_2, trivial⟩ (by decide +kernel) rfl (by decide +kernel) (by decide +kernel) (by decide +kernel) (by decide +kernel) (by decide +kernel)
theorem xd_98_0 : xe_dck cX5_empty (16 * 0) xt_98_0 = true := by decide +kernel
theorem xk_98 : xOK xMT xCLs xWS xNS 98 := xOK_of [720] [] [] 923 68 ⟨xd_98_0, trivial⟩ (by decide +kernel) rfl (by decide +kernel) (by decide +kernel) (by decide +kernel) (by decide +kernel) (by decide +kernel)
theorem xd_99_0 : xe_dck cX5_reads (16 * 0) xt_99_0 = true := by decide +kernel
theorem xd_99_1 : xe_dck cX5_reads (16 * 1) xt_99_1 = true := by decide +kernel
theorem xd_99_2 : xe_dck cX5_reads (16 * 2) xt_99_2 = true := by decide +kernel
theorem xd_99_3 : xe_dck cX5_reads (16 * 3) xt_99_3 = true := by decide +kernel
theorem xd_99_4 : xe_dck cX5_reads (16 * 4) xt_99_4 = true := by decide +kernel
theorem xk_99 : xOK xMT xCLs xWS xNS 99 := xOK_of [733, 734, 732, 720, 719] [] [] 954 68 ⟨xd_99_0, xd_99_1, xd_99_2, xd_99_3, xd_99_4, trivial⟩ (by decide +kernel) rfl (by decide +kernel) (by decide +kernel) (by decide +kernel) (by decide +kernel) (by decide +kernel)
theorem xd_100_0 : xe_dck cX5_uses (16 * 0) xt_100_0 = true := by decide +kernel
theorem xd_100_1 : xe_dck cX5_uses (16 * 1) xt_100_1 = true := by decide +kernel
theorem xd_100_2 : xe_dck cX5_uses (16 * 2) xt_100_2 = true := by decide +kernel
theorem xd_100_3 : xe_dck cX5_uses (16 * 3) xt_100_3 = true := by decide +kernel
theorem xk_100 : xOK xMT xCLs xWS xNS 100 := xOK_of [723, 727, 728, 729, 735, 736, 737] [] [] 935 68 ⟨xd_100_0, xd_100_1, xd_100_2, xd_100_3, trivial⟩ (by decide +kernel) rfl (by decide +kernel) (by decide +kernel) (by decide +kernel) (by decide +kernel) (by decide +kernel)
theorem xd_101_0 : xe_dck cX5_placed (16 * 0) xt_101_0 = true := by decide +kernel
theorem xk_101 : xOK xMT xCLs xWS xNS 101 := xOK_of [] [] [] 938 68 ⟨xd_101_0, trivial⟩ (by decide +kernel) rfl (by decide +kernel) (by decide +kernel) (by decide +kernel) (by decide +kernel) (by decide +kernel)
theorem xd_102_0 : xe_dck cX5_copies (16 * 0) xt_102_0 = true := by decide +kernel
theorem xd_102_1 : xe_dck cX5_copies (16 * 1) xt_102_1 = true := by decide +kernel
theorem xd_102_2 : xe_dck cX5_copies (16 * 2) xt_102_2 = true := by decide +kernel
theorem xd_102_3 : xe_dck cX5_copies (16 * 3) xt_102_3 = true := by decide +kernel
theorem xd_102_4 : xe_dck cX5_copies (16 * 4) xt_102_4 = true := by decide +kernel
theorem xd_102_5 : xe_dck cX5_copies (16 * 5) xt_102_5 = true := by decide +kernel
theorem xk_102 : xOK xMT xCLs xWS xNS 102 := xOK_of [738, 722, 739, 723] [] [] 950 68 ⟨xd_102_0, xd_102_1, xd_102_2, xd_102_3, xd_102_4, xd_102_5, trivial⟩ (by decide +kernel) rfl (by decide +kernel) (by decide +kernel) (by decide +kernel) (by decide +kernel) (by decide +kernel)
theorem xd_103_0 : xe_dck cX5_fills (16 * 0) xt_103_0 = true := by decide +kernel
theorem xd_103_1 : xe_dck cX5_fills (16 * 1) xt_103_1 = true := by decide +kernel
theorem xd_103_2 : xe_dck cX5_fills (16 * 2) xt_103_2 = true := by decide +kernel
theorem xk_103 : xOK xMT xCLs xWS xNS 103 := xOK_of [722, 723] [] [] 946 68 ⟨xd_103_0, xd_103_1, xd_103_2, trivial⟩ (by decide +kernel) rfl (by decide +kernel) (by decide +kernel) (by decide +kernel) (by decide +kernel) (by decide +kernel)
theorem xd_104_0 : xe_dck cX5_does (16 * 0) xt_104_0 = true := by decide +kernel
theorem xd_104_1 : xe_dck cX5_does (16 * 1) xt_104_1 = true := by decide +kernel
theorem xd_104_2 : xe_dck cX5_does (16 * 2) xt_104_2 = true := by decide +kernel
theorem xd_104_3 : xe_dck cX5_does (16 * 3) xt_104_3 = true := by decide +kernel
theorem xd_104_4 : xe_dck cX5_does (16 * 4) xt_104_4 = true := by decide +kernel
theorem xd_104_5 : xe_dck cX5_does (16 * 5) xt_104_5 = true := by decide +kernel
theorem xd_104_6 : xe_dck cX5_does (16 * 6) xt_104_6 = true := by decide +kernel
theorem xd_104_7 : xe_dck cX5_does (16 * 7) xt_104_7 = true := by decide +kernel
theorem xd_104_8 : xe_dck cX5_does (16 * 8) xt_104_8 = true := by decide +kernel
theorem xd_104_9 : xe_dck cX5_does (16 * 9) xt_104_9 = true := by decide +kernel
theorem xd_104_10 : xe_dck cX5_does (16 * 10) xt_104_10 = true := by decide +kernel
theorem xd_104_11 : xe_dck cX5_does (16 * 11) xt_104_11 = true := by decide +kernel
theorem xd_104_12 : xe_dck cX5_does (16 * 12) xt_104_12 = true := by decide +kernel
theorem xd_104_13 : xe_dck cX5_does (16 * 13) xt_104_13 = true := by decide +kernel
theorem xd_104_14 : xe_dck cX5_does (16 * 14) xt_104_14 = true := by decide +kernel
theorem xd_104_15 : xe_dck cX5_does (16 * 15) xt_104_15 = true := by decide +kernel
theorem xd_104_16 : xe_dck cX5_does (16 * 16) xt_104_16 = true := by decide +kernel
theorem xd_104_17 : xe_dck cX5_does (16 * 17) xt_104_17 = true := by decide +kernel
theorem xd_104_18 : xe_dck cX5_does (16 * 18) xt_104_18 = true := by decide +kernel
theorem xd_104_19 : xe_dck cX5_does (16 * 19) xt_104_19 = true := by decide +kernel
theorem xd_104_20 : xe_dck cX5_does (16 * 20) xt_104_20 = true := by decide +kernel
theorem xd_104_21 : xe_dck cX5_does (16 * 21) xt_104_21 = true := by decide +kernel
theorem xd_104_22 : xe_dck cX5_does (16 * 22) xt_104_22 = true := by decide +kernel
theorem xk_104 : xOK xMT xCLs xWS xNS 104 := xOK_of [716, 722, 723, 730, 731] [] [[943, 945, 41], [947, 949, 42], [951, 953, 43], [932, 934, 39]] 942 68 ⟨xd_104_0, xd_104_1, xd_104_2, xd_104_3, xd_104_4, xd_104_5, xd_104_6, xd_104_7, xd_104_8, xd_104_9, xd_104_10, xd_104_11, xd_104_12, xd_104_13, xd_104_14, xd_104_15, xd_104_16, xd_104_17, xd_104_18, xd_104_19, xd_104_20, xd_104_21, xd_104_22, trivial⟩ (by decide +kernel) rfl (by decide +kernel) (by decide +kernel) (by decide +kernel) (by decide +kernel) (by decide +kernel)
theorem xd_105_0 : xe_dck cX5_runs (16 * 0) xt_105_0 = true := by decide +kernel
theorem xd_105_1 : xe_dck cX5_runs (16 * 1) xt_105_1 = true := by decide +kernel
theorem xd_105_2 : xe_dck cX5_runs (16 * 2) xt_105_2 = true := by decide +kernel
theorem xd_105_3 : xe_dck cX5_runs (16 * 3) xt_105_3 = true := by decide +kernel
theorem xd_105_4 : xe_dck cX5_runs (16 * 4) xt_105_4 = true := by decide +kernel
theorem xd_105_5 : xe_dck cX5_runs (16 * 5) xt_105_5 = true := by decide +kernel
theorem xd_105_6 : xe_dck cX5_runs (16 * 6) xt_105_6 = true := by decide +kernel
theorem xd_105_7 : xe_dck cX5_runs (16 * 7) xt_105_7 = true := by decide +kernel
theorem xd_105_8 : xe_dck cX5_runs (16 * 8) xt_105_8 = true := by decide +kernel
theorem xd_105_9 : xe_dck cX5_runs (16 * 9) xt_105_9 = true := by decide +kernel
theorem xd_105_10 : xe_dck cX5_runs (16 * 10) xt_105_10 = true := by decide +kernel
theorem xd_105_11 : xe_dck cX5_runs (16 * 11) xt_105_11 = true := by decide +kernel
theorem xd_105_12 : xe_dck cX5_runs (16 * 12) xt_105_12 = true := by decide +kernel
theorem xd_105_13 : xe_dck cX5_runs (16 * 13) xt_105_13 = true := by decide +kernel
theorem xd_105_14 : xe_dck cX5_runs (16 * 14) xt_105_14 = true := by decide +kernel
theorem xd_105_15 : xe_dck cX5_runs (16 * 15) xt_105_15 = true := by decide +kernel
theorem xd_105_16 : xe_dck cX5_runs (16 * 16) xt_105_16 = true := by decide +kernel
theorem xd_105_17 : xe_dck cX5_runs (16 * 17) xt_105_17 = true := by decide +kernel
theorem xd_105_18 : xe_dck cX5_runs (16 * 18) xt_105_18 = true := by decide +kernel
theorem xd_105_19 : xe_dck cX5_runs (16 * 19) xt_105_19 = true := by decide +kernel
theorem xk_105 : xOK xMT xCLs xWS xNS 105 := xOK_of [722, 723, 726, 727, 728, 729, 730, 734, 737, 724, 725, 717, 716] [] [[932, 934, 39], [936, 937], [939, 941, 40]] 931 68 ⟨xd_105_0, xd_105_1, xd_105_2, xd_105_3, xd_105_4, xd_105_5, xd_105_6, xd_105_7, xd_105_8, xd_105_9, xd_105_10, xd_105_11, xd_105_12, xd_105_13, xd_105_14, xd_105_15, xd_105_16, xd_105_17, xd_105_18, xd_105_19, trivial⟩ (by decide +kernel) rfl (by decide +kernel) (by decide +kernel) (by decide +kernel) (by decide +kernel) (by decide +kernel)
theorem xd_106_0 : xe_dck cX5_run (16 * 0) xt_106_0 = true := by decide +kernel
theorem xd_106_1 : xe_dck cX5_run (16 * 1) xt_106_1 = true := by decide +kernel
theorem xd_106_2 : xe_dck cX5_run (16 * 2) xt_106_2 = true := by decide +kernel
theorem xd_106_3 : xe_dck cX5_run (16 * 3) xt_106_3 = true := by decide +kernel
theorem xd_106_4 : xe_dck cX5_run (16 * 4) xt_106_4 = true := by decide +kernel
theorem xd_106_5 : xe_dck cX5_run (16 * 5) xt_106_5 = true := by decide +kernel
theorem xd_106_6 : xe_dck cX5_run (16 * 6) xt_106_6 = true := by decide +kernel
theorem xd_106_7 : xe_dck cX5_run (16 * 7) xt_106_7 = true := by decide +kernel
theorem xd_106_8 : xe_dck cX5_run (16 * 8) xt_106_8 = true := by decide +kernel
theorem xk_106 : xOK xMT xCLs xWS xNS 106 := xOK_of [733, 735, 740, 726, 741, 727, 742, 728, 743, 729, 744, 730, 745, 746, 731, 747, 722, 748, 723] [] [[928, 930, 38]] 927 68 ⟨xd_106_0, xd_106_1, xd_106_2, xd_106_3, xd_106_4, xd_106_5, xd_106_6, xd_106_7, xd_106_8, trivial⟩ (by decide +kernel) rfl (by decide +kernel) (by decide +kernel) (by decide +kernel) (by decide +kernel) (by decide +kernel)
theorem xd_107_0 : xe_dck cX5_ran (16 * 0) xt_107_0 = true := by decide +kernel
theorem xd_107_1 : xe_dck cX5_ran (16 * 1) xt_107_1 = true := by decide +kernel
theorem xd_107_2 : xe_dck cX5_ran (16 * 2) xt_107_2 = true := by decide +kernel
theorem xd_107_3 : xe_dck cX5_ran (16 * 3) xt_107_3 = true := by decide +kernel
theorem xd_107_4 : xe_dck cX5_ran (16 * 4) xt_107_4 = true := by decide +kernel
theorem xd_107_5 : xe_dck cX5_ran (16 * 5) xt_107_5 = true := by decide +kernel
theorem xd_107_6 : xe_dck cX5_ran (16 * 6) xt_107_6 = true := by decide +kernel
theorem xk_107 : xOK xMT xCLs xWS xNS 107 := xOK_of [740, 741, 742, 743, 744, 745, 748] [] [] 958 68 ⟨xd_107_0, xd_107_1, xd_107_2, xd_107_3, xd_107_4, xd_107_5, xd_107_6, trivial⟩ (by decide +kernel) rfl (by decide +kernel) (by decide +kernel) (by decide +kernel) (by decide +kernel) (by decide +kernel)
theorem xd_108_0 : xe_dck cX5_printed (16 * 0) xt_108_0 = true := by decide +kernel
theorem xd_108_1 : xe_dck cX5_printed (16 * 1) xt_108_1 = true := by decide +kernel
theorem xd_108_2 : xe_dck cX5_printed (16 * 2) xt_108_2 = true := by decide +kernel
theorem xk_108 : xOK xMT xCLs xWS xNS 108 := xOK_of [740, 745, 746] [] [[892, 893]] 962 68 ⟨xd_108_0, xd_108_1, xd_108_2, trivial⟩ (by decide +kernel) rfl (by decide +kernel) (by decide +kernel) (by decide +kernel) (by decide +kernel) (by decide +kernel)
theorem xd_109_0 : xe_dck cX5_cell (16 * 0) xt_109_0 = true := by decide +kernel
theorem xd_109_1 : xe_dck cX5_cell (16 * 1) xt_109_1 = true := by decide +kernel
theorem xd_109_2 : xe_dck cX5_cell (16 * 2) xt_109_2 = true := by decide +kernel
theorem xd_109_3 : xe_dck cX5_cell (16 * 3) xt_109_3 = true := by decide +kernel
theorem xk_109 : xOK xMT xCLs xWS xNS 109 := xOK_of [740, 747, 748] [] [[898, 899]] 966 68 ⟨xd_109_0, xd_109_1, xd_109_2, xd_109_3, trivial⟩ (by decide +kernel) rfl (by decide +kernel) (by decide +kernel) (by decide +kernel) (by decide +kernel) (by decide +kernel)
theorem xd_110_0 : xe_dck cX5_witness (16 * 0) xt_110_0 = true := by decide +kernel
theorem xd_110_1 : xe_dck cX5_witness (16 * 1) xt_110_1 = true := by decide +kernel
theorem xd_110_2 : xe_dck cX5_witness (16 * 2) xt_110_2 = true := by decide +kernel
theorem xd_110_3 : xe_dck cX5_witness (16 * 3) xt_110_3 = true := by decide +kernel
theorem xd_110_4 : xe_dck cX5_witness (16 * 4) xt_110_4 = true := by decide +kernel
theorem xd_110_5 : xe_dck cX5_witness (16 * 5) xt_110_5 = true := by decide +kernel
theorem xd_110_6 : xe_dck cX5_witness (16 * 6) xt_110_6 = true := by decide +kernel
theorem xk_110 : xOK xMT xCLs xWS xNS 110 := xOK_of [717, 733, 735, 736, 732, 737] [] [[889, 890], [892, 893], [928, 930, 38]] 970 68 ⟨xd_110_0, xd_110_1, xd_110_2, xd_110_3, xd_110_4, xd_110_5, xd_110_6, trivial⟩ (by decide +kernel) rfl (by decide +kernel) (by decide +kernel) (by decide +kernel) (by decide +kernel) (by decide +kernel)
theorem xd_111_0 : xe_dck cX5_goes (16 * 0) xt_111_0 = true := by decide +kernel
theorem xd_111_1 : xe_dck cX5_goes (16 * 1) xt_111_1 = true := by decide +kernel
theorem xd_111_2 : xe_dck cX5_goes (16 * 2) xt_111_2 = true := by decide +kernel
theorem xd_111_3 : xe_dck cX5_goes (16 * 3) xt_111_3 = true := by decide +kernel
theorem xd_111_4 : xe_dck cX5_goes (16 * 4) xt_111_4 = true := by decide +kernel
theorem xd_111_5 : xe_dck cX5_goes (16 * 5) xt_111_5 = true := by decide +kernel
theorem xd_111_6 : xe_dck cX5_goes (16 * 6) xt_111_6 = true := by decide +kernel
theorem xk_111 : xOK xMT xCLs xWS xNS 111 := xOK_of [756, 749, 750, 757, 751, 758] [] [] 995 68 ⟨xd_111_0, xd_111_1, xd_111_2, xd_111_3, xd_111_4, xd_111_5, xd_111_6, trivial⟩ (by decide +kernel) rfl (by decide +kernel) (by decide +kernel) (by decide +kernel) (by decide +kernel) (by decide +kernel)
theorem xd_112_0 : xe_dck cX5_begins (16 * 0) xt_112_0 = true := by decide +kernel
theorem xd_112_1 : xe_dck cX5_begins (16 * 1) xt_112_1 = true := by decide +kernel
theorem xd_112_2 : xe_dck cX5_begins (16 * 2) xt_112_2 = true := by decide +kernel
theorem xd_112_3 : xe_dck cX5_begins (16 * 3) xt_112_3 = true := by decide +kernel
theorem xd_112_4 : xe_dck cX5_begins (16 * 4) xt_112_4 = true := by decide +kernel
theorem xd_112_5 : xe_dck cX5_begins (16 * 5) xt_112_5 = true := by decide +kernel
theorem xk_112 : xOK xMT xCLs xWS xNS 112 := xOK_of [757, 758, 759, 760, 755] [983] [[992, 994, 48]] 991 68 ⟨xd_112_0, xd_112_1, xd_112_2, xd_112_3, xd_112_4, xd_112_5, trivial⟩ (by decide +kernel) rfl (by decide +kernel) (by decide +kernel) (by decide +kernel) (by decide +kernel) (by decide +kernel)
theorem xd_113_0 : xe_dck cX5_returns (16 * 0) xt_113_0 = true := by decide +kernel
theorem xd_113_1 : xe_dck cX5_returns (16 * 1) xt_113_1 = true := by decide +kernel
theorem xd_113_2 : xe_dck cX5_returns (16 * 2) xt_113_2 = true := by decide +kernel
theorem xd_113_3 : xe_dck cX5_returns (16 * 3) xt_113_3 = true := by decide +kernel
theorem xd_113_4 : xe_dck cX5_returns (16 * 4) xt_113_4 = true := by decide +kernel
theorem xd_113_5 : xe_dck cX5_returns (16 * 5) xt_113_5 = true := by decide +kernel
theorem xd_113_6 : xe_dck cX5_returns (16 * 6) xt_113_6 = true := by decide +kernel
theorem xk_113 : xOK xMT xCLs xWS xNS 113 := xOK_of [756, 752, 753, 757, 754, 758] [] [] 999 68 ⟨xd_113_0, xd_113_1, xd_113_2, xd_113_3, xd_113_4, xd_113_5, xd_113_6, trivial⟩ (by decide +kernel) rfl (by decide +kernel) (by decide +kernel) (by decide +kernel) (by decide +kernel) (by decide +kernel)
theorem xd_114_0 : xe_dck cX5_row (16 * 0) xt_114_0 = true := by decide +kernel
theorem xk_114 : xOK xMT xCLs xWS xNS 114 := xOK_of [] [] [] 1010 68 ⟨xd_114_0, trivial⟩ (by decide +kernel) rfl (by decide +kernel) (by decide +kernel) (by decide +kernel) (by decide +kernel) (by decide +kernel)
theorem xd_115_0 : xe_dck cX5_sets (16 * 0) xt_115_0 = true := by decide +kernel
theorem xd_115_1 : xe_dck cX5_sets (16 * 1) xt_115_1 = true := by decide +kernel
theorem xd_115_2 : xe_dck cX5_sets (16 * 2) xt_115_2 = true := by decide +kernel
theorem xd_115_3 : xe_dck cX5_sets (16 * 3) xt_115_3 = true := by decide +kernel
theorem xd_115_4 : xe_dck cX5_sets (16 * 4) xt_115_4 = true := by decide +kernel
theorem xk_115 : xOK xMT xCLs xWS xNS 115 := xOK_of [757, 758] [983] [[1008, 1009]] 1007 68 ⟨xd_115_0, xd_115_1, xd_115_2, xd_115_3, xd_115_4, trivial⟩ (by decide +kernel) rfl (by decide +kernel) (by decide +kernel) (by decide +kernel) (by decide +kernel) (by decide +kernel)
theorem xd_116_0 : xe_dck cX5_has (16 * 0) xt_116_0 = true := by decide +kernel
theorem xk_116 : xOK xMT xCLs xWS xNS 116 := xOK_of [] [] [] 1013 68 ⟨xd_116_0, trivial⟩ (by decide +kernel) rfl (by decide +kernel) (by decide +kernel) (by decide +kernel) (by decide +kernel) (by decide +kernel)
theorem xd_117_0 : xe_dck cX5_changes (16 * 0) xt_117_0 = true := by decide +kernel
theorem xd_117_1 : xe_dck cX5_changes (16 * 1) xt_117_1 = true := by decide +kernel
theorem xd_117_2 : xe_dck cX5_changes (16 * 2) xt_117_2 = true := by decide +kernel
theorem xd_117_3 : xe_dck cX5_changes (16 * 3) xt_117_3 = true := by decide +kernel
theorem xd_117_4 : xe_dck cX5_changes (16 * 4) xt_117_4 = true := by decide +kernel
theorem xd_117_5 : xe_dck cX5_changes (16 * 5) xt_117_5 = true := by decide +kernel
theorem xd_117_6 : xe_dck cX5_changes (16 * 6) xt_117_6 = true := by decide +kernel
theorem xd_117_7 : xe_dck cX5_changes (16 * 7) xt_117_7 = true := by decide +kernel
theorem xd_117_8 : xe_dck cX5_changes (16 * 8) xt_117_8 = true := by decide +kernel
theorem xd_117_9 : xe_dck cX5_changes (16 * 9) xt_117_9 = true := by decide +kernel
theorem xd_117_10 : xe_dck cX5_changes (16 * 10) xt_117_10 = true := by decide +kernel
theorem xd_117_11 : xe_dck cX5_changes (16 * 11) xt_117_11 = true := by decide +kernel
theorem xd_117_12 : xe_dck cX5_changes (16 * 12) xt_117_12 = true := by decide +kernel
theorem xd_117_13 : xe_dck cX5_changes (16 * 13) xt_117_13 = true := by decide +kernel
theorem xd_117_14 : xe_dck cX5_changes (16 * 14) xt_117_14 = true := by decide +kernel
theorem xd_117_15 : xe_dck cX5_changes (16 * 15) xt_117_15 = true := by decide +kernel
theorem xd_117_16 : xe_dck cX5_changes (16 * 16) xt_117_16 = true := by decide +kernel
theorem xd_117_17 : xe_dck cX5_changes (16 * 17) xt_117_17 = true := by decide +kernel
theorem xd_117_18 : xe_dck cX5_changes (16 * 18) xt_117_18 = true := by decide +kernel
theorem xd_117_19 : xe_dck cX5_changes (16 * 19) xt_117_19 = true := by decide +kernel
theorem xd_117_20 : xe_dck cX5_changes (16 * 20) xt_117_20 = true := by decide +kernel
theorem xd_117_21 : xe_dck cX5_changes (16 * 21) xt_117_21 = true := by decide +kernel
theorem xd_117_22 : xe_dck cX5_changes (16 * 22) xt_117_22 = true := by decide +kernel
theorem xd_117_23 : xe_dck cX5_changes (16 * 23) xt_117_23 = true := by decide +kernel
theorem xd_117_24 : xe_dck cX5_changes (16 * 24) xt_117_24 = true := by decide +kernel
theorem xd_117_25 : xe_dck cX5_changes (16 * 25) xt_117_25 = true := by decide +kernel
theorem xd_117_26 : xe_dck cX5_changes (16 * 26) xt_117_26 = true := by decide +kernel
theorem xd_117_27 : xe_dck cX5_changes (16 * 27) xt_117_27 = true := by decide +kernel
theorem xd_117_28 : xe_dck cX5_changes (16 * 28) xt_117_28 = true := by decide +kernel
theorem xd_117_29 : xe_dck cX5_changes (16 * 29) xt_117_29 = true := by decide +kernel
theorem xd_117_30 : xe_dck cX5_changes (16 * 30) xt_117_30 = true := by decide +kernel
theorem xk_117 : xOK xMT xCLs xWS xNS 117 := xOK_of [716, 757, 758, 752, 753, 754, 717] [983] [[1004, 1006, 51], [1011, 1012], [1008, 1009], [996, 998, 49], [988, 990, 47], [936, 937], [992, 994, 48]] 1003 68 ⟨xd_117_0, xd_117_1, xd_117_2, xd_117_3, xd_117_4, xd_117_5, xd_117_6, xd_117_7, xd_117_8, xd_117_9, xd_117_10, xd_117_11, xd_117_12, xd_117_13, xd_117_14, xd_117_15, xd_117_16, xd_117_17, xd_117_18, xd_117_19, xd_117_20, xd_117_21, xd_117_22, xd_117_23, xd_117_24, xd_117_25, xd_117_26, xd_117_27, xd_117_28, xd_117_29, xd_117_30, trivial⟩ (by decide +kernel) rfl (by decide +kernel) (by decide +kernel) (by decide +kernel) (by decide +kernel) (by decide +kernel)
theorem xd_118_0 : xe_dck cX5_flows (16 * 0) xt_118_0 = true := by decide +kernel
theorem xd_118_1 : xe_dck cX5_flows (16 * 1) xt_118_1 = true := by decide +kernel
theorem xd_118_2 : xe_dck cX5_flows (16 * 2) xt_118_2 = true := by decide +kernel
theorem xd_118_3 : xe_dck cX5_flows (16 * 3) xt_118_3 = true := by decide +kernel
theorem xd_118_4 : xe_dck cX5_flows (16 * 4) xt_118_4 = true := by decide +kernel
theorem xd_118_5 : xe_dck cX5_flows (16 * 5) xt_118_5 = true := by decide +kernel
theorem xd_118_6 : xe_dck cX5_flows (16 * 6) xt_118_6 = true := by decide +kernel
theorem xd_118_7 : xe_dck cX5_flows (16 * 7) xt_118_7 = true := by decide +kernel
theorem xd_118_8 : xe_dck cX5_flows (16 * 8) xt_118_8 = true := by decide +kernel
theorem xd_118_9 : xe_dck cX5_flows (16 * 9) xt_118_9 = true := by decide +kernel
theorem xd_118_10 : xe_dck cX5_flows (16 * 10) xt_118_10 = true := by decide +kernel
theorem xd_118_11 : xe_dck cX5_flows (16 * 11) xt_118_11 = true := by decide +kernel
theorem xd_118_12 : xe_dck cX5_flows (16 * 12) xt_118_12 = true := by decide +kernel
theorem xd_118_13 : xe_dck cX5_flows (16 * 13) xt_118_13 = true := by decide +kernel
theorem xd_118_14 : xe_dck cX5_flows (16 * 14) xt_118_14 = true := by decide +kernel
theorem xd_118_15 : xe_dck cX5_flows (16 * 15) xt_118_15 = true := by decide +kernel
theorem xd_118_16 : xe_dck cX5_flows (16 * 16) xt_118_16 = true := by decide +kernel
theorem xk_118 : xOK xMT xCLs xWS xNS 118 := xOK_of [749, 750, 751, 752, 753, 754, 759, 760, 757, 758, 756, 717] [] [[988, 990, 47], [996, 998, 49], [1000, 1002, 50], [992, 994, 48]] 987 68 ⟨xd_118_0, xd_118_1, xd_118_2, xd_118_3, xd_118_4, xd_118_5, xd_118_6, xd_118_7, xd_118_8, xd_118_9, xd_118_10, xd_118_11, xd_118_12, xd_118_13, xd_118_14, xd_118_15, xd_118_16, trivial⟩ (by decide +kernel) rfl (by decide +kernel) (by decide +kernel) (by decide +kernel) (by decide +kernel) (by decide +kernel)
theorem xd_119_0 : xe_dck cX5_used (16 * 0) xt_119_0 = true := by decide +kernel
theorem xd_119_1 : xe_dck cX5_used (16 * 1) xt_119_1 = true := by decide +kernel
theorem xd_119_2 : xe_dck cX5_used (16 * 2) xt_119_2 = true := by decide +kernel
theorem xd_119_3 : xe_dck cX5_used (16 * 3) xt_119_3 = true := by decide +kernel
theorem xd_119_4 : xe_dck cX5_used (16 * 4) xt_119_4 = true := by decide +kernel
theorem xk_119 : xOK xMT xCLs xWS xNS 119 := xOK_of [716] [] [] 1025 68 ⟨xd_119_0, xd_119_1, xd_119_2, xd_119_3, xd_119_4, trivial⟩ (by decide +kernel) rfl (by decide +kernel) (by decide +kernel) (by decide +kernel) (by decide +kernel) (by decide +kernel)
theorem xd_120_0 : xe_dck cX5_isBad (16 * 0) xt_120_0 = true := by decide +kernel
theorem xd_120_1 : xe_dck cX5_isBad (16 * 1) xt_120_1 = true := by decide +kernel
theorem xd_120_2 : xe_dck cX5_isBad (16 * 2) xt_120_2 = true := by decide +kernel
theorem xd_120_3 : xe_dck cX5_isBad (16 * 3) xt_120_3 = true := by decide +kernel
theorem xk_120 : xOK xMT xCLs xWS xNS 120 := xOK_of [749, 751] [] [[1022, 1024, 54], [1011, 1012]] 1021 68 ⟨xd_120_0, xd_120_1, xd_120_2, xd_120_3, trivial⟩ (by decide +kernel) rfl (by decide +kernel) (by decide +kernel) (by decide +kernel) (by decide +kernel) (by decide +kernel)
theorem xd_121_0 : xe_dck cX5_badMany (16 * 0) xt_121_0 = true := by decide +kernel
theorem xd_121_1 : xe_dck cX5_badMany (16 * 1) xt_121_1 = true := by decide +kernel
theorem xd_121_2 : xe_dck cX5_badMany (16 * 2) xt_121_2 = true := by decide +kernel
theorem xd_121_3 : xe_dck cX5_badMany (16 * 3) xt_121_3 = true := by decide +kernel
theorem xk_121 : xOK xMT xCLs xWS xNS 121 := xOK_of [717] [] [[1018, 1020, 53]] 1017 68 ⟨xd_121_0, xd_121_1, xd_121_2, xd_121_3, trivial⟩ (by decide +kernel) rfl (by decide +kernel) (by decide +kernel) (by decide +kernel) (by decide +kernel) (by decide +kernel)
theorem xd_122_0 : xe_dck cX5_unmends (16 * 0) xt_122_0 = true := by decide +kernel
theorem xd_122_1 : xe_dck cX5_unmends (16 * 1) xt_122_1 = true := by decide +kernel
theorem xk_122 : xOK xMT xCLs xWS xNS 122 := xOK_of [755] [] [] 982 68 ⟨xd_122_0, xd_122_1, trivial⟩ (by decide +kernel) rfl (by decide +kernel) (by decide +kernel) (by decide +kernel) (by decide +kernel) (by decide +kernel)
theorem xd_123_0 : xe_dck cX5_flowsPlain (16 * 0) xt_123_0 = true := by decide +kernel
theorem xk_123 : xOK xMT xCLs xWS xNS 123 := xOK_of [] [983] [[979, 981, 45], [984, 986, 46]] 978 68 ⟨xd_123_0, trivial⟩ (by decide +kernel) rfl (by decide +kernel) (by decide +kernel) (by decide +kernel) (by decide +kernel) (by decide +kernel)
theorem xd_124_0 : xe_dck cX5_flow (16 * 0) xt_124_0 = true := by decide +kernel
theorem xk_124 : xOK xMT xCLs xWS xNS 124 := xOK_of [] [] [[975, 977, 44], [1014, 1016, 52]] 974 68 ⟨xd_124_0, trivial⟩ (by decide +kernel) rfl (by decide +kernel) (by decide +kernel) (by decide +kernel) (by decide +kernel) (by decide +kernel)
theorem xd_125_0 : xe_dck cX5_bad (16 * 0) xt_125_0 = true := by decide +kernel
theorem xd_125_1 : xe_dck cX5_bad (16 * 1) xt_125_1 = true := by decide +kernel
theorem xd_125_2 : xe_dck cX5_bad (16 * 2) xt_125_2 = true := by decide +kernel
theorem xd_125_3 : xe_dck cX5_bad (16 * 3) xt_125_3 = true := by decide +kernel
theorem xd_125_4 : xe_dck cX5_bad (16 * 4) xt_125_4 = true := by decide +kernel
theorem xd_125_5 : xe_dck cX5_bad (16 * 5) xt_125_5 = true := by decide +kernel
theorem xd_125_6 : xe_dck cX5_bad (16 * 6) xt_125_6 = true := by decide +kernel
theorem xd_125_7 : xe_dck cX5_bad (16 * 7) xt_125_7 = true := by decide +kernel
theorem xd_125_8 : xe_dck cX5_bad (16 * 8) xt_125_8 = true := by decide +kernel
theorem xd_125_9 : xe_dck cX5_bad (16 * 9) xt_125_9 = true := by decide +kernel
theorem xk_125 : xOK xMT xCLs xWS xNS 125 := xOK_of [717, 750] [] [[975, 977, 44], [1018, 1020, 53], [1022, 1024, 54], [1011, 1012]] 1029 68 ⟨xd_125_0, xd_125_1, xd_125_2, xd_125_3, xd_125_4, xd_125_5, xd_125_6, xd_125_7, xd_125_8, xd_125_9, trivial⟩ (by decide +kernel) rfl (by decide +kernel) (by decide +kernel) (by decide +kernel) (by decide +kernel) (by decide +kernel)
theorem xd_126_0 : xe_dck cX5_state (16 * 0) xt_126_0 = true := by decide +kernel
theorem xd_126_1 : xe_dck cX5_state (16 * 1) xt_126_1 = true := by decide +kernel
theorem xd_126_2 : xe_dck cX5_state (16 * 2) xt_126_2 = true := by decide +kernel
theorem xd_126_3 : xe_dck cX5_state (16 * 3) xt_126_3 = true := by decide +kernel
theorem xd_126_4 : xe_dck cX5_state (16 * 4) xt_126_4 = true := by decide +kernel
theorem xd_126_5 : xe_dck cX5_state (16 * 5) xt_126_5 = true := by decide +kernel
theorem xd_126_6 : xe_dck cX5_state (16 * 6) xt_126_6 = true := by decide +kernel
theorem xk_126 : xOK xMT xCLs xWS xNS 126 := xOK_of [717, 749, 750, 751] [] [[889, 890], [892, 893], [898, 899], [975, 977, 44], [1011, 1012]] 1033 68 ⟨xd_126_0, xd_126_1, xd_126_2, xd_126_3, xd_126_4, xd_126_5, xd_126_6, trivial⟩ (by decide +kernel) rfl (by decide +kernel) (by decide +kernel) (by decide +kernel) (by decide +kernel) (by decide +kernel)
theorem xd_127_0 : xe_dck cX5_kindOf (16 * 0) xt_127_0 = true := by decide +kernel
theorem xd_127_1 : xe_dck cX5_kindOf (16 * 1) xt_127_1 = true := by decide +kernel
theorem xd_127_2 : xe_dck cX5_kindOf (16 * 2) xt_127_2 = true := by decide +kernel
theorem xk_127 : xOK xMT xCLs xWS xNS 127 := xOK_of [750] [] [[1018, 1020, 53], [1022, 1024, 54], [1011, 1012]] 1041 68 ⟨xd_127_0, xd_127_1, xd_127_2, trivial⟩ (by decide +kernel) rfl (by decide +kernel) (by decide +kernel) (by decide +kernel) (by decide +kernel) (by decide +kernel)
theorem xd_128_0 : xe_dck cX5_needs (16 * 0) xt_128_0 = true := by decide +kernel
theorem xd_128_1 : xe_dck cX5_needs (16 * 1) xt_128_1 = true := by decide +kernel
theorem xd_128_2 : xe_dck cX5_needs (16 * 2) xt_128_2 = true := by decide +kernel
theorem xd_128_3 : xe_dck cX5_needs (16 * 3) xt_128_3 = true := by decide +kernel
theorem xd_128_4 : xe_dck cX5_needs (16 * 4) xt_128_4 = true := by decide +kernel
theorem xd_128_5 : xe_dck cX5_needs (16 * 5) xt_128_5 = true := by decide +kernel
theorem xd_128_6 : xe_dck cX5_needs (16 * 6) xt_128_6 = true := by decide +kernel
theorem xd_128_7 : xe_dck cX5_needs (16 * 7) xt_128_7 = true := by decide +kernel
theorem xd_128_8 : xe_dck cX5_needs (16 * 8) xt_128_8 = true := by decide +kernel
theorem xd_128_9 : xe_dck cX5_needs (16 * 9) xt_128_9 = true := by decide +kernel
theorem xd_128_10 : xe_dck cX5_needs (16 * 10) xt_128_10 = true := by decide +kernel
theorem xd_128_11 : xe_dck cX5_needs (16 * 11) xt_128_11 = true := by decide +kernel
theorem xd_128_12 : xe_dck cX5_needs (16 * 12) xt_128_12 = true := by decide +kernel
theorem xk_128 : xOK xMT xCLs xWS xNS 128 := xOK_of [717, 761] [983] [[889, 890], [979, 981, 45], [984, 986, 46], [1038, 1040, 55]] 1037 68 ⟨xd_128_0, xd_128_1, xd_128_2, xd_128_3, xd_128_4, xd_128_5, xd_128_6, xd_128_7, xd_128_8, xd_128_9, xd_128_10, xd_128_11, xd_128_12, trivial⟩ (by decide +kernel) rfl (by decide +kernel) (by decide +kernel) (by decide +kernel) (by decide +kernel) (by decide +kernel)
theorem xd_129_0 : xe_dck cX5_writes (16 * 0) xt_129_0 = true := by decide +kernel
theorem xd_129_1 : xe_dck cX5_writes (16 * 1) xt_129_1 = true := by decide +kernel
theorem xd_129_2 : xe_dck cX5_writes (16 * 2) xt_129_2 = true := by decide +kernel
theorem xd_129_3 : xe_dck cX5_writes (16 * 3) xt_129_3 = true := by decide +kernel
theorem xk_129 : xOK xMT xCLs xWS xNS 129 := xOK_of [752, 753, 754] [983] [[889, 890], [979, 981, 45], [984, 986, 46]] 1045 68 ⟨xd_129_0, xd_129_1, xd_129_2, xd_129_3, trivial⟩ (by decide +kernel) rfl (by decide +kernel) (by decide +kernel) (by decide +kernel) (by decide +kernel) (by decide +kernel)
theorem xd_130_0 : xe_dck cX5_cost (16 * 0) xt_130_0 = true := by decide +kernel
theorem xd_130_1 : xe_dck cX5_cost (16 * 1) xt_130_1 = true := by decide +kernel
theorem xd_130_2 : xe_dck cX5_cost (16 * 2) xt_130_2 = true := by decide +kernel
theorem xk_130 : xOK xMT xCLs xWS xNS 130 := xOK_of [718] [] [[889, 890], [892, 893]] 1049 68 ⟨xd_130_0, xd_130_1, xd_130_2, trivial⟩ (by decide +kernel) rfl (by decide +kernel) (by decide +kernel) (by decide +kernel) (by decide +kernel) (by decide +kernel)
theorem xd_131_0 : xe_dck cX5_leads (16 * 0) xt_131_0 = true := by decide +kernel
theorem xd_131_1 : xe_dck cX5_leads (16 * 1) xt_131_1 = true := by decide +kernel
theorem xd_131_2 : xe_dck cX5_leads (16 * 2) xt_131_2 = true := by decide +kernel
theorem xd_131_3 : xe_dck cX5_leads (16 * 3) xt_131_3 = true := by decide +kernel
theorem xk_131 : xOK xMT xCLs xWS xNS 131 := xOK_of [749, 765, 767] [] [] 1065 68 ⟨xd_131_0, xd_131_1, xd_131_2, xd_131_3, trivial⟩ (by decide +kernel) rfl (by decide +kernel) (by decide +kernel) (by decide +kernel) (by decide +kernel) (by decide +kernel)
theorem xd_132_0 : xe_dck cX5_left (16 * 0) xt_132_0 = true := by decide +kernel
theorem xd_132_1 : xe_dck cX5_left (16 * 1) xt_132_1 = true := by decide +kernel
theorem xd_132_2 : xe_dck cX5_left (16 * 2) xt_132_2 = true := by decide +kernel
theorem xd_132_3 : xe_dck cX5_left (16 * 3) xt_132_3 = true := by decide +kernel
theorem xd_132_4 : xe_dck cX5_left (16 * 4) xt_132_4 = true := by decide +kernel
theorem xd_132_5 : xe_dck cX5_left (16 * 5) xt_132_5 = true := by decide +kernel
theorem xd_132_6 : xe_dck cX5_left (16 * 6) xt_132_6 = true := by decide +kernel
theorem xd_132_7 : xe_dck cX5_left (16 * 7) xt_132_7 = true := by decide +kernel
theorem xd_132_8 : xe_dck cX5_left (16 * 8) xt_132_8 = true := by decide +kernel
theorem xd_132_9 : xe_dck cX5_left (16 * 9) xt_132_9 = true := by decide +kernel
theorem xd_132_10 : xe_dck cX5_left (16 * 10) xt_132_10 = true := by decide +kernel
theorem xd_132_11 : xe_dck cX5_left (16 * 11) xt_132_11 = true := by decide +kernel
theorem xd_132_12 : xe_dck cX5_left (16 * 12) xt_132_12 = true := by decide +kernel
theorem xd_132_13 : xe_dck cX5_left (16 * 13) xt_132_13 = true := by decide +kernel
theorem xd_132_14 : xe_dck cX5_left (16 * 14) xt_132_14 = true := by decide +kernel
theorem xd_132_15 : xe_dck cX5_left (16 * 15) xt_132_15 = true := by decide +kernel
theorem xd_132_16 : xe_dck cX5_left (16 * 16) xt_132_16 = true := by decide +kernel
theorem xd_132_17 : xe_dck cX5_left (16 * 17) xt_132_17 = true := by decide +kernel
theorem xk_132 : xOK xMT xCLs xWS xNS 132 := xOK_of [716] [983] [[1011, 1012], [1008, 1009]] 1073 68 ⟨xd_132_0, xd_132_1, xd_132_2, xd_132_3, xd_132_4, xd_132_5, xd_132_6, xd_132_7, xd_132_8, xd_132_9, xd_132_10, xd_132_11, xd_132_12, xd_132_13, xd_132_14, xd_132_15, xd_132_16, xd_132_17, trivial⟩ (by decide +kernel) rfl (by decide +kernel) (by decide +kernel) (by decide +kernel) (by decide +kernel) (by decide +kernel)
theorem xd_133_0 : xe_dck cX5_leadsOn (16 * 0) xt_133_0 = true := by decide +kernel
theorem xd_133_1 : xe_dck cX5_leadsOn (16 * 1) xt_133_1 = true := by decide +kernel
theorem xd_133_2 : xe_dck cX5_leadsOn (16 * 2) xt_133_2 = true := by decide +kernel
theorem xd_133_3 : xe_dck cX5_leadsOn (16 * 3) xt_133_3 = true := by decide +kernel
theorem xd_133_4 : xe_dck cX5_leadsOn (16 * 4) xt_133_4 = true := by decide +kernel
theorem xd_133_5 : xe_dck cX5_leadsOn (16 * 5) xt_133_5 = true := by decide +kernel
theorem xd_133_6 : xe_dck cX5_leadsOn (16 * 6) xt_133_6 = true := by decide +kernel
theorem xd_133_7 : xe_dck cX5_leadsOn (16 * 7) xt_133_7 = true := by decide +kernel
theorem xd_133_8 : xe_dck cX5_leadsOn (16 * 8) xt_133_8 = true := by decide +kernel
theorem xd_133_9 : xe_dck cX5_leadsOn (16 * 9) xt_133_9 = true := by decide +kernel
theorem xd_133_10 : xe_dck cX5_leadsOn (16 * 10) xt_133_10 = true := by decide +kernel
theorem xd_133_11 : xe_dck cX5_leadsOn (16 * 11) xt_133_11 = true := by decide +kernel
theorem xd_133_12 : xe_dck cX5_leadsOn (16 * 12) xt_133_12 = true := by decide +kernel
theorem xk_133 : xOK xMT xCLs xWS xNS 133 := xOK_of [765, 717, 716, 766, 767, 752] [] [[1062, 1064, 58], [936, 937], [1070, 1072, 60]] 1069 68 ⟨xd_133_0, xd_133_1, xd_133_2, xd_133_3, xd_133_4, xd_133_5, xd_133_6, xd_133_7, xd_133_8, xd_133_9, xd_133_10, xd_133_11, xd_133_12, trivial⟩ (by decide +kernel) rfl (by decide +kernel) (by decide +kernel) (by decide +kernel) (by decide +kernel) (by decide +kernel)
theorem xd_134_0 : xe_dck cX5_counts (16 * 0) xt_134_0 = true := by decide +kernel
theorem xd_134_1 : xe_dck cX5_counts (16 * 1) xt_134_1 = true := by decide +kernel
theorem xd_134_2 : xe_dck cX5_counts (16 * 2) xt_134_2 = true := by decide +kernel
theorem xd_134_3 : xe_dck cX5_counts (16 * 3) xt_134_3 = true := by decide +kernel
theorem xd_134_4 : xe_dck cX5_counts (16 * 4) xt_134_4 = true := by decide +kernel
theorem xd_134_5 : xe_dck cX5_counts (16 * 5) xt_134_5 = true := by decide +kernel
theorem xd_134_6 : xe_dck cX5_counts (16 * 6) xt_134_6 = true := by decide +kernel
theorem xd_134_7 : xe_dck cX5_counts (16 * 7) xt_134_7 = true := by decide +kernel
theorem xd_134_8 : xe_dck cX5_counts (16 * 8) xt_134_8 = true := by decide +kernel
theorem xd_134_9 : xe_dck cX5_counts (16 * 9) xt_134_9 = true := by decide +kernel
theorem xd_134_10 : xe_dck cX5_counts (16 * 10) xt_134_10 = true := by decide +kernel
theorem xd_134_11 : xe_dck cX5_counts (16 * 11) xt_134_11 = true := by decide +kernel
theorem xd_134_12 : xe_dck cX5_counts (16 * 12) xt_134_12 = true := by decide +kernel
theorem xd_134_13 : xe_dck cX5_counts (16 * 13) xt_134_13 = true := by decide +kernel
theorem xk_134 : xOK xMT xCLs xWS xNS 134 := xOK_of [765, 766, 767, 717, 749] [] [[1062, 1064, 58], [1066, 1068, 59], [1022, 1024, 54], [1011, 1012]] 1061 68 ⟨xd_134_0, xd_134_1, xd_134_2, xd_134_3, xd_134_4, xd_134_5, xd_134_6, xd_134_7, xd_134_8, xd_134_9, xd_134_10, xd_134_11, xd_134_12, xd_134_13, trivial⟩ (by decide +kernel) rfl (by decide +kernel) (by decide +kernel) (by decide +kernel) (by decide +kernel) (by decide +kernel)
theorem xd_135_0 : xe_dck cX5_looksFor (16 * 0) xt_135_0 = true := by decide +kernel
theorem xd_135_1 : xe_dck cX5_looksFor (16 * 1) xt_135_1 = true := by decide +kernel
theorem xd_135_2 : xe_dck cX5_looksFor (16 * 2) xt_135_2 = true := by decide +kernel
theorem xd_135_3 : xe_dck cX5_looksFor (16 * 3) xt_135_3 = true := by decide +kernel
theorem xd_135_4 : xe_dck cX5_looksFor (16 * 4) xt_135_4 = true := by decide +kernel
theorem xd_135_5 : xe_dck cX5_looksFor (16 * 5) xt_135_5 = true := by decide +kernel
theorem xd_135_6 : xe_dck cX5_looksFor (16 * 6) xt_135_6 = true := by decide +kernel
theorem xd_135_7 : xe_dck cX5_looksFor (16 * 7) xt_135_7 = true := by decide +kernel
theorem xk_135 : xOK xMT xCLs xWS xNS 135 := xOK_of [762, 760, 759, 763, 764] [] [[1011, 1012], [1058, 1060, 57]] 1057 68 ⟨xd_135_0, xd_135_1, xd_135_2, xd_135_3, xd_135_4, xd_135_5, xd_135_6, xd_135_7, trivial⟩ (by decide +kernel) rfl (by decide +kernel) (by decide +kernel) (by decide +kernel) (by decide +kernel) (by decide +kernel)
theorem xd_136_0 : xe_dck cX5_mend (16 * 0) xt_136_0 = true := by decide +kernel
theorem xd_136_1 : xe_dck cX5_mend (16 * 1) xt_136_1 = true := by decide +kernel
theorem xd_136_2 : xe_dck cX5_mend (16 * 2) xt_136_2 = true := by decide +kernel
theorem xd_136_3 : xe_dck cX5_mend (16 * 3) xt_136_3 = true := by decide +kernel
theorem xd_136_4 : xe_dck cX5_mend (16 * 4) xt_136_4 = true := by decide +kernel
theorem xd_136_5 : xe_dck cX5_mend (16 * 5) xt_136_5 = true := by decide +kernel
theorem xd_136_6 : xe_dck cX5_mend (16 * 6) xt_136_6 = true := by decide +kernel
theorem xd_136_7 : xe_dck cX5_mend (16 * 7) xt_136_7 = true := by decide +kernel
theorem xd_136_8 : xe_dck cX5_mend (16 * 8) xt_136_8 = true := by decide +kernel
theorem xd_136_9 : xe_dck cX5_mend (16 * 9) xt_136_9 = true := by decide +kernel
theorem xd_136_10 : xe_dck cX5_mend (16 * 10) xt_136_10 = true := by decide +kernel
theorem xd_136_11 : xe_dck cX5_mend (16 * 11) xt_136_11 = true := by decide +kernel
theorem xd_136_12 : xe_dck cX5_mend (16 * 12) xt_136_12 = true := by decide +kernel
theorem xd_136_13 : xe_dck cX5_mend (16 * 13) xt_136_13 = true := by decide +kernel
theorem xd_136_14 : xe_dck cX5_mend (16 * 14) xt_136_14 = true := by decide +kernel
theorem xd_136_15 : xe_dck cX5_mend (16 * 15) xt_136_15 = true := by decide +kernel
theorem xd_136_16 : xe_dck cX5_mend (16 * 16) xt_136_16 = true := by decide +kernel
theorem xk_136 : xOK xMT xCLs xWS xNS 136 := xOK_of [762, 718, 763, 755, 764, 768, 721, 769, 770, 771] [1074, 983] [[975, 977, 44], [1014, 1016, 52], [1054, 1056, 56], [979, 981, 45], [984, 986, 46]] 1053 68 ⟨xd_136_0, xd_136_1, xd_136_2, xd_136_3, xd_136_4, xd_136_5, xd_136_6, xd_136_7, xd_136_8, xd_136_9, xd_136_10, xd_136_11, xd_136_12, xd_136_13, xd_136_14, xd_136_15, xd_136_16, trivial⟩ (by decide +kernel) rfl (by decide +kernel) (by decide +kernel) (by decide +kernel) (by decide +kernel) (by decide +kernel)
theorem xd_137_0 : xe_dck cX5_mended (16 * 0) xt_137_0 = true := by decide +kernel
theorem xd_137_1 : xe_dck cX5_mended (16 * 1) xt_137_1 = true := by decide +kernel
theorem xd_137_2 : xe_dck cX5_mended (16 * 2) xt_137_2 = true := by decide +kernel
theorem xd_137_3 : xe_dck cX5_mended (16 * 3) xt_137_3 = true := by decide +kernel
theorem xk_137 : xOK xMT xCLs xWS xNS 137 := xOK_of [768, 769, 770, 771] [] [[892, 893]] 1078 68 ⟨xd_137_0, xd_137_1, xd_137_2, xd_137_3, trivial⟩ (by decide +kernel) rfl (by decide +kernel) (by decide +kernel) (by decide +kernel) (by decide +kernel) (by decide +kernel)
theorem xd_138_0 : xe_dck cX5_skipsBelow (16 * 0) xt_138_0 = true := by decide +kernel
theorem xd_138_1 : xe_dck cX5_skipsBelow (16 * 1) xt_138_1 = true := by decide +kernel
theorem xd_138_2 : xe_dck cX5_skipsBelow (16 * 2) xt_138_2 = true := by decide +kernel
theorem xd_138_3 : xe_dck cX5_skipsBelow (16 * 3) xt_138_3 = true := by decide +kernel
theorem xk_138 : xOK xMT xCLs xWS xNS 138 := xOK_of [717, 716] [] [] 1086 68 ⟨xd_138_0, xd_138_1, xd_138_2, xd_138_3, trivial⟩ (by decide +kernel) rfl (by decide +kernel) (by decide +kernel) (by decide +kernel) (by decide +kernel) (by decide +kernel)
theorem xd_139_0 : xe_dck cX5_apply (16 * 0) xt_139_0 = true := by decide +kernel
theorem xd_139_1 : xe_dck cX5_apply (16 * 1) xt_139_1 = true := by decide +kernel
theorem xd_139_2 : xe_dck cX5_apply (16 * 2) xt_139_2 = true := by decide +kernel
theorem xd_139_3 : xe_dck cX5_apply (16 * 3) xt_139_3 = true := by decide +kernel
theorem xd_139_4 : xe_dck cX5_apply (16 * 4) xt_139_4 = true := by decide +kernel
theorem xd_139_5 : xe_dck cX5_apply (16 * 5) xt_139_5 = true := by decide +kernel
theorem xd_139_6 : xe_dck cX5_apply (16 * 6) xt_139_6 = true := by decide +kernel
theorem xd_139_7 : xe_dck cX5_apply (16 * 7) xt_139_7 = true := by decide +kernel
theorem xd_139_8 : xe_dck cX5_apply (16 * 8) xt_139_8 = true := by decide +kernel
theorem xd_139_9 : xe_dck cX5_apply (16 * 9) xt_139_9 = true := by decide +kernel
theorem xd_139_10 : xe_dck cX5_apply (16 * 10) xt_139_10 = true := by decide +kernel
theorem xd_139_11 : xe_dck cX5_apply (16 * 11) xt_139_11 = true := by decide +kernel
theorem xd_139_12 : xe_dck cX5_apply (16 * 12) xt_139_12 = true := by decide +kernel
theorem xd_139_13 : xe_dck cX5_apply (16 * 13) xt_139_13 = true := by decide +kernel
theorem xd_139_14 : xe_dck cX5_apply (16 * 14) xt_139_14 = true := by decide +kernel
theorem xd_139_15 : xe_dck cX5_apply (16 * 15) xt_139_15 = true := by decide +kernel
theorem xd_139_16 : xe_dck cX5_apply (16 * 16) xt_139_16 = true := by decide +kernel
theorem xd_139_17 : xe_dck cX5_apply (16 * 17) xt_139_17 = true := by decide +kernel
theorem xk_139 : xOK xMT xCLs xWS xNS 139 := xOK_of [768, 769, 721, 717, 770, 716, 771] [] [[1083, 1085, 61], [904, 906, 37]] 1082 68 ⟨xd_139_0, xd_139_1, xd_139_2, xd_139_3, xd_139_4, xd_139_5, xd_139_6, xd_139_7, xd_139_8, xd_139_9, xd_139_10, xd_139_11, xd_139_12, xd_139_13, xd_139_14, xd_139_15, xd_139_16, xd_139_17, trivial⟩ (by decide +kernel) rfl (by decide +kernel) (by decide +kernel) (by decide +kernel) (by decide +kernel) (by decide +kernel)
theorem xd_140_0 : xe_dck cX5_count (16 * 0) xt_140_0 = true := by decide +kernel
theorem xd_140_1 : xe_dck cX5_count (16 * 1) xt_140_1 = true := by decide +kernel
theorem xd_140_2 : xe_dck cX5_count (16 * 2) xt_140_2 = true := by decide +kernel
theorem xd_140_3 : xe_dck cX5_count (16 * 3) xt_140_3 = true := by decide +kernel
theorem xk_140 : xOK xMT xCLs xWS xNS 140 := xOK_of [720, 717, 718] [] [[892, 893]] 1090 68 ⟨xd_140_0, xd_140_1, xd_140_2, xd_140_3, trivial⟩ (by decide +kernel) rfl (by decide +kernel) (by decide +kernel) (by decide +kernel) (by decide +kernel) (by decide +kernel)
theorem xd_141_0 : xe_dck cJ6_bitCount_0f7a4 (16 * 0) xt_141_0 = true := by decide +kernel
theorem xd_141_1 : xe_dck cJ6_bitCount_0f7a4 (16 * 1) xt_141_1 = true := by decide +kernel
theorem xd_141_2 : xe_dck cJ6_bitCount_0f7a4 (16 * 2) xt_141_2 = true := by decide +kernel
theorem xd_141_3 : xe_dck cJ6_bitCount_0f7a4 (16 * 3) xt_141_3 = true := by decide +kernel
theorem xk_141 : xOK xMT xCLs xWS xNS 141 := xOK_of [] [473, 474, 475] [] 472 70 ⟨xd_141_0, xd_141_1, xd_141_2, xd_141_3, trivial⟩ (by decide +kernel) rfl (by decide +kernel) (by decide +kernel) (by decide +kernel) (by decide +kernel) (by decide +kernel)
theorem xOK_congr {M : Nat → xM} {CL : List vw_C} {WS : List Cond} {ns : xN} {k j : Nat} (h : M k = M j) (hj : xOK M CL WS ns j) : xOK M CL WS ns k := by
  unfold xOK at hj ⊢
  rw [h]
  exact hj
theorem xk_out {k : Nat} (h : 142 ≤ k) : xMT k = xMT 0 := by
  rcases Nat.lt_or_ge k 144 with h2 | h2
  · rcases (show k = 142 ∨ k = 143 by omega) with rfl | rfl <;> rfl
  · have e : xe_nth xml (k / 16) = none := by rw [xe_nth_eq]; exact List.getElem?_eq_none (by show 9 ≤ k / 16; omega)
    unfold xMT
    rw [e]
    rfl
theorem xk_all : ∀ k : Nat, xOK xMT xCLs xWS xNS k
  | 0 => xk_0
  | 1 => xk_1
  | 2 => xk_2
  | 3 => xk_3
  | 4 => xk_4
  | 5 => xk_5
  | 6 => xk_6
  | 7 => xk_7
  | 8 => xk_8
  | 9 => xk_9
  | 10 => xk_10
  | 11 => xk_11
  | 12 => xk_12
  | 13 => xk_13
  | 14 => xk_14
  | 15 => xk_15
  | 16 => xk_16
  | 17 => xk_17
  | 18 => xk_18
  | 19 => xk_19
  | 20 => xk_20
  | 21 => xk_21
  | 22 => xk_22
  | 23 => xk_23
  | 24 => xk_24
  | 25 => xk_25
  | 26 => xk_26
  | 27 => xk_27
  | 28 => xk_28
  | 29 => xk_29
  | 30 => xk_30
  | 31 => xk_31
  | 32 => xk_32
  | 33 => xk_33
  | 34 => xk_34
  | 35 => xk_35
  | 36 => xk_36
  | 37 => xk_37
  | 38 => xk_38
  | 39 => xk_39
  | 40 => xk_40
  | 41 => xk_41
  | 42 => xk_42
  | 43 => xk_43
  | 44 => xk_44
  | 45 => xk_45
  | 46 => xk_46
  | 47 => xk_47
  | 48 => xk_48
  | 49 => xk_49
  | 50 => xk_50
  | 51 => xk_51
  | 52 => xk_52
  | 53 => xk_53
  | 54 => xk_54
  | 55 => xk_55
  | 56 => xk_56
  | 57 => xk_57
  | 58 => xk_58
  | 59 => xk_59
  | 60 => xk_60
  | 61 => xk_61
  | 62 => xk_62
  | 63 => xk_63
  | 64 => xk_64
  | 65 => xk_65
  | 66 => xk_66
  | 67 => xk_67
  | 68 => xk_68
  | 69 => xk_69
  | 70 => xk_70
  | 71 => xk_71
  | 72 => xk_72
  | 73 => xk_73
  | 74 => xk_74
  | 75 => xk_75
  | 76 => xk_76
  | 77 => xk_77
  | 78 => xk_78
  | 79 => xk_79
  | 80 => xk_80
  | 81 => xk_81
  | 82 => xk_82
  | 83 => xk_83
  | 84 => xk_84
  | 85 => xk_85
  | 86 => xk_86
  | 87 => xk_87
  | 88 => xk_88
  | 89 => xk_89
  | 90 => xk_90
  | 91 => xk_91
  | 92 => xk_92
  | 93 => xk_93
  | 94 => xk_94
  | 95 => xk_95
  | 96 => xk_96
  | 97 => xk_97
  | 98 => xk_98
  | 99 => xk_99
  | 100 => xk_100
  | 101 => xk_101
  | 102 => xk_102
  | 103 => xk_103
  | 104 => xk_104
  | 105 => xk_105
  | 106 => xk_106
  | 107 => xk_107
  | 108 => xk_108
  | 109 => xk_109
  | 110 => xk_110
  | 111 => xk_111
  | 112 => xk_112
  | 113 => xk_113
  | 114 => xk_114
  | 115 => xk_115
  | 116 => xk_116
  | 117 => xk_117
  | 118 => xk_118
  | 119 => xk_119
  | 120 => xk_120
  | 121 => xk_121
  | 122 => xk_122
  | 123 => xk_123
  | 124 => xk_124
  | 125 => xk_125
  | 126 => xk_126
  | 127 => xk_127
  | 128 => xk_128
  | 129 => xk_129
  | 130 => xk_130
  | 131 => xk_131
  | 132 => xk_132
  | 133 => xk_133
  | 134 => xk_134
  | 135 => xk_135
  | 136 => xk_136
  | 137 => xk_137
  | 138 => xk_138
  | 139 => xk_139
  | 140 => xk_140
  | 141 => xk_141
  | n + 142 => xOK_congr (xk_out (Nat.le_add_left 142 n)) xk_0
theorem xq_0 : xe_all2 (fun u n => xe_wd n u) (u_ws RX0 TX0 14) [213, 215, 217, 219, 221, 223, 225, 227, 229, 231, 233, 235, 237, 239] = true := by decide +kernel
theorem xq_1 : xe_all2 (fun u n => xe_wd n u) (u_ws RX1 TX1 13) [265, 267, 269, 271, 273, 275, 277, 279, 281, 283, 285, 287, 289] = true := by decide +kernel
theorem xq_2 : xe_all2 (fun u n => xe_wd n u) (u_ws RX2 TX2 6) [104, 106, 108, 110, 112, 114] = true := by decide +kernel
theorem xq_3 : xe_all2 (fun u n => xe_wd n u) (u_ws RX3 TX3 18) [152, 154, 156, 158, 160, 162, 164, 166, 168, 170, 172, 174, 176, 178, 180, 182, 184, 186] = true := by decide +kernel
theorem xq_4 : xe_all2 (fun u n => xe_wd n u) (u_ws RX4 TX4 15) [307, 309, 311, 313, 315, 317, 319, 321, 323, 325, 327, 329, 331, 333, 335] = true := by decide +kernel
theorem xq_5 : xe_all2 (fun u n => xe_wd n u) (u_ws RX5 TX5 56) [772, 774, 776, 778, 780, 782, 784, 786, 788, 790, 792, 794, 796, 798, 800, 802, 804, 806, 808, 810, 812, 814, 816, 818, 820, 822, 824, 826, 828, 830, 832, 834, 836, 838, 840, 842, 844, 846, 848, 850, 852, 854, 856, 858, 860, 862, 864, 866, 868, 870, 872, 874, 876, 878, 880, 882] = true := by decide +kernel
theorem xq_all : xCL xCLs xWS := by
  intro ci C T N h
  match ci, h with
  | 0, h => cases h; exact ⟨fun u hu => (xe_all2_mem xq_0 u hu).elim fun _ h => xe_wd_mem h, tyX0, tyX0_ok, nmX0⟩
  | 1, h => cases h; exact ⟨fun u hu => (xe_all2_mem xq_1 u hu).elim fun _ h => xe_wd_mem h, tyX1, tyX1_ok, nmX1⟩
  | 2, h => cases h; exact ⟨fun u hu => (xe_all2_mem xq_2 u hu).elim fun _ h => xe_wd_mem h, tyX2, tyX2_ok, nmX2⟩
  | 3, h => cases h; exact ⟨fun u hu => (xe_all2_mem xq_3 u hu).elim fun _ h => xe_wd_mem h, tyX3, tyX3_ok, nmX3⟩
  | 4, h => cases h; exact ⟨fun u hu => (xe_all2_mem xq_4 u hu).elim fun _ h => xe_wd_mem h, tyX4, tyX4_ok, nmX4⟩
  | 5, h => cases h; exact ⟨fun u hu => (xe_all2_mem xq_5 u hu).elim fun _ h => xe_wd_mem h, tyX5, tyX5_ok, nmX5⟩
  | n + 6, h => simp [xCLs] at h
