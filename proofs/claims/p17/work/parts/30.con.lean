/-! THE CONTRACTS -/
theorem con_sm {CP PH : List Nat} {PM : Int} {SM SM2 : Nat → Nat → Option aSm} {IS : List aSl} {H : aH} {k p : Nat} {sm : aSm} (h : Con (CP, PH, PM, SM, IS, H) k p sm) : Con (CP, PH, PM, SM2, IS, H) k p sm := fun σ xs h1 h2 => h σ xs h1 h2
theorem run_12 {HN : List (List (Nat × aHn))} {G : aG} {sm : aSm} {k p n : Nat} (h0 : aRun HN G (some 0) sm k p n = true) (h1 : aRun HN G (some 1) sm k p n = true) (h2 : aRun HN G (some 2) sm k p n = true) (h3 : aRun HN G (some 3) sm k p n = true) (h4 : aRun HN G (some 4) sm k p n = true) (h5 : aRun HN G (some 5) sm k p n = true) (h6 : aRun HN G (some 6) sm k p n = true) (h7 : aRun HN G (some 7) sm k p n = true) (h8 : aRun HN G (some 8) sm k p n = true) (h9 : aRun HN G (some 9) sm k p n = true) (h10 : aRun HN G (some 10) sm k p n = true) (h11 : aRun HN G (some 11) sm k p n = true) : aRun HN G none sm k p n = true := by
  refine run_all (fun i hi => ?_)
  rcases (show i = 0 ∨ i = 1 ∨ i = 2 ∨ i = 3 ∨ i = 4 ∨ i = 5 ∨ i = 6 ∨ i = 7 ∨ i = 8 ∨ i = 9 ∨ i = 10 ∨ i = 11 by omega) with rfl | rfl | rfl | rfl | rfl | rfl | rfl | rfl | rfl | rfl | rfl | rfl
  · exact h0
  · exact h1
  · exact h2
  · exact h3
  · exact h4
  · exact h5
  · exact h6
  · exact h7
  · exact h8
  · exact h9
  · exact h10
  · exact h11
theorem gX_0 : aGok aGX_0 := gokX aSMX_0
theorem spX_0 : ∀ k p sm, aGX_0.2.2.2.1 k p = some sm → Con aGX_0 k p sm ∧ smOK sm := by
  intro k p sm h
  have h : (none : Option aSm) = some sm := h
  cases h
theorem soX_0 : SumOK aGX_0 := sum_ok gX_0 spX_0
theorem cn_6_22 : Con aGX_0 6 22 sm_6_22 := con_of gX_0 soX_0 (smOK_of (by decide +kernel)).2 ac_6_22
theorem gX_1 : aGok aGX_1 := gokX aSMX_1
theorem spX_1 : ∀ k p sm, aGX_1.2.2.2.1 k p = some sm → Con aGX_1 k p sm ∧ smOK sm := by
  intro k p sm h
  have h : cond (cond (Nat.beq k 6) (Nat.beq p 22) false) (some sm_6_22) (none) = some sm := h
  rcases sm_case h with ⟨rfl, rfl, rfl⟩ | h
  · exact ⟨con_sm cn_6_22, smOK_of (by decide +kernel)⟩
  cases h
theorem soX_1 : SumOK aGX_1 := sum_ok gX_1 spX_1
theorem cn_6_32 : Con aGX_1 6 32 sm_6_32 := con_of gX_1 soX_1 (smOK_of (by decide +kernel)).2 ac_6_32
theorem gX_2 : aGok aGX_2 := gokX aSMX_2
theorem spX_2 : ∀ k p sm, aGX_2.2.2.2.1 k p = some sm → Con aGX_2 k p sm ∧ smOK sm := by
  intro k p sm h
  have h : cond (cond (Nat.beq k 6) (Nat.beq p 22) false) (some sm_6_22) (cond (cond (Nat.beq k 6) (Nat.beq p 32) false) (some sm_6_32) (none)) = some sm := h
  rcases sm_case h with ⟨rfl, rfl, rfl⟩ | h
  · exact ⟨con_sm cn_6_22, smOK_of (by decide +kernel)⟩
  rcases sm_case h with ⟨rfl, rfl, rfl⟩ | h
  · exact ⟨con_sm cn_6_32, smOK_of (by decide +kernel)⟩
  cases h
theorem soX_2 : SumOK aGX_2 := sum_ok gX_2 spX_2
theorem cn_3_22 : Con aGX_2 3 22 sm_3_22 := con_of gX_2 soX_2 (smOK_of (by decide +kernel)).2 (run_12 ac_3_22_c0 ac_3_22_c1 ac_3_22_c2 ac_3_22_c3 ac_3_22_c4 ac_3_22_c5 ac_3_22_c6 ac_3_22_c7 ac_3_22_c8 ac_3_22_c9 ac_3_22_c10 ac_3_22_c11)
theorem gX_3 : aGok aGX_3 := gokX aSMX_3
theorem spX_3 : ∀ k p sm, aGX_3.2.2.2.1 k p = some sm → Con aGX_3 k p sm ∧ smOK sm := by
  intro k p sm h
  have h : cond (cond (Nat.beq k 6) (Nat.beq p 22) false) (some sm_6_22) (cond (cond (Nat.beq k 6) (Nat.beq p 32) false) (some sm_6_32) (cond (cond (Nat.beq k 3) (Nat.beq p 22) false) (some sm_3_22) (none))) = some sm := h
  rcases sm_case h with ⟨rfl, rfl, rfl⟩ | h
  · exact ⟨con_sm cn_6_22, smOK_of (by decide +kernel)⟩
  rcases sm_case h with ⟨rfl, rfl, rfl⟩ | h
  · exact ⟨con_sm cn_6_32, smOK_of (by decide +kernel)⟩
  rcases sm_case h with ⟨rfl, rfl, rfl⟩ | h
  · exact ⟨con_sm cn_3_22, smOK_of (by decide +kernel)⟩
  cases h
theorem soX_3 : SumOK aGX_3 := sum_ok gX_3 spX_3
theorem cn_3_32 : Con aGX_3 3 32 sm_3_32 := con_of gX_3 soX_3 (smOK_of (by decide +kernel)).2 (run_12 ac_3_32_c0 ac_3_32_c1 ac_3_32_c2 ac_3_32_c3 ac_3_32_c4 ac_3_32_c5 ac_3_32_c6 ac_3_32_c7 ac_3_32_c8 ac_3_32_c9 ac_3_32_c10 ac_3_32_c11)
theorem gX_4 : aGok aGX_4 := gokX aSMX_4
theorem spX_4 : ∀ k p sm, aGX_4.2.2.2.1 k p = some sm → Con aGX_4 k p sm ∧ smOK sm := by
  intro k p sm h
  have h : cond (cond (Nat.beq k 6) (Nat.beq p 22) false) (some sm_6_22) (cond (cond (Nat.beq k 6) (Nat.beq p 32) false) (some sm_6_32) (cond (cond (Nat.beq k 3) (Nat.beq p 22) false) (some sm_3_22) (cond (cond (Nat.beq k 3) (Nat.beq p 32) false) (some sm_3_32) (none)))) = some sm := h
  rcases sm_case h with ⟨rfl, rfl, rfl⟩ | h
  · exact ⟨con_sm cn_6_22, smOK_of (by decide +kernel)⟩
  rcases sm_case h with ⟨rfl, rfl, rfl⟩ | h
  · exact ⟨con_sm cn_6_32, smOK_of (by decide +kernel)⟩
  rcases sm_case h with ⟨rfl, rfl, rfl⟩ | h
  · exact ⟨con_sm cn_3_22, smOK_of (by decide +kernel)⟩
  rcases sm_case h with ⟨rfl, rfl, rfl⟩ | h
  · exact ⟨con_sm cn_3_32, smOK_of (by decide +kernel)⟩
  cases h
theorem soX_4 : SumOK aGX_4 := sum_ok gX_4 spX_4
theorem cn_40_10 : Con aGX_4 40 10 sm_40_10 := con_of gX_4 soX_4 (smOK_of (by decide +kernel)).2 ac_40_10
theorem gX_5 : aGok aGX_5 := gokX aSMX_5
theorem spX_5 : ∀ k p sm, aGX_5.2.2.2.1 k p = some sm → Con aGX_5 k p sm ∧ smOK sm := by
  intro k p sm h
  have h : cond (cond (Nat.beq k 6) (Nat.beq p 22) false) (some sm_6_22) (cond (cond (Nat.beq k 6) (Nat.beq p 32) false) (some sm_6_32) (cond (cond (Nat.beq k 3) (Nat.beq p 22) false) (some sm_3_22) (cond (cond (Nat.beq k 3) (Nat.beq p 32) false) (some sm_3_32) (cond (cond (Nat.beq k 40) (Nat.beq p 10) false) (some sm_40_10) (none))))) = some sm := h
  rcases sm_case h with ⟨rfl, rfl, rfl⟩ | h
  · exact ⟨con_sm cn_6_22, smOK_of (by decide +kernel)⟩
  rcases sm_case h with ⟨rfl, rfl, rfl⟩ | h
  · exact ⟨con_sm cn_6_32, smOK_of (by decide +kernel)⟩
  rcases sm_case h with ⟨rfl, rfl, rfl⟩ | h
  · exact ⟨con_sm cn_3_22, smOK_of (by decide +kernel)⟩
  rcases sm_case h with ⟨rfl, rfl, rfl⟩ | h
  · exact ⟨con_sm cn_3_32, smOK_of (by decide +kernel)⟩
  rcases sm_case h with ⟨rfl, rfl, rfl⟩ | h
  · exact ⟨con_sm cn_40_10, smOK_of (by decide +kernel)⟩
  cases h
theorem soX_5 : SumOK aGX_5 := sum_ok gX_5 spX_5
theorem cn_40_16 : Con aGX_5 40 16 sm_40_16 := con_of gX_5 soX_5 (smOK_of (by decide +kernel)).2 ac_40_16
theorem gX_6 : aGok aGX_6 := gokX aSMX_6
theorem spX_6 : ∀ k p sm, aGX_6.2.2.2.1 k p = some sm → Con aGX_6 k p sm ∧ smOK sm := by
  intro k p sm h
  have h : cond (cond (Nat.beq k 6) (Nat.beq p 22) false) (some sm_6_22) (cond (cond (Nat.beq k 6) (Nat.beq p 32) false) (some sm_6_32) (cond (cond (Nat.beq k 3) (Nat.beq p 22) false) (some sm_3_22) (cond (cond (Nat.beq k 3) (Nat.beq p 32) false) (some sm_3_32) (cond (cond (Nat.beq k 40) (Nat.beq p 10) false) (some sm_40_10) (cond (cond (Nat.beq k 40) (Nat.beq p 16) false) (some sm_40_16) (none)))))) = some sm := h
  rcases sm_case h with ⟨rfl, rfl, rfl⟩ | h
  · exact ⟨con_sm cn_6_22, smOK_of (by decide +kernel)⟩
  rcases sm_case h with ⟨rfl, rfl, rfl⟩ | h
  · exact ⟨con_sm cn_6_32, smOK_of (by decide +kernel)⟩
  rcases sm_case h with ⟨rfl, rfl, rfl⟩ | h
  · exact ⟨con_sm cn_3_22, smOK_of (by decide +kernel)⟩
  rcases sm_case h with ⟨rfl, rfl, rfl⟩ | h
  · exact ⟨con_sm cn_3_32, smOK_of (by decide +kernel)⟩
  rcases sm_case h with ⟨rfl, rfl, rfl⟩ | h
  · exact ⟨con_sm cn_40_10, smOK_of (by decide +kernel)⟩
  rcases sm_case h with ⟨rfl, rfl, rfl⟩ | h
  · exact ⟨con_sm cn_40_16, smOK_of (by decide +kernel)⟩
  cases h
theorem soX_6 : SumOK aGX_6 := sum_ok gX_6 spX_6
/-- X4_code -/
theorem cn_53_0 : Con aGX_6 53 0 sm_53_0 := con_of gX_6 soX_6 (smOK_of (by decide +kernel)).2 ac_53_0
/-- X4_change -/
theorem cn_54_0 : Con aGX_6 54 0 sm_54_0 := con_of gX_6 soX_6 (smOK_of (by decide +kernel)).2 ac_54_0
/-- X4_clear -/
theorem cn_55_0 : Con aGX_6 55 0 sm_55_0 := con_of gX_6 soX_6 (smOK_of (by decide +kernel)).2 ac_55_0
/-- X4_input -/
theorem cn_56_0 : Con aGX_6 56 0 sm_56_0 := con_of gX_6 soX_6 (smOK_of (by decide +kernel)).2 ac_56_0
/-- X4_empty -/
theorem cn_57_0 : Con aGX_6 57 0 sm_57_0 := con_of gX_6 soX_6 (smOK_of (by decide +kernel)).2 ac_57_0
/-- X4_run -/
theorem cn_58_0 : Con aGX_6 58 0 sm_58_0 := con_of gX_6 soX_6 (smOK_of (by decide +kernel)).2 ac_58_0
/-- X4_ran -/
theorem cn_59_0 : Con aGX_6 59 0 sm_59_0 := con_of gX_6 soX_6 (smOK_of (by decide +kernel)).2 ac_59_0
/-- X4_printed -/
theorem cn_60_0 : Con aGX_6 60 0 sm_60_0 := con_of gX_6 soX_6 (smOK_of (by decide +kernel)).2 ac_60_0
/-- X4_cell -/
theorem cn_61_0 : Con aGX_6 61 0 sm_61_0 := con_of gX_6 soX_6 (smOK_of (by decide +kernel)).2 ac_61_0
/-- X4_flow -/
theorem cn_62_0 : Con aGX_6 62 0 sm_62_0 := con_of gX_6 soX_6 (smOK_of (by decide +kernel)).2 ac_62_0
/-- X4_bad -/
theorem cn_63_0 : Con aGX_6 63 0 sm_63_0 := con_of gX_6 soX_6 (smOK_of (by decide +kernel)).2 ac_63_0
/-- X4_state -/
theorem cn_64_0 : Con aGX_6 64 0 sm_64_0 := con_of gX_6 soX_6 (smOK_of (by decide +kernel)).2 ac_64_0
/-- X4_witness -/
theorem cn_65_0 : Con aGX_6 65 0 sm_65_0 := con_of gX_6 soX_6 (smOK_of (by decide +kernel)).2 ac_65_0
/-- X4_needs -/
theorem cn_66_0 : Con aGX_6 66 0 sm_66_0 := con_of gX_6 soX_6 (smOK_of (by decide +kernel)).2 ac_66_0
/-- X4_writes -/
theorem cn_67_0 : Con aGX_6 67 0 sm_67_0 := con_of gX_6 soX_6 (smOK_of (by decide +kernel)).2 ac_67_0
/-- X4_cost -/
theorem cn_68_0 : Con aGX_6 68 0 sm_68_0 := con_of gX_6 soX_6 (smOK_of (by decide +kernel)).2 ac_68_0
/-- X4_mend -/
theorem cn_69_0 : Con aGX_6 69 0 sm_69_0 := con_of gX_6 soX_6 (smOK_of (by decide +kernel)).2 ac_69_0
/-- X4_mended -/
theorem cn_70_0 : Con aGX_6 70 0 sm_70_0 := con_of gX_6 soX_6 (smOK_of (by decide +kernel)).2 ac_70_0
/-- X4_apply -/
theorem cn_71_0 : Con aGX_6 71 0 sm_71_0 := con_of gX_6 soX_6 (smOK_of (by decide +kernel)).2 ac_71_0
/-- X4_count -/
theorem cn_72_0 : Con aGX_6 72 0 sm_72_0 := con_of gX_6 soX_6 (smOK_of (by decide +kernel)).2 ac_72_0
theorem gM_0 : aGok aGM_0 := gokM aSMM_0
theorem spM_0 : ∀ k p sm, aGM_0.2.2.2.1 k p = some sm → Con aGM_0 k p sm ∧ smOK sm := by
  intro k p sm h
  have h : (none : Option aSm) = some sm := h
  cases h
theorem soM_0 : SumOK aGM_0 := sum_ok gM_0 spM_0
theorem cn_121_0 : Con aGM_0 121 0 sm_121_0 := con_of gM_0 soM_0 (smOK_of (by decide +kernel)).2 ac_121_0
theorem gM_1 : aGok aGM_1 := gokM aSMM_1
theorem spM_1 : ∀ k p sm, aGM_1.2.2.2.1 k p = some sm → Con aGM_1 k p sm ∧ smOK sm := by
  intro k p sm h
  have h : cond (cond (Nat.beq k 121) (Nat.beq p 0) false) (some sm_121_0) (none) = some sm := h
  rcases sm_case h with ⟨rfl, rfl, rfl⟩ | h
  · exact ⟨con_sm cn_121_0, smOK_of (by decide +kernel)⟩
  cases h
theorem soM_1 : SumOK aGM_1 := sum_ok gM_1 spM_1
theorem cn_118_0 : Con aGM_1 118 0 sm_118_0 := con_of gM_1 soM_1 (smOK_of (by decide +kernel)).2 (run_12 ac_118_0_c0 ac_118_0_c1 ac_118_0_c2 ac_118_0_c3 ac_118_0_c4 ac_118_0_c5 ac_118_0_c6 ac_118_0_c7 ac_118_0_c8 ac_118_0_c9 ac_118_0_c10 ac_118_0_c11)
theorem gM_2 : aGok aGM_2 := gokM aSMM_2
theorem spM_2 : ∀ k p sm, aGM_2.2.2.2.1 k p = some sm → Con aGM_2 k p sm ∧ smOK sm := by
  intro k p sm h
  have h : cond (cond (Nat.beq k 121) (Nat.beq p 0) false) (some sm_121_0) (cond (cond (Nat.beq k 118) (Nat.beq p 0) false) (some sm_118_0) (none)) = some sm := h
  rcases sm_case h with ⟨rfl, rfl, rfl⟩ | h
  · exact ⟨con_sm cn_121_0, smOK_of (by decide +kernel)⟩
  rcases sm_case h with ⟨rfl, rfl, rfl⟩ | h
  · exact ⟨con_sm cn_118_0, smOK_of (by decide +kernel)⟩
  cases h
theorem soM_2 : SumOK aGM_2 := sum_ok gM_2 spM_2
theorem cn_105_0 : Con aGM_2 105 0 sm_105_0 := con_of gM_2 soM_2 (smOK_of (by decide +kernel)).2 ac_105_0
theorem gM_3 : aGok aGM_3 := gokM aSMM_3
theorem spM_3 : ∀ k p sm, aGM_3.2.2.2.1 k p = some sm → Con aGM_3 k p sm ∧ smOK sm := by
  intro k p sm h
  have h : cond (cond (Nat.beq k 121) (Nat.beq p 0) false) (some sm_121_0) (cond (cond (Nat.beq k 118) (Nat.beq p 0) false) (some sm_118_0) (cond (cond (Nat.beq k 105) (Nat.beq p 0) false) (some sm_105_0) (none))) = some sm := h
  rcases sm_case h with ⟨rfl, rfl, rfl⟩ | h
  · exact ⟨con_sm cn_121_0, smOK_of (by decide +kernel)⟩
  rcases sm_case h with ⟨rfl, rfl, rfl⟩ | h
  · exact ⟨con_sm cn_118_0, smOK_of (by decide +kernel)⟩
  rcases sm_case h with ⟨rfl, rfl, rfl⟩ | h
  · exact ⟨con_sm cn_105_0, smOK_of (by decide +kernel)⟩
  cases h
theorem soM_3 : SumOK aGM_3 := sum_ok gM_3 spM_3
theorem cn_134_0 : Con aGM_3 134 0 sm_134_0 := con_of gM_3 soM_3 (smOK_of (by decide +kernel)).2 ac_134_0
theorem gM_4 : aGok aGM_4 := gokM aSMM_4
theorem spM_4 : ∀ k p sm, aGM_4.2.2.2.1 k p = some sm → Con aGM_4 k p sm ∧ smOK sm := by
  intro k p sm h
  have h : cond (cond (Nat.beq k 121) (Nat.beq p 0) false) (some sm_121_0) (cond (cond (Nat.beq k 118) (Nat.beq p 0) false) (some sm_118_0) (cond (cond (Nat.beq k 105) (Nat.beq p 0) false) (some sm_105_0) (cond (cond (Nat.beq k 134) (Nat.beq p 0) false) (some sm_134_0) (none)))) = some sm := h
  rcases sm_case h with ⟨rfl, rfl, rfl⟩ | h
  · exact ⟨con_sm cn_121_0, smOK_of (by decide +kernel)⟩
  rcases sm_case h with ⟨rfl, rfl, rfl⟩ | h
  · exact ⟨con_sm cn_118_0, smOK_of (by decide +kernel)⟩
  rcases sm_case h with ⟨rfl, rfl, rfl⟩ | h
  · exact ⟨con_sm cn_105_0, smOK_of (by decide +kernel)⟩
  rcases sm_case h with ⟨rfl, rfl, rfl⟩ | h
  · exact ⟨con_sm cn_134_0, smOK_of (by decide +kernel)⟩
  cases h
theorem soM_4 : SumOK aGM_4 := sum_ok gM_4 spM_4
/-- X5_code -/
theorem cn_94_0 : Con aGM_4 94 0 sm_94_0 := con_of gM_4 soM_4 (smOK_of (by decide +kernel)).2 ac_94_0
/-- X5_change -/
theorem cn_95_0 : Con aGM_4 95 0 sm_95_0 := con_of gM_4 soM_4 (smOK_of (by decide +kernel)).2 ac_95_0
/-- X5_clear -/
theorem cn_96_0 : Con aGM_4 96 0 sm_96_0 := con_of gM_4 soM_4 (smOK_of (by decide +kernel)).2 ac_96_0
/-- X5_input -/
theorem cn_97_0 : Con aGM_4 97 0 sm_97_0 := con_of gM_4 soM_4 (smOK_of (by decide +kernel)).2 ac_97_0
/-- X5_empty -/
theorem cn_98_0 : Con aGM_4 98 0 sm_98_0 := con_of gM_4 soM_4 (smOK_of (by decide +kernel)).2 ac_98_0
/-- X5_run -/
theorem cn_106_0 : Con aGM_4 106 0 sm_106_0 := con_of gM_4 soM_4 (smOK_of (by decide +kernel)).2 ac_106_0
/-- X5_ran -/
theorem cn_107_0 : Con aGM_4 107 0 sm_107_0 := con_of gM_4 soM_4 (smOK_of (by decide +kernel)).2 ac_107_0
/-- X5_printed -/
theorem cn_108_0 : Con aGM_4 108 0 sm_108_0 := con_of gM_4 soM_4 (smOK_of (by decide +kernel)).2 ac_108_0
/-- X5_cell -/
theorem cn_109_0 : Con aGM_4 109 0 sm_109_0 := con_of gM_4 soM_4 (smOK_of (by decide +kernel)).2 ac_109_0
/-- X5_flow -/
theorem cn_124_0 : Con aGM_4 124 0 sm_124_0 := con_of gM_4 soM_4 (smOK_of (by decide +kernel)).2 ac_124_0
/-- X5_bad -/
theorem cn_125_0 : Con aGM_4 125 0 sm_125_0 := con_of gM_4 soM_4 (smOK_of (by decide +kernel)).2 ac_125_0
/-- X5_state -/
theorem cn_126_0 : Con aGM_4 126 0 sm_126_0 := con_of gM_4 soM_4 (smOK_of (by decide +kernel)).2 ac_126_0
/-- X5_witness -/
theorem cn_110_0 : Con aGM_4 110 0 sm_110_0 := con_of gM_4 soM_4 (smOK_of (by decide +kernel)).2 ac_110_0
/-- X5_needs -/
theorem cn_128_0 : Con aGM_4 128 0 sm_128_0 := con_of gM_4 soM_4 (smOK_of (by decide +kernel)).2 ac_128_0
/-- X5_writes -/
theorem cn_129_0 : Con aGM_4 129 0 sm_129_0 := con_of gM_4 soM_4 (smOK_of (by decide +kernel)).2 ac_129_0
/-- X5_cost -/
theorem cn_130_0 : Con aGM_4 130 0 sm_130_0 := con_of gM_4 soM_4 (smOK_of (by decide +kernel)).2 ac_130_0
/-- X5_mend -/
theorem cn_136_0 : Con aGM_4 136 0 sm_136_0 := con_of gM_4 soM_4 (smOK_of (by decide +kernel)).2 ac_136_0
/-- X5_mended -/
theorem cn_137_0 : Con aGM_4 137 0 sm_137_0 := con_of gM_4 soM_4 (smOK_of (by decide +kernel)).2 ac_137_0
/-- X5_count -/
theorem cn_140_0 : Con aGM_4 140 0 sm_140_0 := con_of gM_4 soM_4 (smOK_of (by decide +kernel)).2 ac_140_0
