set_option maxRecDepth 1000000 in
set_option maxHeartbeats 8000000 in
theorem cx_13_0 : xr 60000 13 Cx [.ref 0, .int 0] = some (some (.int 0)) := by decide +kernel
set_option maxRecDepth 1000000 in
set_option maxHeartbeats 8000000 in
theorem cm_13_0 : xr 60000 83 Cm [.ref 0, .int 0] = some (some (.int 0)) := by decide +kernel
set_option maxRecDepth 1000000 in
set_option maxHeartbeats 8000000 in
theorem cx_13_1 : xr 60000 13 Cx [.ref 0, .int 1] = some (some (.int 0)) := by decide +kernel
set_option maxRecDepth 1000000 in
set_option maxHeartbeats 8000000 in
theorem cm_13_1 : xr 60000 83 Cm [.ref 0, .int 1] = some (some (.int 0)) := by decide +kernel
set_option maxRecDepth 1000000 in
set_option maxHeartbeats 8000000 in
theorem cx_13_2 : xr 60000 13 Cx [.ref 0, .int 2] = some (some (.int 0)) := by decide +kernel
set_option maxRecDepth 1000000 in
set_option maxHeartbeats 8000000 in
theorem cm_13_2 : xr 60000 83 Cm [.ref 0, .int 2] = some (some (.int 0)) := by decide +kernel
set_option maxRecDepth 1000000 in
set_option maxHeartbeats 8000000 in
theorem cx_13_3 : xr 60000 13 Cx [.ref 0, .int 3] = some (some (.int 0)) := by decide +kernel
set_option maxRecDepth 1000000 in
set_option maxHeartbeats 8000000 in
theorem cm_13_3 : xr 60000 83 Cm [.ref 0, .int 3] = some (some (.int 0)) := by decide +kernel
set_option maxRecDepth 1000000 in
set_option maxHeartbeats 8000000 in
theorem cx_13_4 : xr 60000 13 Cx [.ref 0, .int 4] = some (some (.int 0)) := by decide +kernel
set_option maxRecDepth 1000000 in
set_option maxHeartbeats 8000000 in
theorem cm_13_4 : xr 60000 83 Cm [.ref 0, .int 4] = some (some (.int 0)) := by decide +kernel
set_option maxRecDepth 1000000 in
set_option maxHeartbeats 8000000 in
theorem cx_13_5 : xr 60000 13 Cx [.ref 0, .int 5] = some (some (.int 0)) := by decide +kernel
set_option maxRecDepth 1000000 in
set_option maxHeartbeats 8000000 in
theorem cm_13_5 : xr 60000 83 Cm [.ref 0, .int 5] = some (some (.int 0)) := by decide +kernel
theorem sm_13 (f : Int32) : Same 13 83 [.int f] := by
  by_cases h : (0 ≤ f.toInt ∧ f.toInt ≤ 5)
  · rcases (show f.toInt = 0 ∨ f.toInt = 1 ∨ f.toInt = 2 ∨ f.toInt = 3 ∨ f.toInt = 4 ∨ f.toInt = 5 by omega) with e | e | e | e | e | e
    · obtain rfl : f = 0 := xi_eq e
      exact ⟨0, xr_of cx_13_0, xr_of cm_13_0⟩
    · obtain rfl : f = 1 := xi_eq e
      exact ⟨0, xr_of cx_13_1, xr_of cm_13_1⟩
    · obtain rfl : f = 2 := xi_eq e
      exact ⟨0, xr_of cx_13_2, xr_of cm_13_2⟩
    · obtain rfl : f = 3 := xi_eq e
      exact ⟨0, xr_of cx_13_3, xr_of cm_13_3⟩
    · obtain rfl : f = 4 := xi_eq e
      exact ⟨0, xr_of cx_13_4, xr_of cm_13_4⟩
    · obtain rfl : f = 5 := xi_eq e
      exact ⟨0, xr_of cx_13_5, xr_of cm_13_5⟩
  · exact so_13 f h
set_option maxRecDepth 1000000 in
set_option maxHeartbeats 8000000 in
theorem cx_14_0 : xr 6000 14 Cx [.ref 0, .int 0] = some (some (.int 0)) := by decide +kernel
set_option maxRecDepth 1000000 in
set_option maxHeartbeats 8000000 in
theorem cm_14_0 : xr 6000 84 Cm [.ref 0, .int 0] = some (some (.int 0)) := by decide +kernel
set_option maxRecDepth 1000000 in
set_option maxHeartbeats 8000000 in
theorem cx_14_1 : xr 6000 14 Cx [.ref 0, .int 1] = some (some (.int 0)) := by decide +kernel
set_option maxRecDepth 1000000 in
set_option maxHeartbeats 8000000 in
theorem cm_14_1 : xr 6000 84 Cm [.ref 0, .int 1] = some (some (.int 0)) := by decide +kernel
set_option maxRecDepth 1000000 in
set_option maxHeartbeats 8000000 in
theorem cx_14_2 : xr 6000 14 Cx [.ref 0, .int 2] = some (some (.int 0)) := by decide +kernel
set_option maxRecDepth 1000000 in
set_option maxHeartbeats 8000000 in
theorem cm_14_2 : xr 6000 84 Cm [.ref 0, .int 2] = some (some (.int 0)) := by decide +kernel
set_option maxRecDepth 1000000 in
set_option maxHeartbeats 8000000 in
theorem cx_14_3 : xr 6000 14 Cx [.ref 0, .int 3] = some (some (.int 0)) := by decide +kernel
set_option maxRecDepth 1000000 in
set_option maxHeartbeats 8000000 in
theorem cm_14_3 : xr 6000 84 Cm [.ref 0, .int 3] = some (some (.int 0)) := by decide +kernel
set_option maxRecDepth 1000000 in
set_option maxHeartbeats 8000000 in
theorem cx_14_4 : xr 6000 14 Cx [.ref 0, .int 4] = some (some (.int 0)) := by decide +kernel
set_option maxRecDepth 1000000 in
set_option maxHeartbeats 8000000 in
theorem cm_14_4 : xr 6000 84 Cm [.ref 0, .int 4] = some (some (.int 0)) := by decide +kernel
set_option maxRecDepth 1000000 in
set_option maxHeartbeats 8000000 in
theorem cx_14_5 : xr 6000 14 Cx [.ref 0, .int 5] = some (some (.int 0)) := by decide +kernel
set_option maxRecDepth 1000000 in
set_option maxHeartbeats 8000000 in
theorem cm_14_5 : xr 6000 84 Cm [.ref 0, .int 5] = some (some (.int 0)) := by decide +kernel
theorem sm_14 (f : Int32) : Same 14 84 [.int f] := by
  by_cases h : (0 ≤ f.toInt ∧ f.toInt ≤ 5)
  · rcases (show f.toInt = 0 ∨ f.toInt = 1 ∨ f.toInt = 2 ∨ f.toInt = 3 ∨ f.toInt = 4 ∨ f.toInt = 5 by omega) with e | e | e | e | e | e
    · obtain rfl : f = 0 := xi_eq e
      exact ⟨0, xr_of cx_14_0, xr_of cm_14_0⟩
    · obtain rfl : f = 1 := xi_eq e
      exact ⟨0, xr_of cx_14_1, xr_of cm_14_1⟩
    · obtain rfl : f = 2 := xi_eq e
      exact ⟨0, xr_of cx_14_2, xr_of cm_14_2⟩
    · obtain rfl : f = 3 := xi_eq e
      exact ⟨0, xr_of cx_14_3, xr_of cm_14_3⟩
    · obtain rfl : f = 4 := xi_eq e
      exact ⟨0, xr_of cx_14_4, xr_of cm_14_4⟩
    · obtain rfl : f = 5 := xi_eq e
      exact ⟨0, xr_of cx_14_5, xr_of cm_14_5⟩
  · exact so_14 f h