set_option maxRecDepth 1000000 in
set_option maxHeartbeats 8000000 in
theorem cx_9 : xr 3000 9 Cx [.ref 0] = some (some (.int 0)) := by decide +kernel
set_option maxRecDepth 1000000 in
set_option maxHeartbeats 8000000 in
theorem cm_9 : xr 3000 80 Cm [.ref 0] = some (some (.int 0)) := by decide +kernel
theorem sm_9 : Same 9 80 [] := ⟨0, xr_of cx_9, xr_of cm_9⟩
set_option maxRecDepth 1000000 in
set_option maxHeartbeats 8000000 in
theorem cx_10 (k what : Int32) : xr 3000 10 Cx [.ref 0, .int k, .int what] = some (some (.int (-1))) := rfl
set_option maxRecDepth 1000000 in
set_option maxHeartbeats 8000000 in
theorem cm_10 (k what : Int32) : xr 3000 81 Cm [.ref 0, .int k, .int what] = some (some (.int (-1))) := rfl
theorem sm_10 (k what : Int32) : Same 10 81 [.int k, .int what] := ⟨-1, xr_of (cx_10 k what), xr_of (cm_10 k what)⟩
set_option maxRecDepth 1000000 in
set_option maxHeartbeats 8000000 in
theorem cx_16 : xr 60000 16 Cx [.ref 0] = some (some (.int 0)) := by decide +kernel
set_option maxRecDepth 1000000 in
set_option maxHeartbeats 8000000 in
theorem cm_16 : xr 60000 86 Cm [.ref 0] = some (some (.int 0)) := by decide +kernel
theorem sm_16 : Same 16 86 [] := ⟨0, xr_of cx_16, xr_of cm_16⟩