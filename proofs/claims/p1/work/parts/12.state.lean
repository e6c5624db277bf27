set_option maxRecDepth 1000000 in
set_option maxHeartbeats 8000000 in
theorem cx_11_0 : (List.range 16).all (fun c => decide (xr 3000 11 Cx [.ref 0, .int 0, .int 0, .int (Int32.ofNat c)] = some (some (.int 2)))) = true := by decide +kernel
set_option maxRecDepth 1000000 in
set_option maxHeartbeats 8000000 in
theorem cx_11_1 : (List.range 16).all (fun c => decide (xr 3000 11 Cx [.ref 0, .int 1, .int 0, .int (Int32.ofNat c)] = some (some (.int 0)))) = true := by decide +kernel
set_option maxRecDepth 1000000 in
set_option maxHeartbeats 8000000 in
theorem cx_11_2 : (List.range 16).all (fun c => decide (xr 3000 11 Cx [.ref 0, .int 2, .int 0, .int (Int32.ofNat c)] = some (some (.int 0)))) = true := by decide +kernel
set_option maxRecDepth 1000000 in
set_option maxHeartbeats 8000000 in
theorem cx_11_3 : (List.range 16).all (fun c => decide (xr 3000 11 Cx [.ref 0, .int 3, .int 0, .int (Int32.ofNat c)] = some (some (.int 0)))) = true := by decide +kernel
set_option maxRecDepth 1000000 in
set_option maxHeartbeats 8000000 in
theorem cx_11_4 : (List.range 16).all (fun c => decide (xr 3000 11 Cx [.ref 0, .int 4, .int 0, .int (Int32.ofNat c)] = some (some (.int 0)))) = true := by decide +kernel
set_option maxRecDepth 1000000 in
set_option maxHeartbeats 8000000 in
theorem cx_11_5 : (List.range 16).all (fun c => decide (xr 3000 11 Cx [.ref 0, .int 5, .int 0, .int (Int32.ofNat c)] = some (some (.int 0)))) = true := by decide +kernel
set_option maxRecDepth 1000000 in
set_option maxHeartbeats 8000000 in
theorem cm_11_0 : (List.range 16).all (fun c => decide (xr 3000 82 Cm [.ref 0, .int 0, .int 0, .int (Int32.ofNat c)] = some (some (.int 2)))) = true := by decide +kernel
set_option maxRecDepth 1000000 in
set_option maxHeartbeats 8000000 in
theorem cm_11_1 : (List.range 16).all (fun c => decide (xr 3000 82 Cm [.ref 0, .int 1, .int 0, .int (Int32.ofNat c)] = some (some (.int 0)))) = true := by decide +kernel
set_option maxRecDepth 1000000 in
set_option maxHeartbeats 8000000 in
theorem cm_11_2 : (List.range 16).all (fun c => decide (xr 3000 82 Cm [.ref 0, .int 2, .int 0, .int (Int32.ofNat c)] = some (some (.int 0)))) = true := by decide +kernel
set_option maxRecDepth 1000000 in
set_option maxHeartbeats 8000000 in
theorem cm_11_3 : (List.range 16).all (fun c => decide (xr 3000 82 Cm [.ref 0, .int 3, .int 0, .int (Int32.ofNat c)] = some (some (.int 0)))) = true := by decide +kernel
set_option maxRecDepth 1000000 in
set_option maxHeartbeats 8000000 in
theorem cm_11_4 : (List.range 16).all (fun c => decide (xr 3000 82 Cm [.ref 0, .int 4, .int 0, .int (Int32.ofNat c)] = some (some (.int 0)))) = true := by decide +kernel
set_option maxRecDepth 1000000 in
set_option maxHeartbeats 8000000 in
theorem cm_11_5 : (List.range 16).all (fun c => decide (xr 3000 82 Cm [.ref 0, .int 5, .int 0, .int (Int32.ofNat c)] = some (some (.int 0)))) = true := by decide +kernel
set_option maxHeartbeats 8000000 in
set_option maxRecDepth 1000000 in
theorem so_13 (f : Int32) (hout : ¬ (0 ≤ f.toInt ∧ f.toInt ≤ 5)) : Same 13 83 [.int f] := by
  refine Same_of ?_
  show RP 13 _ 0 [(0, .ref 0), (1, .int f)] [] _
  refine RP_step (pc1 := 1) (L1 := [(0, .ref 0), (1, .int f)]) (S1 := [.int f]) 1 0 (fun n => rfl) ?_
  refine RP_call 22 [.int f] (fun n => rfl) ?_
  show RP 22 _ 0 [(0, .int f)] [] _
  refine RP_step (pc1 := 1) (L1 := [(0, .int f)]) (S1 := [.int f]) 1 0 (fun n => rfl) ?_
  refine RP_cond (decide (f < 0)) (fun n => rfl) (fun hh => ?_) (fun hh => ?_)
  · have h1 := of_decide_eq_true hh
    have h2 : f.toInt < 0 := xj_lt h1
    show RP 22 _ 14 [(0, .int f)] [] _
    refine RP_done 4 (fun n => rfl) ?_
    refine Or.inr ⟨0, rfl, ?_⟩
    show RP 13 _ 4 [(0, .ref 0), (1, .int f)] [.int 0] _
    refine RP_done 5 (fun n => rfl) ?_
    show RP 83 _ 0 [(0, .ref 0), (1, .int f)] [] _
    refine RP_step (pc1 := 1) (L1 := [(0, .ref 0), (1, .int f)]) (S1 := [.int f]) 1 0 (fun n => rfl) ?_
    refine RP_call 56 [.int f] (fun n => rfl) ?_
    show RP 56 _ 0 [(0, .int f)] [] _
    refine RP_step (pc1 := 3) (L1 := [(0, .int f)]) (S1 := [.int 5, .int 0, .int f]) 3 0 (fun n => rfl) ?_
    refine RP_call 55 [.int f, .int 0, .int 5] (fun n => rfl) ?_
    show RP 55 _ 0 [(0, .int f), (1, .int 0), (2, .int 5)] [] _
    refine RP_step (pc1 := 2) (L1 := [(0, .int f), (1, .int 0), (2, .int 5)]) (S1 := [.int 0, .int f]) 2 0 (fun n => rfl) ?_
    refine RP_cond (decide (f < 0)) (fun n => rfl) (fun _ => ?_) (fun h => absurd (xi_lt (x := f) (y := 0) (show f.toInt < 0 by omega)) (of_decide_eq_false h))
    show RP 55 _ 14 [(0, .int f), (1, .int 0), (2, .int 5)] [] _
    refine RP_done 4 (fun n => rfl) ?_
    refine Or.inr ⟨0, rfl, ?_⟩
    show RP 56 _ 6 [(0, .int f)] [.int 0] _
    refine RP_done 3 (fun n => rfl) ?_
    refine Or.inr ⟨0, rfl, ?_⟩
    show RP 83 _ 4 [(0, .ref 0), (1, .int f)] [.int 0] _
    refine RP_done 5 (fun n => rfl) ?_
    exact ⟨rfl, _, rfl⟩
  · have h3 := of_decide_eq_false hh
    have h4 : 0 ≤ f.toInt := xj_nlt h3
    show RP 22 _ 4 [(0, .int f)] [] _
    refine RP_step (pc1 := 7) (L1 := [(0, .int f)]) (S1 := [.int 6, .int f]) 2 0 (fun n => rfl) ?_
    refine RP_cond (decide (6 ≤ f)) (fun n => rfl) (fun hh => ?_) (fun hh => ?_)
    · have h5 := of_decide_eq_true hh
      have h6 : 6 ≤ f.toInt := xj_le h5
      show RP 22 _ 14 [(0, .int f)] [] _
      refine RP_done 4 (fun n => rfl) ?_
      refine Or.inr ⟨0, rfl, ?_⟩
      show RP 13 _ 4 [(0, .ref 0), (1, .int f)] [.int 0] _
      refine RP_done 5 (fun n => rfl) ?_
      show RP 83 _ 0 [(0, .ref 0), (1, .int f)] [] _
      refine RP_step (pc1 := 1) (L1 := [(0, .ref 0), (1, .int f)]) (S1 := [.int f]) 1 0 (fun n => rfl) ?_
      refine RP_call 56 [.int f] (fun n => rfl) ?_
      show RP 56 _ 0 [(0, .int f)] [] _
      refine RP_step (pc1 := 3) (L1 := [(0, .int f)]) (S1 := [.int 5, .int 0, .int f]) 3 0 (fun n => rfl) ?_
      refine RP_call 55 [.int f, .int 0, .int 5] (fun n => rfl) ?_
      show RP 55 _ 0 [(0, .int f), (1, .int 0), (2, .int 5)] [] _
      refine RP_step (pc1 := 2) (L1 := [(0, .int f), (1, .int 0), (2, .int 5)]) (S1 := [.int 0, .int f]) 2 0 (fun n => rfl) ?_
      refine RP_cond (decide (f < 0)) (fun n => rfl) (fun h => absurd (of_decide_eq_true h) (xi_nlt (x := f) (y := 0) (show 0 ≤ f.toInt by omega))) (fun _ => ?_)
      show RP 55 _ 5 [(0, .int f), (1, .int 0), (2, .int 5)] [] _
      refine RP_step (pc1 := 7) (L1 := [(0, .int f), (1, .int 0), (2, .int 5)]) (S1 := [.int 5, .int f]) 2 0 (fun n => rfl) ?_
      refine RP_cond (decide (5 < f)) (fun n => rfl) (fun _ => ?_) (fun h => absurd (xi_lt (x := 5) (y := f) (show 5 < f.toInt by omega)) (of_decide_eq_false h))
      show RP 55 _ 14 [(0, .int f), (1, .int 0), (2, .int 5)] [] _
      refine RP_done 4 (fun n => rfl) ?_
      refine Or.inr ⟨0, rfl, ?_⟩
      show RP 56 _ 6 [(0, .int f)] [.int 0] _
      refine RP_done 3 (fun n => rfl) ?_
      refine Or.inr ⟨0, rfl, ?_⟩
      show RP 83 _ 4 [(0, .ref 0), (1, .int f)] [.int 0] _
      refine RP_done 5 (fun n => rfl) ?_
      exact ⟨rfl, _, rfl⟩
    · have h7 := of_decide_eq_false hh
      have h8 : f.toInt < 6 := xj_nle h7
      show RP 22 _ 10 [(0, .int f)] [] _
      refine RP_done 5 (fun n => rfl) ?_
      refine Or.inr ⟨1, rfl, ?_⟩
      show RP 13 _ 4 [(0, .ref 0), (1, .int f)] [.int 1] _
      exact absurd ⟨by omega, by omega⟩ hout

set_option maxHeartbeats 8000000 in
set_option maxRecDepth 1000000 in
theorem so_14 (f : Int32) (hout : ¬ (0 ≤ f.toInt ∧ f.toInt ≤ 5)) : Same 14 84 [.int f] := by
  refine Same_of ?_
  show RP 14 _ 0 [(0, .ref 0), (1, .int f)] [] _
  refine RP_step (pc1 := 1) (L1 := [(0, .ref 0), (1, .int f)]) (S1 := [.int f]) 1 0 (fun n => rfl) ?_
  refine RP_call 22 [.int f] (fun n => rfl) ?_
  show RP 22 _ 0 [(0, .int f)] [] _
  refine RP_step (pc1 := 1) (L1 := [(0, .int f)]) (S1 := [.int f]) 1 0 (fun n => rfl) ?_
  refine RP_cond (decide (f < 0)) (fun n => rfl) (fun hh => ?_) (fun hh => ?_)
  · have h1 := of_decide_eq_true hh
    have h2 : f.toInt < 0 := xj_lt h1
    show RP 22 _ 14 [(0, .int f)] [] _
    refine RP_done 4 (fun n => rfl) ?_
    refine Or.inr ⟨0, rfl, ?_⟩
    show RP 14 _ 4 [(0, .ref 0), (1, .int f)] [.int 0] _
    refine RP_done 5 (fun n => rfl) ?_
    show RP 84 _ 0 [(0, .ref 0), (1, .int f)] [] _
    refine RP_step (pc1 := 1) (L1 := [(0, .ref 0), (1, .int f)]) (S1 := [.int f]) 1 0 (fun n => rfl) ?_
    refine RP_call 56 [.int f] (fun n => rfl) ?_
    show RP 56 _ 0 [(0, .int f)] [] _
    refine RP_step (pc1 := 3) (L1 := [(0, .int f)]) (S1 := [.int 5, .int 0, .int f]) 3 0 (fun n => rfl) ?_
    refine RP_call 55 [.int f, .int 0, .int 5] (fun n => rfl) ?_
    show RP 55 _ 0 [(0, .int f), (1, .int 0), (2, .int 5)] [] _
    refine RP_step (pc1 := 2) (L1 := [(0, .int f), (1, .int 0), (2, .int 5)]) (S1 := [.int 0, .int f]) 2 0 (fun n => rfl) ?_
    refine RP_cond (decide (f < 0)) (fun n => rfl) (fun _ => ?_) (fun h => absurd (xi_lt (x := f) (y := 0) (show f.toInt < 0 by omega)) (of_decide_eq_false h))
    show RP 55 _ 14 [(0, .int f), (1, .int 0), (2, .int 5)] [] _
    refine RP_done 4 (fun n => rfl) ?_
    refine Or.inr ⟨0, rfl, ?_⟩
    show RP 56 _ 6 [(0, .int f)] [.int 0] _
    refine RP_done 3 (fun n => rfl) ?_
    refine Or.inr ⟨0, rfl, ?_⟩
    show RP 84 _ 4 [(0, .ref 0), (1, .int f)] [.int 0] _
    refine RP_done 5 (fun n => rfl) ?_
    exact ⟨rfl, _, rfl⟩
  · have h3 := of_decide_eq_false hh
    have h4 : 0 ≤ f.toInt := xj_nlt h3
    show RP 22 _ 4 [(0, .int f)] [] _
    refine RP_step (pc1 := 7) (L1 := [(0, .int f)]) (S1 := [.int 6, .int f]) 2 0 (fun n => rfl) ?_
    refine RP_cond (decide (6 ≤ f)) (fun n => rfl) (fun hh => ?_) (fun hh => ?_)
    · have h5 := of_decide_eq_true hh
      have h6 : 6 ≤ f.toInt := xj_le h5
      show RP 22 _ 14 [(0, .int f)] [] _
      refine RP_done 4 (fun n => rfl) ?_
      refine Or.inr ⟨0, rfl, ?_⟩
      show RP 14 _ 4 [(0, .ref 0), (1, .int f)] [.int 0] _
      refine RP_done 5 (fun n => rfl) ?_
      show RP 84 _ 0 [(0, .ref 0), (1, .int f)] [] _
      refine RP_step (pc1 := 1) (L1 := [(0, .ref 0), (1, .int f)]) (S1 := [.int f]) 1 0 (fun n => rfl) ?_
      refine RP_call 56 [.int f] (fun n => rfl) ?_
      show RP 56 _ 0 [(0, .int f)] [] _
      refine RP_step (pc1 := 3) (L1 := [(0, .int f)]) (S1 := [.int 5, .int 0, .int f]) 3 0 (fun n => rfl) ?_
      refine RP_call 55 [.int f, .int 0, .int 5] (fun n => rfl) ?_
      show RP 55 _ 0 [(0, .int f), (1, .int 0), (2, .int 5)] [] _
      refine RP_step (pc1 := 2) (L1 := [(0, .int f), (1, .int 0), (2, .int 5)]) (S1 := [.int 0, .int f]) 2 0 (fun n => rfl) ?_
      refine RP_cond (decide (f < 0)) (fun n => rfl) (fun h => absurd (of_decide_eq_true h) (xi_nlt (x := f) (y := 0) (show 0 ≤ f.toInt by omega))) (fun _ => ?_)
      show RP 55 _ 5 [(0, .int f), (1, .int 0), (2, .int 5)] [] _
      refine RP_step (pc1 := 7) (L1 := [(0, .int f), (1, .int 0), (2, .int 5)]) (S1 := [.int 5, .int f]) 2 0 (fun n => rfl) ?_
      refine RP_cond (decide (5 < f)) (fun n => rfl) (fun _ => ?_) (fun h => absurd (xi_lt (x := 5) (y := f) (show 5 < f.toInt by omega)) (of_decide_eq_false h))
      show RP 55 _ 14 [(0, .int f), (1, .int 0), (2, .int 5)] [] _
      refine RP_done 4 (fun n => rfl) ?_
      refine Or.inr ⟨0, rfl, ?_⟩
      show RP 56 _ 6 [(0, .int f)] [.int 0] _
      refine RP_done 3 (fun n => rfl) ?_
      refine Or.inr ⟨0, rfl, ?_⟩
      show RP 84 _ 4 [(0, .ref 0), (1, .int f)] [.int 0] _
      refine RP_done 5 (fun n => rfl) ?_
      exact ⟨rfl, _, rfl⟩
    · have h7 := of_decide_eq_false hh
      have h8 : f.toInt < 6 := xj_nle h7
      show RP 22 _ 10 [(0, .int f)] [] _
      refine RP_done 5 (fun n => rfl) ?_
      refine Or.inr ⟨1, rfl, ?_⟩
      show RP 14 _ 4 [(0, .ref 0), (1, .int f)] [.int 1] _
      exact absurd ⟨by omega, by omega⟩ hout

set_option maxHeartbeats 8000000 in
set_option maxRecDepth 1000000 in
theorem so_11 (f i c : Int32) (hout : ¬ (0 ≤ f.toInt ∧ f.toInt ≤ 5 ∧ 0 ≤ i.toInt ∧ i.toInt ≤ 0 ∧ 0 ≤ c.toInt ∧ c.toInt ≤ 15)) : Same 11 82 [.int f, .int i, .int c] := by
  refine Same_of ?_
  show RP 11 _ 0 [(0, .ref 0), (1, .int f), (2, .int i), (3, .int c)] [] _
  refine RP_step (pc1 := 1) (L1 := [(0, .ref 0), (1, .int f), (2, .int i), (3, .int c)]) (S1 := [.int f]) 1 0 (fun n => rfl) ?_
  refine RP_call 22 [.int f] (fun n => rfl) ?_
  show RP 22 _ 0 [(0, .int f)] [] _
  refine RP_step (pc1 := 1) (L1 := [(0, .int f)]) (S1 := [.int f]) 1 0 (fun n => rfl) ?_
  refine RP_cond (decide (f < 0)) (fun n => rfl) (fun hh => ?_) (fun hh => ?_)
  · have h1 := of_decide_eq_true hh
    have h2 : f.toInt < 0 := xj_lt h1
    show RP 22 _ 14 [(0, .int f)] [] _
    refine RP_done 4 (fun n => rfl) ?_
    refine Or.inr ⟨0, rfl, ?_⟩
    show RP 11 _ 4 [(0, .ref 0), (1, .int f), (2, .int i), (3, .int c)] [.int 0] _
    refine RP_done 5 (fun n => rfl) ?_
    show RP 82 _ 0 [(0, .ref 0), (1, .int f), (2, .int i), (3, .int c)] [] _
    refine RP_step (pc1 := 1) (L1 := [(0, .ref 0), (1, .int f), (2, .int i), (3, .int c)]) (S1 := [.int f]) 1 0 (fun n => rfl) ?_
    refine RP_call 56 [.int f] (fun n => rfl) ?_
    show RP 56 _ 0 [(0, .int f)] [] _
    refine RP_step (pc1 := 3) (L1 := [(0, .int f)]) (S1 := [.int 5, .int 0, .int f]) 3 0 (fun n => rfl) ?_
    refine RP_call 55 [.int f, .int 0, .int 5] (fun n => rfl) ?_
    show RP 55 _ 0 [(0, .int f), (1, .int 0), (2, .int 5)] [] _
    refine RP_step (pc1 := 2) (L1 := [(0, .int f), (1, .int 0), (2, .int 5)]) (S1 := [.int 0, .int f]) 2 0 (fun n => rfl) ?_
    refine RP_cond (decide (f < 0)) (fun n => rfl) (fun _ => ?_) (fun h => absurd (xi_lt (x := f) (y := 0) (show f.toInt < 0 by omega)) (of_decide_eq_false h))
    show RP 55 _ 14 [(0, .int f), (1, .int 0), (2, .int 5)] [] _
    refine RP_done 4 (fun n => rfl) ?_
    refine Or.inr ⟨0, rfl, ?_⟩
    show RP 56 _ 6 [(0, .int f)] [.int 0] _
    refine RP_done 3 (fun n => rfl) ?_
    refine Or.inr ⟨0, rfl, ?_⟩
    show RP 82 _ 4 [(0, .ref 0), (1, .int f), (2, .int i), (3, .int c)] [.int 0] _
    refine RP_done 5 (fun n => rfl) ?_
    exact ⟨rfl, _, rfl⟩
  · have h3 := of_decide_eq_false hh
    have h4 : 0 ≤ f.toInt := xj_nlt h3
    show RP 22 _ 4 [(0, .int f)] [] _
    refine RP_step (pc1 := 7) (L1 := [(0, .int f)]) (S1 := [.int 6, .int f]) 2 0 (fun n => rfl) ?_
    refine RP_cond (decide (6 ≤ f)) (fun n => rfl) (fun hh => ?_) (fun hh => ?_)
    · have h5 := of_decide_eq_true hh
      have h6 : 6 ≤ f.toInt := xj_le h5
      show RP 22 _ 14 [(0, .int f)] [] _
      refine RP_done 4 (fun n => rfl) ?_
      refine Or.inr ⟨0, rfl, ?_⟩
      show RP 11 _ 4 [(0, .ref 0), (1, .int f), (2, .int i), (3, .int c)] [.int 0] _
      refine RP_done 5 (fun n => rfl) ?_
      show RP 82 _ 0 [(0, .ref 0), (1, .int f), (2, .int i), (3, .int c)] [] _
      refine RP_step (pc1 := 1) (L1 := [(0, .ref 0), (1, .int f), (2, .int i), (3, .int c)]) (S1 := [.int f]) 1 0 (fun n => rfl) ?_
      refine RP_call 56 [.int f] (fun n => rfl) ?_
      show RP 56 _ 0 [(0, .int f)] [] _
      refine RP_step (pc1 := 3) (L1 := [(0, .int f)]) (S1 := [.int 5, .int 0, .int f]) 3 0 (fun n => rfl) ?_
      refine RP_call 55 [.int f, .int 0, .int 5] (fun n => rfl) ?_
      show RP 55 _ 0 [(0, .int f), (1, .int 0), (2, .int 5)] [] _
      refine RP_step (pc1 := 2) (L1 := [(0, .int f), (1, .int 0), (2, .int 5)]) (S1 := [.int 0, .int f]) 2 0 (fun n => rfl) ?_
      refine RP_cond (decide (f < 0)) (fun n => rfl) (fun h => absurd (of_decide_eq_true h) (xi_nlt (x := f) (y := 0) (show 0 ≤ f.toInt by omega))) (fun _ => ?_)
      show RP 55 _ 5 [(0, .int f), (1, .int 0), (2, .int 5)] [] _
      refine RP_step (pc1 := 7) (L1 := [(0, .int f), (1, .int 0), (2, .int 5)]) (S1 := [.int 5, .int f]) 2 0 (fun n => rfl) ?_
      refine RP_cond (decide (5 < f)) (fun n => rfl) (fun _ => ?_) (fun h => absurd (xi_lt (x := 5) (y := f) (show 5 < f.toInt by omega)) (of_decide_eq_false h))
      show RP 55 _ 14 [(0, .int f), (1, .int 0), (2, .int 5)] [] _
      refine RP_done 4 (fun n => rfl) ?_
      refine Or.inr ⟨0, rfl, ?_⟩
      show RP 56 _ 6 [(0, .int f)] [.int 0] _
      refine RP_done 3 (fun n => rfl) ?_
      refine Or.inr ⟨0, rfl, ?_⟩
      show RP 82 _ 4 [(0, .ref 0), (1, .int f), (2, .int i), (3, .int c)] [.int 0] _
      refine RP_done 5 (fun n => rfl) ?_
      exact ⟨rfl, _, rfl⟩
    · have h7 := of_decide_eq_false hh
      have h8 : f.toInt < 6 := xj_nle h7
      show RP 22 _ 10 [(0, .int f)] [] _
      refine RP_done 5 (fun n => rfl) ?_
      refine Or.inr ⟨1, rfl, ?_⟩
      show RP 11 _ 4 [(0, .ref 0), (1, .int f), (2, .int i), (3, .int c)] [.int 1] _
      refine RP_step (pc1 := 8) (L1 := [(0, .ref 0), (1, .int f), (2, .int i), (3, .int c)]) (S1 := [.int i]) 2 0 (fun n => rfl) ?_
      refine RP_cond (decide (i < 0)) (fun n => rfl) (fun hh => ?_) (fun hh => ?_)
      · have h9 := of_decide_eq_true hh
        have h10 : i.toInt < 0 := xj_lt h9
        show RP 11 _ 31 [(0, .ref 0), (1, .int f), (2, .int i), (3, .int c)] [] _
        refine RP_done 4 (fun n => rfl) ?_
        show RP 82 _ 0 [(0, .ref 0), (1, .int f), (2, .int i), (3, .int c)] [] _
        refine RP_step (pc1 := 1) (L1 := [(0, .ref 0), (1, .int f), (2, .int i), (3, .int c)]) (S1 := [.int f]) 1 0 (fun n => rfl) ?_
        refine RP_call 56 [.int f] (fun n => rfl) ?_
        show RP 56 _ 0 [(0, .int f)] [] _
        refine RP_step (pc1 := 3) (L1 := [(0, .int f)]) (S1 := [.int 5, .int 0, .int f]) 3 0 (fun n => rfl) ?_
        refine RP_call 55 [.int f, .int 0, .int 5] (fun n => rfl) ?_
        show RP 55 _ 0 [(0, .int f), (1, .int 0), (2, .int 5)] [] _
        refine RP_step (pc1 := 2) (L1 := [(0, .int f), (1, .int 0), (2, .int 5)]) (S1 := [.int 0, .int f]) 2 0 (fun n => rfl) ?_
        refine RP_cond (decide (f < 0)) (fun n => rfl) (fun h => absurd (of_decide_eq_true h) (xi_nlt (x := f) (y := 0) (show 0 ≤ f.toInt by omega))) (fun _ => ?_)
        show RP 55 _ 5 [(0, .int f), (1, .int 0), (2, .int 5)] [] _
        refine RP_step (pc1 := 7) (L1 := [(0, .int f), (1, .int 0), (2, .int 5)]) (S1 := [.int 5, .int f]) 2 0 (fun n => rfl) ?_
        refine RP_cond (decide (5 < f)) (fun n => rfl) (fun h => absurd (of_decide_eq_true h) (xi_nlt (x := 5) (y := f) (show f.toInt ≤ 5 by omega))) (fun _ => ?_)
        show RP 55 _ 10 [(0, .int f), (1, .int 0), (2, .int 5)] [] _
        refine RP_done 5 (fun n => rfl) ?_
        refine Or.inr ⟨1, rfl, ?_⟩
        show RP 56 _ 6 [(0, .int f)] [.int 1] _
        refine RP_done 3 (fun n => rfl) ?_
        refine Or.inr ⟨1, rfl, ?_⟩
        show RP 82 _ 4 [(0, .ref 0), (1, .int f), (2, .int i), (3, .int c)] [.int 1] _
        refine RP_step (pc1 := 14) (L1 := [(0, .ref 0), (1, .int f), (2, .int i), (3, .int c)]) (S1 := [.int f, .ref 2, .int 0, .int i]) 6 0 (fun n => rfl) ?_
        rcases (show f.toInt = 0 ∨ f.toInt = 1 ∨ f.toInt = 2 ∨ f.toInt = 3 ∨ f.toInt = 4 ∨ f.toInt = 5 by omega) with e9 | e9 | e9 | e9 | e9 | e9
        · obtain rfl : f = 0 := xi_eq e9
          show RP 82 _ 14 [(0, .ref 0), (1, .int 0), (2, .int i), (3, .int c)] [.int 0, .ref 2, .int 0, .int i] _
          refine RP_step (pc1 := 15) (L1 := [(0, .ref 0), (1, .int 0), (2, .int i), (3, .int c)]) (S1 := [.int 0, .int 0, .int i]) 1 0 (fun n => rfl) ?_
          refine RP_call 55 [.int i, .int 0, .int 0] (fun n => rfl) ?_
          show RP 55 _ 0 [(0, .int i), (1, .int 0), (2, .int 0)] [] _
          refine RP_step (pc1 := 2) (L1 := [(0, .int i), (1, .int 0), (2, .int 0)]) (S1 := [.int 0, .int i]) 2 0 (fun n => rfl) ?_
          refine RP_cond (decide (i < 0)) (fun n => rfl) (fun _ => ?_) (fun h => absurd (xi_lt (x := i) (y := 0) (show i.toInt < 0 by omega)) (of_decide_eq_false h))
          show RP 55 _ 14 [(0, .int i), (1, .int 0), (2, .int 0)] [] _
          refine RP_done 4 (fun n => rfl) ?_
          refine Or.inr ⟨0, rfl, ?_⟩
          show RP 82 _ 18 [(0, .ref 0), (1, .int 0), (2, .int i), (3, .int c)] [.int 0] _
          refine RP_done 5 (fun n => rfl) ?_
          exact ⟨rfl, _, rfl⟩
        · obtain rfl : f = 1 := xi_eq e9
          show RP 82 _ 14 [(0, .ref 0), (1, .int 1), (2, .int i), (3, .int c)] [.int 1, .ref 2, .int 0, .int i] _
          refine RP_step (pc1 := 15) (L1 := [(0, .ref 0), (1, .int 1), (2, .int i), (3, .int c)]) (S1 := [.int 0, .int 0, .int i]) 1 0 (fun n => rfl) ?_
          refine RP_call 55 [.int i, .int 0, .int 0] (fun n => rfl) ?_
          show RP 55 _ 0 [(0, .int i), (1, .int 0), (2, .int 0)] [] _
          refine RP_step (pc1 := 2) (L1 := [(0, .int i), (1, .int 0), (2, .int 0)]) (S1 := [.int 0, .int i]) 2 0 (fun n => rfl) ?_
          refine RP_cond (decide (i < 0)) (fun n => rfl) (fun _ => ?_) (fun h => absurd (xi_lt (x := i) (y := 0) (show i.toInt < 0 by omega)) (of_decide_eq_false h))
          show RP 55 _ 14 [(0, .int i), (1, .int 0), (2, .int 0)] [] _
          refine RP_done 4 (fun n => rfl) ?_
          refine Or.inr ⟨0, rfl, ?_⟩
          show RP 82 _ 18 [(0, .ref 0), (1, .int 1), (2, .int i), (3, .int c)] [.int 0] _
          refine RP_done 5 (fun n => rfl) ?_
          exact ⟨rfl, _, rfl⟩
        · obtain rfl : f = 2 := xi_eq e9
          show RP 82 _ 14 [(0, .ref 0), (1, .int 2), (2, .int i), (3, .int c)] [.int 2, .ref 2, .int 0, .int i] _
          refine RP_step (pc1 := 15) (L1 := [(0, .ref 0), (1, .int 2), (2, .int i), (3, .int c)]) (S1 := [.int 0, .int 0, .int i]) 1 0 (fun n => rfl) ?_
          refine RP_call 55 [.int i, .int 0, .int 0] (fun n => rfl) ?_
          show RP 55 _ 0 [(0, .int i), (1, .int 0), (2, .int 0)] [] _
          refine RP_step (pc1 := 2) (L1 := [(0, .int i), (1, .int 0), (2, .int 0)]) (S1 := [.int 0, .int i]) 2 0 (fun n => rfl) ?_
          refine RP_cond (decide (i < 0)) (fun n => rfl) (fun _ => ?_) (fun h => absurd (xi_lt (x := i) (y := 0) (show i.toInt < 0 by omega)) (of_decide_eq_false h))
          show RP 55 _ 14 [(0, .int i), (1, .int 0), (2, .int 0)] [] _
          refine RP_done 4 (fun n => rfl) ?_
          refine Or.inr ⟨0, rfl, ?_⟩
          show RP 82 _ 18 [(0, .ref 0), (1, .int 2), (2, .int i), (3, .int c)] [.int 0] _
          refine RP_done 5 (fun n => rfl) ?_
          exact ⟨rfl, _, rfl⟩
        · obtain rfl : f = 3 := xi_eq e9
          show RP 82 _ 14 [(0, .ref 0), (1, .int 3), (2, .int i), (3, .int c)] [.int 3, .ref 2, .int 0, .int i] _
          refine RP_step (pc1 := 15) (L1 := [(0, .ref 0), (1, .int 3), (2, .int i), (3, .int c)]) (S1 := [.int 0, .int 0, .int i]) 1 0 (fun n => rfl) ?_
          refine RP_call 55 [.int i, .int 0, .int 0] (fun n => rfl) ?_
          show RP 55 _ 0 [(0, .int i), (1, .int 0), (2, .int 0)] [] _
          refine RP_step (pc1 := 2) (L1 := [(0, .int i), (1, .int 0), (2, .int 0)]) (S1 := [.int 0, .int i]) 2 0 (fun n => rfl) ?_
          refine RP_cond (decide (i < 0)) (fun n => rfl) (fun _ => ?_) (fun h => absurd (xi_lt (x := i) (y := 0) (show i.toInt < 0 by omega)) (of_decide_eq_false h))
          show RP 55 _ 14 [(0, .int i), (1, .int 0), (2, .int 0)] [] _
          refine RP_done 4 (fun n => rfl) ?_
          refine Or.inr ⟨0, rfl, ?_⟩
          show RP 82 _ 18 [(0, .ref 0), (1, .int 3), (2, .int i), (3, .int c)] [.int 0] _
          refine RP_done 5 (fun n => rfl) ?_
          exact ⟨rfl, _, rfl⟩
        · obtain rfl : f = 4 := xi_eq e9
          show RP 82 _ 14 [(0, .ref 0), (1, .int 4), (2, .int i), (3, .int c)] [.int 4, .ref 2, .int 0, .int i] _
          refine RP_step (pc1 := 15) (L1 := [(0, .ref 0), (1, .int 4), (2, .int i), (3, .int c)]) (S1 := [.int 0, .int 0, .int i]) 1 0 (fun n => rfl) ?_
          refine RP_call 55 [.int i, .int 0, .int 0] (fun n => rfl) ?_
          show RP 55 _ 0 [(0, .int i), (1, .int 0), (2, .int 0)] [] _
          refine RP_step (pc1 := 2) (L1 := [(0, .int i), (1, .int 0), (2, .int 0)]) (S1 := [.int 0, .int i]) 2 0 (fun n => rfl) ?_
          refine RP_cond (decide (i < 0)) (fun n => rfl) (fun _ => ?_) (fun h => absurd (xi_lt (x := i) (y := 0) (show i.toInt < 0 by omega)) (of_decide_eq_false h))
          show RP 55 _ 14 [(0, .int i), (1, .int 0), (2, .int 0)] [] _
          refine RP_done 4 (fun n => rfl) ?_
          refine Or.inr ⟨0, rfl, ?_⟩
          show RP 82 _ 18 [(0, .ref 0), (1, .int 4), (2, .int i), (3, .int c)] [.int 0] _
          refine RP_done 5 (fun n => rfl) ?_
          exact ⟨rfl, _, rfl⟩
        · obtain rfl : f = 5 := xi_eq e9
          show RP 82 _ 14 [(0, .ref 0), (1, .int 5), (2, .int i), (3, .int c)] [.int 5, .ref 2, .int 0, .int i] _
          refine RP_step (pc1 := 15) (L1 := [(0, .ref 0), (1, .int 5), (2, .int i), (3, .int c)]) (S1 := [.int 0, .int 0, .int i]) 1 0 (fun n => rfl) ?_
          refine RP_call 55 [.int i, .int 0, .int 0] (fun n => rfl) ?_
          show RP 55 _ 0 [(0, .int i), (1, .int 0), (2, .int 0)] [] _
          refine RP_step (pc1 := 2) (L1 := [(0, .int i), (1, .int 0), (2, .int 0)]) (S1 := [.int 0, .int i]) 2 0 (fun n => rfl) ?_
          refine RP_cond (decide (i < 0)) (fun n => rfl) (fun _ => ?_) (fun h => absurd (xi_lt (x := i) (y := 0) (show i.toInt < 0 by omega)) (of_decide_eq_false h))
          show RP 55 _ 14 [(0, .int i), (1, .int 0), (2, .int 0)] [] _
          refine RP_done 4 (fun n => rfl) ?_
          refine Or.inr ⟨0, rfl, ?_⟩
          show RP 82 _ 18 [(0, .ref 0), (1, .int 5), (2, .int i), (3, .int c)] [.int 0] _
          refine RP_done 5 (fun n => rfl) ?_
          exact ⟨rfl, _, rfl⟩
      · have h11 := of_decide_eq_false hh
        have h12 : 0 ≤ i.toInt := xj_nlt h11
        show RP 11 _ 11 [(0, .ref 0), (1, .int f), (2, .int i), (3, .int c)] [] _
        refine RP_step (pc1 := 20) (L1 := [(0, .ref 0), (1, .int f), (2, .int i), (3, .int c)]) (S1 := [.int f, .ref 2, .int i]) 5 0 (fun n => rfl) ?_
        rcases (show f.toInt = 0 ∨ f.toInt = 1 ∨ f.toInt = 2 ∨ f.toInt = 3 ∨ f.toInt = 4 ∨ f.toInt = 5 by omega) with e9 | e9 | e9 | e9 | e9 | e9
        · obtain rfl : f = 0 := xi_eq e9
          show RP 11 _ 20 [(0, .ref 0), (1, .int 0), (2, .int i), (3, .int c)] [.int 0, .ref 2, .int i] _
          refine RP_step (pc1 := 21) (L1 := [(0, .ref 0), (1, .int 0), (2, .int i), (3, .int c)]) (S1 := [.int 0, .int i]) 1 0 (fun n => rfl) ?_
          refine RP_cond (decide (0 < i)) (fun n => rfl) (fun hh => ?_) (fun hh => ?_)
          · have h13 := of_decide_eq_true hh
            have h14 : 0 < i.toInt := xj_lt h13
            show RP 11 _ 31 [(0, .ref 0), (1, .int 0), (2, .int i), (3, .int c)] [] _
            refine RP_done 4 (fun n => rfl) ?_
            show RP 82 _ 0 [(0, .ref 0), (1, .int 0), (2, .int i), (3, .int c)] [] _
            refine RP_step (pc1 := 1) (L1 := [(0, .ref 0), (1, .int 0), (2, .int i), (3, .int c)]) (S1 := [.int 0]) 1 0 (fun n => rfl) ?_
            refine RP_call 56 [.int 0] (fun n => rfl) ?_
            show RP 56 _ 0 [(0, .int 0)] [] _
            refine RP_done 15 (fun n => rfl) ?_
            refine Or.inr ⟨1, rfl, ?_⟩
            show RP 82 _ 4 [(0, .ref 0), (1, .int 0), (2, .int i), (3, .int c)] [.int 1] _
            refine RP_step (pc1 := 15) (L1 := [(0, .ref 0), (1, .int 0), (2, .int i), (3, .int c)]) (S1 := [.int 0, .int 0, .int i]) 7 0 (fun n => rfl) ?_
            refine RP_call 55 [.int i, .int 0, .int 0] (fun n => rfl) ?_
            show RP 55 _ 0 [(0, .int i), (1, .int 0), (2, .int 0)] [] _
            refine RP_step (pc1 := 2) (L1 := [(0, .int i), (1, .int 0), (2, .int 0)]) (S1 := [.int 0, .int i]) 2 0 (fun n => rfl) ?_
            refine RP_cond (decide (i < 0)) (fun n => rfl) (fun h => absurd (of_decide_eq_true h) (xi_nlt (x := i) (y := 0) (show 0 ≤ i.toInt by omega))) (fun _ => ?_)
            show RP 55 _ 5 [(0, .int i), (1, .int 0), (2, .int 0)] [] _
            refine RP_step (pc1 := 7) (L1 := [(0, .int i), (1, .int 0), (2, .int 0)]) (S1 := [.int 0, .int i]) 2 0 (fun n => rfl) ?_
            refine RP_cond (decide (0 < i)) (fun n => rfl) (fun _ => ?_) (fun h => absurd (xi_lt (x := 0) (y := i) (show 0 < i.toInt by omega)) (of_decide_eq_false h))
            show RP 55 _ 14 [(0, .int i), (1, .int 0), (2, .int 0)] [] _
            refine RP_done 4 (fun n => rfl) ?_
            refine Or.inr ⟨0, rfl, ?_⟩
            show RP 82 _ 18 [(0, .ref 0), (1, .int 0), (2, .int i), (3, .int c)] [.int 0] _
            refine RP_done 5 (fun n => rfl) ?_
            exact ⟨rfl, _, rfl⟩
          · have h15 := of_decide_eq_false hh
            have h16 : i.toInt ≤ 0 := xj_nlt h15
            show RP 11 _ 24 [(0, .ref 0), (1, .int 0), (2, .int i), (3, .int c)] [] _
            refine RP_step (pc1 := 25) (L1 := [(0, .ref 0), (1, .int 0), (2, .int i), (3, .int c)]) (S1 := [.int c]) 1 0 (fun n => rfl) ?_
            refine RP_call 23 [.int c] (fun n => rfl) ?_
            show RP 23 _ 0 [(0, .int c)] [] _
            refine RP_step (pc1 := 1) (L1 := [(0, .int c)]) (S1 := [.int c]) 1 0 (fun n => rfl) ?_
            refine RP_cond (decide (c < 0)) (fun n => rfl) (fun hh => ?_) (fun hh => ?_)
            · have h17 := of_decide_eq_true hh
              have h18 : c.toInt < 0 := xj_lt h17
              show RP 23 _ 14 [(0, .int c)] [] _
              refine RP_done 4 (fun n => rfl) ?_
              refine Or.inr ⟨0, rfl, ?_⟩
              show RP 11 _ 28 [(0, .ref 0), (1, .int 0), (2, .int i), (3, .int c)] [.int 0] _
              refine RP_done 5 (fun n => rfl) ?_
              show RP 82 _ 0 [(0, .ref 0), (1, .int 0), (2, .int i), (3, .int c)] [] _
              refine RP_step (pc1 := 1) (L1 := [(0, .ref 0), (1, .int 0), (2, .int i), (3, .int c)]) (S1 := [.int 0]) 1 0 (fun n => rfl) ?_
              refine RP_call 56 [.int 0] (fun n => rfl) ?_
              show RP 56 _ 0 [(0, .int 0)] [] _
              refine RP_done 15 (fun n => rfl) ?_
              refine Or.inr ⟨1, rfl, ?_⟩
              show RP 82 _ 4 [(0, .ref 0), (1, .int 0), (2, .int i), (3, .int c)] [.int 1] _
              refine RP_step (pc1 := 15) (L1 := [(0, .ref 0), (1, .int 0), (2, .int i), (3, .int c)]) (S1 := [.int 0, .int 0, .int i]) 7 0 (fun n => rfl) ?_
              refine RP_call 55 [.int i, .int 0, .int 0] (fun n => rfl) ?_
              show RP 55 _ 0 [(0, .int i), (1, .int 0), (2, .int 0)] [] _
              refine RP_step (pc1 := 2) (L1 := [(0, .int i), (1, .int 0), (2, .int 0)]) (S1 := [.int 0, .int i]) 2 0 (fun n => rfl) ?_
              refine RP_cond (decide (i < 0)) (fun n => rfl) (fun h => absurd (of_decide_eq_true h) (xi_nlt (x := i) (y := 0) (show 0 ≤ i.toInt by omega))) (fun _ => ?_)
              show RP 55 _ 5 [(0, .int i), (1, .int 0), (2, .int 0)] [] _
              refine RP_step (pc1 := 7) (L1 := [(0, .int i), (1, .int 0), (2, .int 0)]) (S1 := [.int 0, .int i]) 2 0 (fun n => rfl) ?_
              refine RP_cond (decide (0 < i)) (fun n => rfl) (fun h => absurd (of_decide_eq_true h) (xi_nlt (x := 0) (y := i) (show i.toInt ≤ 0 by omega))) (fun _ => ?_)
              show RP 55 _ 10 [(0, .int i), (1, .int 0), (2, .int 0)] [] _
              refine RP_done 5 (fun n => rfl) ?_
              refine Or.inr ⟨1, rfl, ?_⟩
              show RP 82 _ 18 [(0, .ref 0), (1, .int 0), (2, .int i), (3, .int c)] [.int 1] _
              refine RP_step (pc1 := 22) (L1 := [(0, .ref 0), (1, .int 0), (2, .int i), (3, .int c)]) (S1 := [.int c]) 2 0 (fun n => rfl) ?_
              refine RP_call 57 [.int c] (fun n => rfl) ?_
              show RP 57 _ 0 [(0, .int c)] [] _
              refine RP_step (pc1 := 4) (L1 := [(0, .int c)]) (S1 := [.int 15, .int 0, .int c]) 3 0 (fun n => rfl) ?_
              refine RP_call 55 [.int c, .int 0, .int 15] (fun n => rfl) ?_
              show RP 55 _ 0 [(0, .int c), (1, .int 0), (2, .int 15)] [] _
              refine RP_step (pc1 := 2) (L1 := [(0, .int c), (1, .int 0), (2, .int 15)]) (S1 := [.int 0, .int c]) 2 0 (fun n => rfl) ?_
              refine RP_cond (decide (c < 0)) (fun n => rfl) (fun _ => ?_) (fun h => absurd (xi_lt (x := c) (y := 0) (show c.toInt < 0 by omega)) (of_decide_eq_false h))
              show RP 55 _ 14 [(0, .int c), (1, .int 0), (2, .int 15)] [] _
              refine RP_done 4 (fun n => rfl) ?_
              refine Or.inr ⟨0, rfl, ?_⟩
              show RP 57 _ 7 [(0, .int c)] [.int 0] _
              refine RP_done 3 (fun n => rfl) ?_
              refine Or.inr ⟨0, rfl, ?_⟩
              show RP 82 _ 25 [(0, .ref 0), (1, .int 0), (2, .int i), (3, .int c)] [.int 0] _
              refine RP_done 5 (fun n => rfl) ?_
              exact ⟨rfl, _, rfl⟩
            · have h19 := of_decide_eq_false hh
              have h20 : 0 ≤ c.toInt := xj_nlt h19
              show RP 23 _ 4 [(0, .int c)] [] _
              refine RP_step (pc1 := 7) (L1 := [(0, .int c)]) (S1 := [.int 16, .int c]) 2 0 (fun n => rfl) ?_
              refine RP_cond (decide (16 ≤ c)) (fun n => rfl) (fun hh => ?_) (fun hh => ?_)
              · have h21 := of_decide_eq_true hh
                have h22 : 16 ≤ c.toInt := xj_le h21
                show RP 23 _ 14 [(0, .int c)] [] _
                refine RP_done 4 (fun n => rfl) ?_
                refine Or.inr ⟨0, rfl, ?_⟩
                show RP 11 _ 28 [(0, .ref 0), (1, .int 0), (2, .int i), (3, .int c)] [.int 0] _
                refine RP_done 5 (fun n => rfl) ?_
                show RP 82 _ 0 [(0, .ref 0), (1, .int 0), (2, .int i), (3, .int c)] [] _
                refine RP_step (pc1 := 1) (L1 := [(0, .ref 0), (1, .int 0), (2, .int i), (3, .int c)]) (S1 := [.int 0]) 1 0 (fun n => rfl) ?_
                refine RP_call 56 [.int 0] (fun n => rfl) ?_
                show RP 56 _ 0 [(0, .int 0)] [] _
                refine RP_done 15 (fun n => rfl) ?_
                refine Or.inr ⟨1, rfl, ?_⟩
                show RP 82 _ 4 [(0, .ref 0), (1, .int 0), (2, .int i), (3, .int c)] [.int 1] _
                refine RP_step (pc1 := 15) (L1 := [(0, .ref 0), (1, .int 0), (2, .int i), (3, .int c)]) (S1 := [.int 0, .int 0, .int i]) 7 0 (fun n => rfl) ?_
                refine RP_call 55 [.int i, .int 0, .int 0] (fun n => rfl) ?_
                show RP 55 _ 0 [(0, .int i), (1, .int 0), (2, .int 0)] [] _
                refine RP_step (pc1 := 2) (L1 := [(0, .int i), (1, .int 0), (2, .int 0)]) (S1 := [.int 0, .int i]) 2 0 (fun n => rfl) ?_
                refine RP_cond (decide (i < 0)) (fun n => rfl) (fun h => absurd (of_decide_eq_true h) (xi_nlt (x := i) (y := 0) (show 0 ≤ i.toInt by omega))) (fun _ => ?_)
                show RP 55 _ 5 [(0, .int i), (1, .int 0), (2, .int 0)] [] _
                refine RP_step (pc1 := 7) (L1 := [(0, .int i), (1, .int 0), (2, .int 0)]) (S1 := [.int 0, .int i]) 2 0 (fun n => rfl) ?_
                refine RP_cond (decide (0 < i)) (fun n => rfl) (fun h => absurd (of_decide_eq_true h) (xi_nlt (x := 0) (y := i) (show i.toInt ≤ 0 by omega))) (fun _ => ?_)
                show RP 55 _ 10 [(0, .int i), (1, .int 0), (2, .int 0)] [] _
                refine RP_done 5 (fun n => rfl) ?_
                refine Or.inr ⟨1, rfl, ?_⟩
                show RP 82 _ 18 [(0, .ref 0), (1, .int 0), (2, .int i), (3, .int c)] [.int 1] _
                refine RP_step (pc1 := 22) (L1 := [(0, .ref 0), (1, .int 0), (2, .int i), (3, .int c)]) (S1 := [.int c]) 2 0 (fun n => rfl) ?_
                refine RP_call 57 [.int c] (fun n => rfl) ?_
                show RP 57 _ 0 [(0, .int c)] [] _
                refine RP_step (pc1 := 4) (L1 := [(0, .int c)]) (S1 := [.int 15, .int 0, .int c]) 3 0 (fun n => rfl) ?_
                refine RP_call 55 [.int c, .int 0, .int 15] (fun n => rfl) ?_
                show RP 55 _ 0 [(0, .int c), (1, .int 0), (2, .int 15)] [] _
                refine RP_step (pc1 := 2) (L1 := [(0, .int c), (1, .int 0), (2, .int 15)]) (S1 := [.int 0, .int c]) 2 0 (fun n => rfl) ?_
                refine RP_cond (decide (c < 0)) (fun n => rfl) (fun h => absurd (of_decide_eq_true h) (xi_nlt (x := c) (y := 0) (show 0 ≤ c.toInt by omega))) (fun _ => ?_)
                show RP 55 _ 5 [(0, .int c), (1, .int 0), (2, .int 15)] [] _
                refine RP_step (pc1 := 7) (L1 := [(0, .int c), (1, .int 0), (2, .int 15)]) (S1 := [.int 15, .int c]) 2 0 (fun n => rfl) ?_
                refine RP_cond (decide (15 < c)) (fun n => rfl) (fun _ => ?_) (fun h => absurd (xi_lt (x := 15) (y := c) (show 15 < c.toInt by omega)) (of_decide_eq_false h))
                show RP 55 _ 14 [(0, .int c), (1, .int 0), (2, .int 15)] [] _
                refine RP_done 4 (fun n => rfl) ?_
                refine Or.inr ⟨0, rfl, ?_⟩
                show RP 57 _ 7 [(0, .int c)] [.int 0] _
                refine RP_done 3 (fun n => rfl) ?_
                refine Or.inr ⟨0, rfl, ?_⟩
                show RP 82 _ 25 [(0, .ref 0), (1, .int 0), (2, .int i), (3, .int c)] [.int 0] _
                refine RP_done 5 (fun n => rfl) ?_
                exact ⟨rfl, _, rfl⟩
              · have h23 := of_decide_eq_false hh
                have h24 : c.toInt < 16 := xj_nle h23
                show RP 23 _ 10 [(0, .int c)] [] _
                refine RP_done 5 (fun n => rfl) ?_
                refine Or.inr ⟨1, rfl, ?_⟩
                show RP 11 _ 28 [(0, .ref 0), (1, .int 0), (2, .int i), (3, .int c)] [.int 1] _
                exact absurd ⟨by decide, by decide, by omega, by omega, by omega, by omega⟩ hout
        · obtain rfl : f = 1 := xi_eq e9
          show RP 11 _ 20 [(0, .ref 0), (1, .int 1), (2, .int i), (3, .int c)] [.int 1, .ref 2, .int i] _
          refine RP_step (pc1 := 21) (L1 := [(0, .ref 0), (1, .int 1), (2, .int i), (3, .int c)]) (S1 := [.int 0, .int i]) 1 0 (fun n => rfl) ?_
          refine RP_cond (decide (0 < i)) (fun n => rfl) (fun hh => ?_) (fun hh => ?_)
          · have h25 := of_decide_eq_true hh
            have h26 : 0 < i.toInt := xj_lt h25
            show RP 11 _ 31 [(0, .ref 0), (1, .int 1), (2, .int i), (3, .int c)] [] _
            refine RP_done 4 (fun n => rfl) ?_
            show RP 82 _ 0 [(0, .ref 0), (1, .int 1), (2, .int i), (3, .int c)] [] _
            refine RP_step (pc1 := 1) (L1 := [(0, .ref 0), (1, .int 1), (2, .int i), (3, .int c)]) (S1 := [.int 1]) 1 0 (fun n => rfl) ?_
            refine RP_call 56 [.int 1] (fun n => rfl) ?_
            show RP 56 _ 0 [(0, .int 1)] [] _
            refine RP_done 15 (fun n => rfl) ?_
            refine Or.inr ⟨1, rfl, ?_⟩
            show RP 82 _ 4 [(0, .ref 0), (1, .int 1), (2, .int i), (3, .int c)] [.int 1] _
            refine RP_step (pc1 := 15) (L1 := [(0, .ref 0), (1, .int 1), (2, .int i), (3, .int c)]) (S1 := [.int 0, .int 0, .int i]) 7 0 (fun n => rfl) ?_
            refine RP_call 55 [.int i, .int 0, .int 0] (fun n => rfl) ?_
            show RP 55 _ 0 [(0, .int i), (1, .int 0), (2, .int 0)] [] _
            refine RP_step (pc1 := 2) (L1 := [(0, .int i), (1, .int 0), (2, .int 0)]) (S1 := [.int 0, .int i]) 2 0 (fun n => rfl) ?_
            refine RP_cond (decide (i < 0)) (fun n => rfl) (fun h => absurd (of_decide_eq_true h) (xi_nlt (x := i) (y := 0) (show 0 ≤ i.toInt by omega))) (fun _ => ?_)
            show RP 55 _ 5 [(0, .int i), (1, .int 0), (2, .int 0)] [] _
            refine RP_step (pc1 := 7) (L1 := [(0, .int i), (1, .int 0), (2, .int 0)]) (S1 := [.int 0, .int i]) 2 0 (fun n => rfl) ?_
            refine RP_cond (decide (0 < i)) (fun n => rfl) (fun _ => ?_) (fun h => absurd (xi_lt (x := 0) (y := i) (show 0 < i.toInt by omega)) (of_decide_eq_false h))
            show RP 55 _ 14 [(0, .int i), (1, .int 0), (2, .int 0)] [] _
            refine RP_done 4 (fun n => rfl) ?_
            refine Or.inr ⟨0, rfl, ?_⟩
            show RP 82 _ 18 [(0, .ref 0), (1, .int 1), (2, .int i), (3, .int c)] [.int 0] _
            refine RP_done 5 (fun n => rfl) ?_
            exact ⟨rfl, _, rfl⟩
          · have h27 := of_decide_eq_false hh
            have h28 : i.toInt ≤ 0 := xj_nlt h27
            show RP 11 _ 24 [(0, .ref 0), (1, .int 1), (2, .int i), (3, .int c)] [] _
            refine RP_step (pc1 := 25) (L1 := [(0, .ref 0), (1, .int 1), (2, .int i), (3, .int c)]) (S1 := [.int c]) 1 0 (fun n => rfl) ?_
            refine RP_call 23 [.int c] (fun n => rfl) ?_
            show RP 23 _ 0 [(0, .int c)] [] _
            refine RP_step (pc1 := 1) (L1 := [(0, .int c)]) (S1 := [.int c]) 1 0 (fun n => rfl) ?_
            refine RP_cond (decide (c < 0)) (fun n => rfl) (fun hh => ?_) (fun hh => ?_)
            · have h29 := of_decide_eq_true hh
              have h30 : c.toInt < 0 := xj_lt h29
              show RP 23 _ 14 [(0, .int c)] [] _
              refine RP_done 4 (fun n => rfl) ?_
              refine Or.inr ⟨0, rfl, ?_⟩
              show RP 11 _ 28 [(0, .ref 0), (1, .int 1), (2, .int i), (3, .int c)] [.int 0] _
              refine RP_done 5 (fun n => rfl) ?_
              show RP 82 _ 0 [(0, .ref 0), (1, .int 1), (2, .int i), (3, .int c)] [] _
              refine RP_step (pc1 := 1) (L1 := [(0, .ref 0), (1, .int 1), (2, .int i), (3, .int c)]) (S1 := [.int 1]) 1 0 (fun n => rfl) ?_
              refine RP_call 56 [.int 1] (fun n => rfl) ?_
              show RP 56 _ 0 [(0, .int 1)] [] _
              refine RP_done 15 (fun n => rfl) ?_
              refine Or.inr ⟨1, rfl, ?_⟩
              show RP 82 _ 4 [(0, .ref 0), (1, .int 1), (2, .int i), (3, .int c)] [.int 1] _
              refine RP_step (pc1 := 15) (L1 := [(0, .ref 0), (1, .int 1), (2, .int i), (3, .int c)]) (S1 := [.int 0, .int 0, .int i]) 7 0 (fun n => rfl) ?_
              refine RP_call 55 [.int i, .int 0, .int 0] (fun n => rfl) ?_
              show RP 55 _ 0 [(0, .int i), (1, .int 0), (2, .int 0)] [] _
              refine RP_step (pc1 := 2) (L1 := [(0, .int i), (1, .int 0), (2, .int 0)]) (S1 := [.int 0, .int i]) 2 0 (fun n => rfl) ?_
              refine RP_cond (decide (i < 0)) (fun n => rfl) (fun h => absurd (of_decide_eq_true h) (xi_nlt (x := i) (y := 0) (show 0 ≤ i.toInt by omega))) (fun _ => ?_)
              show RP 55 _ 5 [(0, .int i), (1, .int 0), (2, .int 0)] [] _
              refine RP_step (pc1 := 7) (L1 := [(0, .int i), (1, .int 0), (2, .int 0)]) (S1 := [.int 0, .int i]) 2 0 (fun n => rfl) ?_
              refine RP_cond (decide (0 < i)) (fun n => rfl) (fun h => absurd (of_decide_eq_true h) (xi_nlt (x := 0) (y := i) (show i.toInt ≤ 0 by omega))) (fun _ => ?_)
              show RP 55 _ 10 [(0, .int i), (1, .int 0), (2, .int 0)] [] _
              refine RP_done 5 (fun n => rfl) ?_
              refine Or.inr ⟨1, rfl, ?_⟩
              show RP 82 _ 18 [(0, .ref 0), (1, .int 1), (2, .int i), (3, .int c)] [.int 1] _
              refine RP_step (pc1 := 22) (L1 := [(0, .ref 0), (1, .int 1), (2, .int i), (3, .int c)]) (S1 := [.int c]) 2 0 (fun n => rfl) ?_
              refine RP_call 57 [.int c] (fun n => rfl) ?_
              show RP 57 _ 0 [(0, .int c)] [] _
              refine RP_step (pc1 := 4) (L1 := [(0, .int c)]) (S1 := [.int 15, .int 0, .int c]) 3 0 (fun n => rfl) ?_
              refine RP_call 55 [.int c, .int 0, .int 15] (fun n => rfl) ?_
              show RP 55 _ 0 [(0, .int c), (1, .int 0), (2, .int 15)] [] _
              refine RP_step (pc1 := 2) (L1 := [(0, .int c), (1, .int 0), (2, .int 15)]) (S1 := [.int 0, .int c]) 2 0 (fun n => rfl) ?_
              refine RP_cond (decide (c < 0)) (fun n => rfl) (fun _ => ?_) (fun h => absurd (xi_lt (x := c) (y := 0) (show c.toInt < 0 by omega)) (of_decide_eq_false h))
              show RP 55 _ 14 [(0, .int c), (1, .int 0), (2, .int 15)] [] _
              refine RP_done 4 (fun n => rfl) ?_
              refine Or.inr ⟨0, rfl, ?_⟩
              show RP 57 _ 7 [(0, .int c)] [.int 0] _
              refine RP_done 3 (fun n => rfl) ?_
              refine Or.inr ⟨0, rfl, ?_⟩
              show RP 82 _ 25 [(0, .ref 0), (1, .int 1), (2, .int i), (3, .int c)] [.int 0] _
              refine RP_done 5 (fun n => rfl) ?_
              exact ⟨rfl, _, rfl⟩
            · have h31 := of_decide_eq_false hh
              have h32 : 0 ≤ c.toInt := xj_nlt h31
              show RP 23 _ 4 [(0, .int c)] [] _
              refine RP_step (pc1 := 7) (L1 := [(0, .int c)]) (S1 := [.int 16, .int c]) 2 0 (fun n => rfl) ?_
              refine RP_cond (decide (16 ≤ c)) (fun n => rfl) (fun hh => ?_) (fun hh => ?_)
              · have h33 := of_decide_eq_true hh
                have h34 : 16 ≤ c.toInt := xj_le h33
                show RP 23 _ 14 [(0, .int c)] [] _
                refine RP_done 4 (fun n => rfl) ?_
                refine Or.inr ⟨0, rfl, ?_⟩
                show RP 11 _ 28 [(0, .ref 0), (1, .int 1), (2, .int i), (3, .int c)] [.int 0] _
                refine RP_done 5 (fun n => rfl) ?_
                show RP 82 _ 0 [(0, .ref 0), (1, .int 1), (2, .int i), (3, .int c)] [] _
                refine RP_step (pc1 := 1) (L1 := [(0, .ref 0), (1, .int 1), (2, .int i), (3, .int c)]) (S1 := [.int 1]) 1 0 (fun n => rfl) ?_
                refine RP_call 56 [.int 1] (fun n => rfl) ?_
                show RP 56 _ 0 [(0, .int 1)] [] _
                refine RP_done 15 (fun n => rfl) ?_
                refine Or.inr ⟨1, rfl, ?_⟩
                show RP 82 _ 4 [(0, .ref 0), (1, .int 1), (2, .int i), (3, .int c)] [.int 1] _
                refine RP_step (pc1 := 15) (L1 := [(0, .ref 0), (1, .int 1), (2, .int i), (3, .int c)]) (S1 := [.int 0, .int 0, .int i]) 7 0 (fun n => rfl) ?_
                refine RP_call 55 [.int i, .int 0, .int 0] (fun n => rfl) ?_
                show RP 55 _ 0 [(0, .int i), (1, .int 0), (2, .int 0)] [] _
                refine RP_step (pc1 := 2) (L1 := [(0, .int i), (1, .int 0), (2, .int 0)]) (S1 := [.int 0, .int i]) 2 0 (fun n => rfl) ?_
                refine RP_cond (decide (i < 0)) (fun n => rfl) (fun h => absurd (of_decide_eq_true h) (xi_nlt (x := i) (y := 0) (show 0 ≤ i.toInt by omega))) (fun _ => ?_)
                show RP 55 _ 5 [(0, .int i), (1, .int 0), (2, .int 0)] [] _
                refine RP_step (pc1 := 7) (L1 := [(0, .int i), (1, .int 0), (2, .int 0)]) (S1 := [.int 0, .int i]) 2 0 (fun n => rfl) ?_
                refine RP_cond (decide (0 < i)) (fun n => rfl) (fun h => absurd (of_decide_eq_true h) (xi_nlt (x := 0) (y := i) (show i.toInt ≤ 0 by omega))) (fun _ => ?_)
                show RP 55 _ 10 [(0, .int i), (1, .int 0), (2, .int 0)] [] _
                refine RP_done 5 (fun n => rfl) ?_
                refine Or.inr ⟨1, rfl, ?_⟩
                show RP 82 _ 18 [(0, .ref 0), (1, .int 1), (2, .int i), (3, .int c)] [.int 1] _
                refine RP_step (pc1 := 22) (L1 := [(0, .ref 0), (1, .int 1), (2, .int i), (3, .int c)]) (S1 := [.int c]) 2 0 (fun n => rfl) ?_
                refine RP_call 57 [.int c] (fun n => rfl) ?_
                show RP 57 _ 0 [(0, .int c)] [] _
                refine RP_step (pc1 := 4) (L1 := [(0, .int c)]) (S1 := [.int 15, .int 0, .int c]) 3 0 (fun n => rfl) ?_
                refine RP_call 55 [.int c, .int 0, .int 15] (fun n => rfl) ?_
                show RP 55 _ 0 [(0, .int c), (1, .int 0), (2, .int 15)] [] _
                refine RP_step (pc1 := 2) (L1 := [(0, .int c), (1, .int 0), (2, .int 15)]) (S1 := [.int 0, .int c]) 2 0 (fun n => rfl) ?_
                refine RP_cond (decide (c < 0)) (fun n => rfl) (fun h => absurd (of_decide_eq_true h) (xi_nlt (x := c) (y := 0) (show 0 ≤ c.toInt by omega))) (fun _ => ?_)
                show RP 55 _ 5 [(0, .int c), (1, .int 0), (2, .int 15)] [] _
                refine RP_step (pc1 := 7) (L1 := [(0, .int c), (1, .int 0), (2, .int 15)]) (S1 := [.int 15, .int c]) 2 0 (fun n => rfl) ?_
                refine RP_cond (decide (15 < c)) (fun n => rfl) (fun _ => ?_) (fun h => absurd (xi_lt (x := 15) (y := c) (show 15 < c.toInt by omega)) (of_decide_eq_false h))
                show RP 55 _ 14 [(0, .int c), (1, .int 0), (2, .int 15)] [] _
                refine RP_done 4 (fun n => rfl) ?_
                refine Or.inr ⟨0, rfl, ?_⟩
                show RP 57 _ 7 [(0, .int c)] [.int 0] _
                refine RP_done 3 (fun n => rfl) ?_
                refine Or.inr ⟨0, rfl, ?_⟩
                show RP 82 _ 25 [(0, .ref 0), (1, .int 1), (2, .int i), (3, .int c)] [.int 0] _
                refine RP_done 5 (fun n => rfl) ?_
                exact ⟨rfl, _, rfl⟩
              · have h35 := of_decide_eq_false hh
                have h36 : c.toInt < 16 := xj_nle h35
                show RP 23 _ 10 [(0, .int c)] [] _
                refine RP_done 5 (fun n => rfl) ?_
                refine Or.inr ⟨1, rfl, ?_⟩
                show RP 11 _ 28 [(0, .ref 0), (1, .int 1), (2, .int i), (3, .int c)] [.int 1] _
                exact absurd ⟨by decide, by decide, by omega, by omega, by omega, by omega⟩ hout
        · obtain rfl : f = 2 := xi_eq e9
          show RP 11 _ 20 [(0, .ref 0), (1, .int 2), (2, .int i), (3, .int c)] [.int 2, .ref 2, .int i] _
          refine RP_step (pc1 := 21) (L1 := [(0, .ref 0), (1, .int 2), (2, .int i), (3, .int c)]) (S1 := [.int 0, .int i]) 1 0 (fun n => rfl) ?_
          refine RP_cond (decide (0 < i)) (fun n => rfl) (fun hh => ?_) (fun hh => ?_)
          · have h37 := of_decide_eq_true hh
            have h38 : 0 < i.toInt := xj_lt h37
            show RP 11 _ 31 [(0, .ref 0), (1, .int 2), (2, .int i), (3, .int c)] [] _
            refine RP_done 4 (fun n => rfl) ?_
            show RP 82 _ 0 [(0, .ref 0), (1, .int 2), (2, .int i), (3, .int c)] [] _
            refine RP_step (pc1 := 1) (L1 := [(0, .ref 0), (1, .int 2), (2, .int i), (3, .int c)]) (S1 := [.int 2]) 1 0 (fun n => rfl) ?_
            refine RP_call 56 [.int 2] (fun n => rfl) ?_
            show RP 56 _ 0 [(0, .int 2)] [] _
            refine RP_done 15 (fun n => rfl) ?_
            refine Or.inr ⟨1, rfl, ?_⟩
            show RP 82 _ 4 [(0, .ref 0), (1, .int 2), (2, .int i), (3, .int c)] [.int 1] _
            refine RP_step (pc1 := 15) (L1 := [(0, .ref 0), (1, .int 2), (2, .int i), (3, .int c)]) (S1 := [.int 0, .int 0, .int i]) 7 0 (fun n => rfl) ?_
            refine RP_call 55 [.int i, .int 0, .int 0] (fun n => rfl) ?_
            show RP 55 _ 0 [(0, .int i), (1, .int 0), (2, .int 0)] [] _
            refine RP_step (pc1 := 2) (L1 := [(0, .int i), (1, .int 0), (2, .int 0)]) (S1 := [.int 0, .int i]) 2 0 (fun n => rfl) ?_
            refine RP_cond (decide (i < 0)) (fun n => rfl) (fun h => absurd (of_decide_eq_true h) (xi_nlt (x := i) (y := 0) (show 0 ≤ i.toInt by omega))) (fun _ => ?_)
            show RP 55 _ 5 [(0, .int i), (1, .int 0), (2, .int 0)] [] _
            refine RP_step (pc1 := 7) (L1 := [(0, .int i), (1, .int 0), (2, .int 0)]) (S1 := [.int 0, .int i]) 2 0 (fun n => rfl) ?_
            refine RP_cond (decide (0 < i)) (fun n => rfl) (fun _ => ?_) (fun h => absurd (xi_lt (x := 0) (y := i) (show 0 < i.toInt by omega)) (of_decide_eq_false h))
            show RP 55 _ 14 [(0, .int i), (1, .int 0), (2, .int 0)] [] _
            refine RP_done 4 (fun n => rfl) ?_
            refine Or.inr ⟨0, rfl, ?_⟩
            show RP 82 _ 18 [(0, .ref 0), (1, .int 2), (2, .int i), (3, .int c)] [.int 0] _
            refine RP_done 5 (fun n => rfl) ?_
            exact ⟨rfl, _, rfl⟩
          · have h39 := of_decide_eq_false hh
            have h40 : i.toInt ≤ 0 := xj_nlt h39
            show RP 11 _ 24 [(0, .ref 0), (1, .int 2), (2, .int i), (3, .int c)] [] _
            refine RP_step (pc1 := 25) (L1 := [(0, .ref 0), (1, .int 2), (2, .int i), (3, .int c)]) (S1 := [.int c]) 1 0 (fun n => rfl) ?_
            refine RP_call 23 [.int c] (fun n => rfl) ?_
            show RP 23 _ 0 [(0, .int c)] [] _
            refine RP_step (pc1 := 1) (L1 := [(0, .int c)]) (S1 := [.int c]) 1 0 (fun n => rfl) ?_
            refine RP_cond (decide (c < 0)) (fun n => rfl) (fun hh => ?_) (fun hh => ?_)
            · have h41 := of_decide_eq_true hh
              have h42 : c.toInt < 0 := xj_lt h41
              show RP 23 _ 14 [(0, .int c)] [] _
              refine RP_done 4 (fun n => rfl) ?_
              refine Or.inr ⟨0, rfl, ?_⟩
              show RP 11 _ 28 [(0, .ref 0), (1, .int 2), (2, .int i), (3, .int c)] [.int 0] _
              refine RP_done 5 (fun n => rfl) ?_
              show RP 82 _ 0 [(0, .ref 0), (1, .int 2), (2, .int i), (3, .int c)] [] _
              refine RP_step (pc1 := 1) (L1 := [(0, .ref 0), (1, .int 2), (2, .int i), (3, .int c)]) (S1 := [.int 2]) 1 0 (fun n => rfl) ?_
              refine RP_call 56 [.int 2] (fun n => rfl) ?_
              show RP 56 _ 0 [(0, .int 2)] [] _
              refine RP_done 15 (fun n => rfl) ?_
              refine Or.inr ⟨1, rfl, ?_⟩
              show RP 82 _ 4 [(0, .ref 0), (1, .int 2), (2, .int i), (3, .int c)] [.int 1] _
              refine RP_step (pc1 := 15) (L1 := [(0, .ref 0), (1, .int 2), (2, .int i), (3, .int c)]) (S1 := [.int 0, .int 0, .int i]) 7 0 (fun n => rfl) ?_
              refine RP_call 55 [.int i, .int 0, .int 0] (fun n => rfl) ?_
              show RP 55 _ 0 [(0, .int i), (1, .int 0), (2, .int 0)] [] _
              refine RP_step (pc1 := 2) (L1 := [(0, .int i), (1, .int 0), (2, .int 0)]) (S1 := [.int 0, .int i]) 2 0 (fun n => rfl) ?_
              refine RP_cond (decide (i < 0)) (fun n => rfl) (fun h => absurd (of_decide_eq_true h) (xi_nlt (x := i) (y := 0) (show 0 ≤ i.toInt by omega))) (fun _ => ?_)
              show RP 55 _ 5 [(0, .int i), (1, .int 0), (2, .int 0)] [] _
              refine RP_step (pc1 := 7) (L1 := [(0, .int i), (1, .int 0), (2, .int 0)]) (S1 := [.int 0, .int i]) 2 0 (fun n => rfl) ?_
              refine RP_cond (decide (0 < i)) (fun n => rfl) (fun h => absurd (of_decide_eq_true h) (xi_nlt (x := 0) (y := i) (show i.toInt ≤ 0 by omega))) (fun _ => ?_)
              show RP 55 _ 10 [(0, .int i), (1, .int 0), (2, .int 0)] [] _
              refine RP_done 5 (fun n => rfl) ?_
              refine Or.inr ⟨1, rfl, ?_⟩
              show RP 82 _ 18 [(0, .ref 0), (1, .int 2), (2, .int i), (3, .int c)] [.int 1] _
              refine RP_step (pc1 := 22) (L1 := [(0, .ref 0), (1, .int 2), (2, .int i), (3, .int c)]) (S1 := [.int c]) 2 0 (fun n => rfl) ?_
              refine RP_call 57 [.int c] (fun n => rfl) ?_
              show RP 57 _ 0 [(0, .int c)] [] _
              refine RP_step (pc1 := 4) (L1 := [(0, .int c)]) (S1 := [.int 15, .int 0, .int c]) 3 0 (fun n => rfl) ?_
              refine RP_call 55 [.int c, .int 0, .int 15] (fun n => rfl) ?_
              show RP 55 _ 0 [(0, .int c), (1, .int 0), (2, .int 15)] [] _
              refine RP_step (pc1 := 2) (L1 := [(0, .int c), (1, .int 0), (2, .int 15)]) (S1 := [.int 0, .int c]) 2 0 (fun n => rfl) ?_
              refine RP_cond (decide (c < 0)) (fun n => rfl) (fun _ => ?_) (fun h => absurd (xi_lt (x := c) (y := 0) (show c.toInt < 0 by omega)) (of_decide_eq_false h))
              show RP 55 _ 14 [(0, .int c), (1, .int 0), (2, .int 15)] [] _
              refine RP_done 4 (fun n => rfl) ?_
              refine Or.inr ⟨0, rfl, ?_⟩
              show RP 57 _ 7 [(0, .int c)] [.int 0] _
              refine RP_done 3 (fun n => rfl) ?_
              refine Or.inr ⟨0, rfl, ?_⟩
              show RP 82 _ 25 [(0, .ref 0), (1, .int 2), (2, .int i), (3, .int c)] [.int 0] _
              refine RP_done 5 (fun n => rfl) ?_
              exact ⟨rfl, _, rfl⟩
            · have h43 := of_decide_eq_false hh
              have h44 : 0 ≤ c.toInt := xj_nlt h43
              show RP 23 _ 4 [(0, .int c)] [] _
              refine RP_step (pc1 := 7) (L1 := [(0, .int c)]) (S1 := [.int 16, .int c]) 2 0 (fun n => rfl) ?_
              refine RP_cond (decide (16 ≤ c)) (fun n => rfl) (fun hh => ?_) (fun hh => ?_)
              · have h45 := of_decide_eq_true hh
                have h46 : 16 ≤ c.toInt := xj_le h45
                show RP 23 _ 14 [(0, .int c)] [] _
                refine RP_done 4 (fun n => rfl) ?_
                refine Or.inr ⟨0, rfl, ?_⟩
                show RP 11 _ 28 [(0, .ref 0), (1, .int 2), (2, .int i), (3, .int c)] [.int 0] _
                refine RP_done 5 (fun n => rfl) ?_
                show RP 82 _ 0 [(0, .ref 0), (1, .int 2), (2, .int i), (3, .int c)] [] _
                refine RP_step (pc1 := 1) (L1 := [(0, .ref 0), (1, .int 2), (2, .int i), (3, .int c)]) (S1 := [.int 2]) 1 0 (fun n => rfl) ?_
                refine RP_call 56 [.int 2] (fun n => rfl) ?_
                show RP 56 _ 0 [(0, .int 2)] [] _
                refine RP_done 15 (fun n => rfl) ?_
                refine Or.inr ⟨1, rfl, ?_⟩
                show RP 82 _ 4 [(0, .ref 0), (1, .int 2), (2, .int i), (3, .int c)] [.int 1] _
                refine RP_step (pc1 := 15) (L1 := [(0, .ref 0), (1, .int 2), (2, .int i), (3, .int c)]) (S1 := [.int 0, .int 0, .int i]) 7 0 (fun n => rfl) ?_
                refine RP_call 55 [.int i, .int 0, .int 0] (fun n => rfl) ?_
                show RP 55 _ 0 [(0, .int i), (1, .int 0), (2, .int 0)] [] _
                refine RP_step (pc1 := 2) (L1 := [(0, .int i), (1, .int 0), (2, .int 0)]) (S1 := [.int 0, .int i]) 2 0 (fun n => rfl) ?_
                refine RP_cond (decide (i < 0)) (fun n => rfl) (fun h => absurd (of_decide_eq_true h) (xi_nlt (x := i) (y := 0) (show 0 ≤ i.toInt by omega))) (fun _ => ?_)
                show RP 55 _ 5 [(0, .int i), (1, .int 0), (2, .int 0)] [] _
                refine RP_step (pc1 := 7) (L1 := [(0, .int i), (1, .int 0), (2, .int 0)]) (S1 := [.int 0, .int i]) 2 0 (fun n => rfl) ?_
                refine RP_cond (decide (0 < i)) (fun n => rfl) (fun h => absurd (of_decide_eq_true h) (xi_nlt (x := 0) (y := i) (show i.toInt ≤ 0 by omega))) (fun _ => ?_)
                show RP 55 _ 10 [(0, .int i), (1, .int 0), (2, .int 0)] [] _
                refine RP_done 5 (fun n => rfl) ?_
                refine Or.inr ⟨1, rfl, ?_⟩
                show RP 82 _ 18 [(0, .ref 0), (1, .int 2), (2, .int i), (3, .int c)] [.int 1] _
                refine RP_step (pc1 := 22) (L1 := [(0, .ref 0), (1, .int 2), (2, .int i), (3, .int c)]) (S1 := [.int c]) 2 0 (fun n => rfl) ?_
                refine RP_call 57 [.int c] (fun n => rfl) ?_
                show RP 57 _ 0 [(0, .int c)] [] _
                refine RP_step (pc1 := 4) (L1 := [(0, .int c)]) (S1 := [.int 15, .int 0, .int c]) 3 0 (fun n => rfl) ?_
                refine RP_call 55 [.int c, .int 0, .int 15] (fun n => rfl) ?_
                show RP 55 _ 0 [(0, .int c), (1, .int 0), (2, .int 15)] [] _
                refine RP_step (pc1 := 2) (L1 := [(0, .int c), (1, .int 0), (2, .int 15)]) (S1 := [.int 0, .int c]) 2 0 (fun n => rfl) ?_
                refine RP_cond (decide (c < 0)) (fun n => rfl) (fun h => absurd (of_decide_eq_true h) (xi_nlt (x := c) (y := 0) (show 0 ≤ c.toInt by omega))) (fun _ => ?_)
                show RP 55 _ 5 [(0, .int c), (1, .int 0), (2, .int 15)] [] _
                refine RP_step (pc1 := 7) (L1 := [(0, .int c), (1, .int 0), (2, .int 15)]) (S1 := [.int 15, .int c]) 2 0 (fun n => rfl) ?_
                refine RP_cond (decide (15 < c)) (fun n => rfl) (fun _ => ?_) (fun h => absurd (xi_lt (x := 15) (y := c) (show 15 < c.toInt by omega)) (of_decide_eq_false h))
                show RP 55 _ 14 [(0, .int c), (1, .int 0), (2, .int 15)] [] _
                refine RP_done 4 (fun n => rfl) ?_
                refine Or.inr ⟨0, rfl, ?_⟩
                show RP 57 _ 7 [(0, .int c)] [.int 0] _
                refine RP_done 3 (fun n => rfl) ?_
                refine Or.inr ⟨0, rfl, ?_⟩
                show RP 82 _ 25 [(0, .ref 0), (1, .int 2), (2, .int i), (3, .int c)] [.int 0] _
                refine RP_done 5 (fun n => rfl) ?_
                exact ⟨rfl, _, rfl⟩
              · have h47 := of_decide_eq_false hh
                have h48 : c.toInt < 16 := xj_nle h47
                show RP 23 _ 10 [(0, .int c)] [] _
                refine RP_done 5 (fun n => rfl) ?_
                refine Or.inr ⟨1, rfl, ?_⟩
                show RP 11 _ 28 [(0, .ref 0), (1, .int 2), (2, .int i), (3, .int c)] [.int 1] _
                exact absurd ⟨by decide, by decide, by omega, by omega, by omega, by omega⟩ hout
        · obtain rfl : f = 3 := xi_eq e9
          show RP 11 _ 20 [(0, .ref 0), (1, .int 3), (2, .int i), (3, .int c)] [.int 3, .ref 2, .int i] _
          refine RP_step (pc1 := 21) (L1 := [(0, .ref 0), (1, .int 3), (2, .int i), (3, .int c)]) (S1 := [.int 0, .int i]) 1 0 (fun n => rfl) ?_
          refine RP_cond (decide (0 < i)) (fun n => rfl) (fun hh => ?_) (fun hh => ?_)
          · have h49 := of_decide_eq_true hh
            have h50 : 0 < i.toInt := xj_lt h49
            show RP 11 _ 31 [(0, .ref 0), (1, .int 3), (2, .int i), (3, .int c)] [] _
            refine RP_done 4 (fun n => rfl) ?_
            show RP 82 _ 0 [(0, .ref 0), (1, .int 3), (2, .int i), (3, .int c)] [] _
            refine RP_step (pc1 := 1) (L1 := [(0, .ref 0), (1, .int 3), (2, .int i), (3, .int c)]) (S1 := [.int 3]) 1 0 (fun n => rfl) ?_
            refine RP_call 56 [.int 3] (fun n => rfl) ?_
            show RP 56 _ 0 [(0, .int 3)] [] _
            refine RP_done 15 (fun n => rfl) ?_
            refine Or.inr ⟨1, rfl, ?_⟩
            show RP 82 _ 4 [(0, .ref 0), (1, .int 3), (2, .int i), (3, .int c)] [.int 1] _
            refine RP_step (pc1 := 15) (L1 := [(0, .ref 0), (1, .int 3), (2, .int i), (3, .int c)]) (S1 := [.int 0, .int 0, .int i]) 7 0 (fun n => rfl) ?_
            refine RP_call 55 [.int i, .int 0, .int 0] (fun n => rfl) ?_
            show RP 55 _ 0 [(0, .int i), (1, .int 0), (2, .int 0)] [] _
            refine RP_step (pc1 := 2) (L1 := [(0, .int i), (1, .int 0), (2, .int 0)]) (S1 := [.int 0, .int i]) 2 0 (fun n => rfl) ?_
            refine RP_cond (decide (i < 0)) (fun n => rfl) (fun h => absurd (of_decide_eq_true h) (xi_nlt (x := i) (y := 0) (show 0 ≤ i.toInt by omega))) (fun _ => ?_)
            show RP 55 _ 5 [(0, .int i), (1, .int 0), (2, .int 0)] [] _
            refine RP_step (pc1 := 7) (L1 := [(0, .int i), (1, .int 0), (2, .int 0)]) (S1 := [.int 0, .int i]) 2 0 (fun n => rfl) ?_
            refine RP_cond (decide (0 < i)) (fun n => rfl) (fun _ => ?_) (fun h => absurd (xi_lt (x := 0) (y := i) (show 0 < i.toInt by omega)) (of_decide_eq_false h))
            show RP 55 _ 14 [(0, .int i), (1, .int 0), (2, .int 0)] [] _
            refine RP_done 4 (fun n => rfl) ?_
            refine Or.inr ⟨0, rfl, ?_⟩
            show RP 82 _ 18 [(0, .ref 0), (1, .int 3), (2, .int i), (3, .int c)] [.int 0] _
            refine RP_done 5 (fun n => rfl) ?_
            exact ⟨rfl, _, rfl⟩
          · have h51 := of_decide_eq_false hh
            have h52 : i.toInt ≤ 0 := xj_nlt h51
            show RP 11 _ 24 [(0, .ref 0), (1, .int 3), (2, .int i), (3, .int c)] [] _
            refine RP_step (pc1 := 25) (L1 := [(0, .ref 0), (1, .int 3), (2, .int i), (3, .int c)]) (S1 := [.int c]) 1 0 (fun n => rfl) ?_
            refine RP_call 23 [.int c] (fun n => rfl) ?_
            show RP 23 _ 0 [(0, .int c)] [] _
            refine RP_step (pc1 := 1) (L1 := [(0, .int c)]) (S1 := [.int c]) 1 0 (fun n => rfl) ?_
            refine RP_cond (decide (c < 0)) (fun n => rfl) (fun hh => ?_) (fun hh => ?_)
            · have h53 := of_decide_eq_true hh
              have h54 : c.toInt < 0 := xj_lt h53
              show RP 23 _ 14 [(0, .int c)] [] _
              refine RP_done 4 (fun n => rfl) ?_
              refine Or.inr ⟨0, rfl, ?_⟩
              show RP 11 _ 28 [(0, .ref 0), (1, .int 3), (2, .int i), (3, .int c)] [.int 0] _
              refine RP_done 5 (fun n => rfl) ?_
              show RP 82 _ 0 [(0, .ref 0), (1, .int 3), (2, .int i), (3, .int c)] [] _
              refine RP_step (pc1 := 1) (L1 := [(0, .ref 0), (1, .int 3), (2, .int i), (3, .int c)]) (S1 := [.int 3]) 1 0 (fun n => rfl) ?_
              refine RP_call 56 [.int 3] (fun n => rfl) ?_
              show RP 56 _ 0 [(0, .int 3)] [] _
              refine RP_done 15 (fun n => rfl) ?_
              refine Or.inr ⟨1, rfl, ?_⟩
              show RP 82 _ 4 [(0, .ref 0), (1, .int 3), (2, .int i), (3, .int c)] [.int 1] _
              refine RP_step (pc1 := 15) (L1 := [(0, .ref 0), (1, .int 3), (2, .int i), (3, .int c)]) (S1 := [.int 0, .int 0, .int i]) 7 0 (fun n => rfl) ?_
              refine RP_call 55 [.int i, .int 0, .int 0] (fun n => rfl) ?_
              show RP 55 _ 0 [(0, .int i), (1, .int 0), (2, .int 0)] [] _
              refine RP_step (pc1 := 2) (L1 := [(0, .int i), (1, .int 0), (2, .int 0)]) (S1 := [.int 0, .int i]) 2 0 (fun n => rfl) ?_
              refine RP_cond (decide (i < 0)) (fun n => rfl) (fun h => absurd (of_decide_eq_true h) (xi_nlt (x := i) (y := 0) (show 0 ≤ i.toInt by omega))) (fun _ => ?_)
              show RP 55 _ 5 [(0, .int i), (1, .int 0), (2, .int 0)] [] _
              refine RP_step (pc1 := 7) (L1 := [(0, .int i), (1, .int 0), (2, .int 0)]) (S1 := [.int 0, .int i]) 2 0 (fun n => rfl) ?_
              refine RP_cond (decide (0 < i)) (fun n => rfl) (fun h => absurd (of_decide_eq_true h) (xi_nlt (x := 0) (y := i) (show i.toInt ≤ 0 by omega))) (fun _ => ?_)
              show RP 55 _ 10 [(0, .int i), (1, .int 0), (2, .int 0)] [] _
              refine RP_done 5 (fun n => rfl) ?_
              refine Or.inr ⟨1, rfl, ?_⟩
              show RP 82 _ 18 [(0, .ref 0), (1, .int 3), (2, .int i), (3, .int c)] [.int 1] _
              refine RP_step (pc1 := 22) (L1 := [(0, .ref 0), (1, .int 3), (2, .int i), (3, .int c)]) (S1 := [.int c]) 2 0 (fun n => rfl) ?_
              refine RP_call 57 [.int c] (fun n => rfl) ?_
              show RP 57 _ 0 [(0, .int c)] [] _
              refine RP_step (pc1 := 4) (L1 := [(0, .int c)]) (S1 := [.int 15, .int 0, .int c]) 3 0 (fun n => rfl) ?_
              refine RP_call 55 [.int c, .int 0, .int 15] (fun n => rfl) ?_
              show RP 55 _ 0 [(0, .int c), (1, .int 0), (2, .int 15)] [] _
              refine RP_step (pc1 := 2) (L1 := [(0, .int c), (1, .int 0), (2, .int 15)]) (S1 := [.int 0, .int c]) 2 0 (fun n => rfl) ?_
              refine RP_cond (decide (c < 0)) (fun n => rfl) (fun _ => ?_) (fun h => absurd (xi_lt (x := c) (y := 0) (show c.toInt < 0 by omega)) (of_decide_eq_false h))
              show RP 55 _ 14 [(0, .int c), (1, .int 0), (2, .int 15)] [] _
              refine RP_done 4 (fun n => rfl) ?_
              refine Or.inr ⟨0, rfl, ?_⟩
              show RP 57 _ 7 [(0, .int c)] [.int 0] _
              refine RP_done 3 (fun n => rfl) ?_
              refine Or.inr ⟨0, rfl, ?_⟩
              show RP 82 _ 25 [(0, .ref 0), (1, .int 3), (2, .int i), (3, .int c)] [.int 0] _
              refine RP_done 5 (fun n => rfl) ?_
              exact ⟨rfl, _, rfl⟩
            · have h55 := of_decide_eq_false hh
              have h56 : 0 ≤ c.toInt := xj_nlt h55
              show RP 23 _ 4 [(0, .int c)] [] _
              refine RP_step (pc1 := 7) (L1 := [(0, .int c)]) (S1 := [.int 16, .int c]) 2 0 (fun n => rfl) ?_
              refine RP_cond (decide (16 ≤ c)) (fun n => rfl) (fun hh => ?_) (fun hh => ?_)
              · have h57 := of_decide_eq_true hh
                have h58 : 16 ≤ c.toInt := xj_le h57
                show RP 23 _ 14 [(0, .int c)] [] _
                refine RP_done 4 (fun n => rfl) ?_
                refine Or.inr ⟨0, rfl, ?_⟩
                show RP 11 _ 28 [(0, .ref 0), (1, .int 3), (2, .int i), (3, .int c)] [.int 0] _
                refine RP_done 5 (fun n => rfl) ?_
                show RP 82 _ 0 [(0, .ref 0), (1, .int 3), (2, .int i), (3, .int c)] [] _
                refine RP_step (pc1 := 1) (L1 := [(0, .ref 0), (1, .int 3), (2, .int i), (3, .int c)]) (S1 := [.int 3]) 1 0 (fun n => rfl) ?_
                refine RP_call 56 [.int 3] (fun n => rfl) ?_
                show RP 56 _ 0 [(0, .int 3)] [] _
                refine RP_done 15 (fun n => rfl) ?_
                refine Or.inr ⟨1, rfl, ?_⟩
                show RP 82 _ 4 [(0, .ref 0), (1, .int 3), (2, .int i), (3, .int c)] [.int 1] _
                refine RP_step (pc1 := 15) (L1 := [(0, .ref 0), (1, .int 3), (2, .int i), (3, .int c)]) (S1 := [.int 0, .int 0, .int i]) 7 0 (fun n => rfl) ?_
                refine RP_call 55 [.int i, .int 0, .int 0] (fun n => rfl) ?_
                show RP 55 _ 0 [(0, .int i), (1, .int 0), (2, .int 0)] [] _
                refine RP_step (pc1 := 2) (L1 := [(0, .int i), (1, .int 0), (2, .int 0)]) (S1 := [.int 0, .int i]) 2 0 (fun n => rfl) ?_
                refine RP_cond (decide (i < 0)) (fun n => rfl) (fun h => absurd (of_decide_eq_true h) (xi_nlt (x := i) (y := 0) (show 0 ≤ i.toInt by omega))) (fun _ => ?_)
                show RP 55 _ 5 [(0, .int i), (1, .int 0), (2, .int 0)] [] _
                refine RP_step (pc1 := 7) (L1 := [(0, .int i), (1, .int 0), (2, .int 0)]) (S1 := [.int 0, .int i]) 2 0 (fun n => rfl) ?_
                refine RP_cond (decide (0 < i)) (fun n => rfl) (fun h => absurd (of_decide_eq_true h) (xi_nlt (x := 0) (y := i) (show i.toInt ≤ 0 by omega))) (fun _ => ?_)
                show RP 55 _ 10 [(0, .int i), (1, .int 0), (2, .int 0)] [] _
                refine RP_done 5 (fun n => rfl) ?_
                refine Or.inr ⟨1, rfl, ?_⟩
                show RP 82 _ 18 [(0, .ref 0), (1, .int 3), (2, .int i), (3, .int c)] [.int 1] _
                refine RP_step (pc1 := 22) (L1 := [(0, .ref 0), (1, .int 3), (2, .int i), (3, .int c)]) (S1 := [.int c]) 2 0 (fun n => rfl) ?_
                refine RP_call 57 [.int c] (fun n => rfl) ?_
                show RP 57 _ 0 [(0, .int c)] [] _
                refine RP_step (pc1 := 4) (L1 := [(0, .int c)]) (S1 := [.int 15, .int 0, .int c]) 3 0 (fun n => rfl) ?_
                refine RP_call 55 [.int c, .int 0, .int 15] (fun n => rfl) ?_
                show RP 55 _ 0 [(0, .int c), (1, .int 0), (2, .int 15)] [] _
                refine RP_step (pc1 := 2) (L1 := [(0, .int c), (1, .int 0), (2, .int 15)]) (S1 := [.int 0, .int c]) 2 0 (fun n => rfl) ?_
                refine RP_cond (decide (c < 0)) (fun n => rfl) (fun h => absurd (of_decide_eq_true h) (xi_nlt (x := c) (y := 0) (show 0 ≤ c.toInt by omega))) (fun _ => ?_)
                show RP 55 _ 5 [(0, .int c), (1, .int 0), (2, .int 15)] [] _
                refine RP_step (pc1 := 7) (L1 := [(0, .int c), (1, .int 0), (2, .int 15)]) (S1 := [.int 15, .int c]) 2 0 (fun n => rfl) ?_
                refine RP_cond (decide (15 < c)) (fun n => rfl) (fun _ => ?_) (fun h => absurd (xi_lt (x := 15) (y := c) (show 15 < c.toInt by omega)) (of_decide_eq_false h))
                show RP 55 _ 14 [(0, .int c), (1, .int 0), (2, .int 15)] [] _
                refine RP_done 4 (fun n => rfl) ?_
                refine Or.inr ⟨0, rfl, ?_⟩
                show RP 57 _ 7 [(0, .int c)] [.int 0] _
                refine RP_done 3 (fun n => rfl) ?_
                refine Or.inr ⟨0, rfl, ?_⟩
                show RP 82 _ 25 [(0, .ref 0), (1, .int 3), (2, .int i), (3, .int c)] [.int 0] _
                refine RP_done 5 (fun n => rfl) ?_
                exact ⟨rfl, _, rfl⟩
              · have h59 := of_decide_eq_false hh
                have h60 : c.toInt < 16 := xj_nle h59
                show RP 23 _ 10 [(0, .int c)] [] _
                refine RP_done 5 (fun n => rfl) ?_
                refine Or.inr ⟨1, rfl, ?_⟩
                show RP 11 _ 28 [(0, .ref 0), (1, .int 3), (2, .int i), (3, .int c)] [.int 1] _
                exact absurd ⟨by decide, by decide, by omega, by omega, by omega, by omega⟩ hout
        · obtain rfl : f = 4 := xi_eq e9
          show RP 11 _ 20 [(0, .ref 0), (1, .int 4), (2, .int i), (3, .int c)] [.int 4, .ref 2, .int i] _
          refine RP_step (pc1 := 21) (L1 := [(0, .ref 0), (1, .int 4), (2, .int i), (3, .int c)]) (S1 := [.int 0, .int i]) 1 0 (fun n => rfl) ?_
          refine RP_cond (decide (0 < i)) (fun n => rfl) (fun hh => ?_) (fun hh => ?_)
          · have h61 := of_decide_eq_true hh
            have h62 : 0 < i.toInt := xj_lt h61
            show RP 11 _ 31 [(0, .ref 0), (1, .int 4), (2, .int i), (3, .int c)] [] _
            refine RP_done 4 (fun n => rfl) ?_
            show RP 82 _ 0 [(0, .ref 0), (1, .int 4), (2, .int i), (3, .int c)] [] _
            refine RP_step (pc1 := 1) (L1 := [(0, .ref 0), (1, .int 4), (2, .int i), (3, .int c)]) (S1 := [.int 4]) 1 0 (fun n => rfl) ?_
            refine RP_call 56 [.int 4] (fun n => rfl) ?_
            show RP 56 _ 0 [(0, .int 4)] [] _
            refine RP_done 15 (fun n => rfl) ?_
            refine Or.inr ⟨1, rfl, ?_⟩
            show RP 82 _ 4 [(0, .ref 0), (1, .int 4), (2, .int i), (3, .int c)] [.int 1] _
            refine RP_step (pc1 := 15) (L1 := [(0, .ref 0), (1, .int 4), (2, .int i), (3, .int c)]) (S1 := [.int 0, .int 0, .int i]) 7 0 (fun n => rfl) ?_
            refine RP_call 55 [.int i, .int 0, .int 0] (fun n => rfl) ?_
            show RP 55 _ 0 [(0, .int i), (1, .int 0), (2, .int 0)] [] _
            refine RP_step (pc1 := 2) (L1 := [(0, .int i), (1, .int 0), (2, .int 0)]) (S1 := [.int 0, .int i]) 2 0 (fun n => rfl) ?_
            refine RP_cond (decide (i < 0)) (fun n => rfl) (fun h => absurd (of_decide_eq_true h) (xi_nlt (x := i) (y := 0) (show 0 ≤ i.toInt by omega))) (fun _ => ?_)
            show RP 55 _ 5 [(0, .int i), (1, .int 0), (2, .int 0)] [] _
            refine RP_step (pc1 := 7) (L1 := [(0, .int i), (1, .int 0), (2, .int 0)]) (S1 := [.int 0, .int i]) 2 0 (fun n => rfl) ?_
            refine RP_cond (decide (0 < i)) (fun n => rfl) (fun _ => ?_) (fun h => absurd (xi_lt (x := 0) (y := i) (show 0 < i.toInt by omega)) (of_decide_eq_false h))
            show RP 55 _ 14 [(0, .int i), (1, .int 0), (2, .int 0)] [] _
            refine RP_done 4 (fun n => rfl) ?_
            refine Or.inr ⟨0, rfl, ?_⟩
            show RP 82 _ 18 [(0, .ref 0), (1, .int 4), (2, .int i), (3, .int c)] [.int 0] _
            refine RP_done 5 (fun n => rfl) ?_
            exact ⟨rfl, _, rfl⟩
          · have h63 := of_decide_eq_false hh
            have h64 : i.toInt ≤ 0 := xj_nlt h63
            show RP 11 _ 24 [(0, .ref 0), (1, .int 4), (2, .int i), (3, .int c)] [] _
            refine RP_step (pc1 := 25) (L1 := [(0, .ref 0), (1, .int 4), (2, .int i), (3, .int c)]) (S1 := [.int c]) 1 0 (fun n => rfl) ?_
            refine RP_call 23 [.int c] (fun n => rfl) ?_
            show RP 23 _ 0 [(0, .int c)] [] _
            refine RP_step (pc1 := 1) (L1 := [(0, .int c)]) (S1 := [.int c]) 1 0 (fun n => rfl) ?_
            refine RP_cond (decide (c < 0)) (fun n => rfl) (fun hh => ?_) (fun hh => ?_)
            · have h65 := of_decide_eq_true hh
              have h66 : c.toInt < 0 := xj_lt h65
              show RP 23 _ 14 [(0, .int c)] [] _
              refine RP_done 4 (fun n => rfl) ?_
              refine Or.inr ⟨0, rfl, ?_⟩
              show RP 11 _ 28 [(0, .ref 0), (1, .int 4), (2, .int i), (3, .int c)] [.int 0] _
              refine RP_done 5 (fun n => rfl) ?_
              show RP 82 _ 0 [(0, .ref 0), (1, .int 4), (2, .int i), (3, .int c)] [] _
              refine RP_step (pc1 := 1) (L1 := [(0, .ref 0), (1, .int 4), (2, .int i), (3, .int c)]) (S1 := [.int 4]) 1 0 (fun n => rfl) ?_
              refine RP_call 56 [.int 4] (fun n => rfl) ?_
              show RP 56 _ 0 [(0, .int 4)] [] _
              refine RP_done 15 (fun n => rfl) ?_
              refine Or.inr ⟨1, rfl, ?_⟩
              show RP 82 _ 4 [(0, .ref 0), (1, .int 4), (2, .int i), (3, .int c)] [.int 1] _
              refine RP_step (pc1 := 15) (L1 := [(0, .ref 0), (1, .int 4), (2, .int i), (3, .int c)]) (S1 := [.int 0, .int 0, .int i]) 7 0 (fun n => rfl) ?_
              refine RP_call 55 [.int i, .int 0, .int 0] (fun n => rfl) ?_
              show RP 55 _ 0 [(0, .int i), (1, .int 0), (2, .int 0)] [] _
              refine RP_step (pc1 := 2) (L1 := [(0, .int i), (1, .int 0), (2, .int 0)]) (S1 := [.int 0, .int i]) 2 0 (fun n => rfl) ?_
              refine RP_cond (decide (i < 0)) (fun n => rfl) (fun h => absurd (of_decide_eq_true h) (xi_nlt (x := i) (y := 0) (show 0 ≤ i.toInt by omega))) (fun _ => ?_)
              show RP 55 _ 5 [(0, .int i), (1, .int 0), (2, .int 0)] [] _
              refine RP_step (pc1 := 7) (L1 := [(0, .int i), (1, .int 0), (2, .int 0)]) (S1 := [.int 0, .int i]) 2 0 (fun n => rfl) ?_
              refine RP_cond (decide (0 < i)) (fun n => rfl) (fun h => absurd (of_decide_eq_true h) (xi_nlt (x := 0) (y := i) (show i.toInt ≤ 0 by omega))) (fun _ => ?_)
              show RP 55 _ 10 [(0, .int i), (1, .int 0), (2, .int 0)] [] _
              refine RP_done 5 (fun n => rfl) ?_
              refine Or.inr ⟨1, rfl, ?_⟩
              show RP 82 _ 18 [(0, .ref 0), (1, .int 4), (2, .int i), (3, .int c)] [.int 1] _
              refine RP_step (pc1 := 22) (L1 := [(0, .ref 0), (1, .int 4), (2, .int i), (3, .int c)]) (S1 := [.int c]) 2 0 (fun n => rfl) ?_
              refine RP_call 57 [.int c] (fun n => rfl) ?_
              show RP 57 _ 0 [(0, .int c)] [] _
              refine RP_step (pc1 := 4) (L1 := [(0, .int c)]) (S1 := [.int 15, .int 0, .int c]) 3 0 (fun n => rfl) ?_
              refine RP_call 55 [.int c, .int 0, .int 15] (fun n => rfl) ?_
              show RP 55 _ 0 [(0, .int c), (1, .int 0), (2, .int 15)] [] _
              refine RP_step (pc1 := 2) (L1 := [(0, .int c), (1, .int 0), (2, .int 15)]) (S1 := [.int 0, .int c]) 2 0 (fun n => rfl) ?_
              refine RP_cond (decide (c < 0)) (fun n => rfl) (fun _ => ?_) (fun h => absurd (xi_lt (x := c) (y := 0) (show c.toInt < 0 by omega)) (of_decide_eq_false h))
              show RP 55 _ 14 [(0, .int c), (1, .int 0), (2, .int 15)] [] _
              refine RP_done 4 (fun n => rfl) ?_
              refine Or.inr ⟨0, rfl, ?_⟩
              show RP 57 _ 7 [(0, .int c)] [.int 0] _
              refine RP_done 3 (fun n => rfl) ?_
              refine Or.inr ⟨0, rfl, ?_⟩
              show RP 82 _ 25 [(0, .ref 0), (1, .int 4), (2, .int i), (3, .int c)] [.int 0] _
              refine RP_done 5 (fun n => rfl) ?_
              exact ⟨rfl, _, rfl⟩
            · have h67 := of_decide_eq_false hh
              have h68 : 0 ≤ c.toInt := xj_nlt h67
              show RP 23 _ 4 [(0, .int c)] [] _
              refine RP_step (pc1 := 7) (L1 := [(0, .int c)]) (S1 := [.int 16, .int c]) 2 0 (fun n => rfl) ?_
              refine RP_cond (decide (16 ≤ c)) (fun n => rfl) (fun hh => ?_) (fun hh => ?_)
              · have h69 := of_decide_eq_true hh
                have h70 : 16 ≤ c.toInt := xj_le h69
                show RP 23 _ 14 [(0, .int c)] [] _
                refine RP_done 4 (fun n => rfl) ?_
                refine Or.inr ⟨0, rfl, ?_⟩
                show RP 11 _ 28 [(0, .ref 0), (1, .int 4), (2, .int i), (3, .int c)] [.int 0] _
                refine RP_done 5 (fun n => rfl) ?_
                show RP 82 _ 0 [(0, .ref 0), (1, .int 4), (2, .int i), (3, .int c)] [] _
                refine RP_step (pc1 := 1) (L1 := [(0, .ref 0), (1, .int 4), (2, .int i), (3, .int c)]) (S1 := [.int 4]) 1 0 (fun n => rfl) ?_
                refine RP_call 56 [.int 4] (fun n => rfl) ?_
                show RP 56 _ 0 [(0, .int 4)] [] _
                refine RP_done 15 (fun n => rfl) ?_
                refine Or.inr ⟨1, rfl, ?_⟩
                show RP 82 _ 4 [(0, .ref 0), (1, .int 4), (2, .int i), (3, .int c)] [.int 1] _
                refine RP_step (pc1 := 15) (L1 := [(0, .ref 0), (1, .int 4), (2, .int i), (3, .int c)]) (S1 := [.int 0, .int 0, .int i]) 7 0 (fun n => rfl) ?_
                refine RP_call 55 [.int i, .int 0, .int 0] (fun n => rfl) ?_
                show RP 55 _ 0 [(0, .int i), (1, .int 0), (2, .int 0)] [] _
                refine RP_step (pc1 := 2) (L1 := [(0, .int i), (1, .int 0), (2, .int 0)]) (S1 := [.int 0, .int i]) 2 0 (fun n => rfl) ?_
                refine RP_cond (decide (i < 0)) (fun n => rfl) (fun h => absurd (of_decide_eq_true h) (xi_nlt (x := i) (y := 0) (show 0 ≤ i.toInt by omega))) (fun _ => ?_)
                show RP 55 _ 5 [(0, .int i), (1, .int 0), (2, .int 0)] [] _
                refine RP_step (pc1 := 7) (L1 := [(0, .int i), (1, .int 0), (2, .int 0)]) (S1 := [.int 0, .int i]) 2 0 (fun n => rfl) ?_
                refine RP_cond (decide (0 < i)) (fun n => rfl) (fun h => absurd (of_decide_eq_true h) (xi_nlt (x := 0) (y := i) (show i.toInt ≤ 0 by omega))) (fun _ => ?_)
                show RP 55 _ 10 [(0, .int i), (1, .int 0), (2, .int 0)] [] _
                refine RP_done 5 (fun n => rfl) ?_
                refine Or.inr ⟨1, rfl, ?_⟩
                show RP 82 _ 18 [(0, .ref 0), (1, .int 4), (2, .int i), (3, .int c)] [.int 1] _
                refine RP_step (pc1 := 22) (L1 := [(0, .ref 0), (1, .int 4), (2, .int i), (3, .int c)]) (S1 := [.int c]) 2 0 (fun n => rfl) ?_
                refine RP_call 57 [.int c] (fun n => rfl) ?_
                show RP 57 _ 0 [(0, .int c)] [] _
                refine RP_step (pc1 := 4) (L1 := [(0, .int c)]) (S1 := [.int 15, .int 0, .int c]) 3 0 (fun n => rfl) ?_
                refine RP_call 55 [.int c, .int 0, .int 15] (fun n => rfl) ?_
                show RP 55 _ 0 [(0, .int c), (1, .int 0), (2, .int 15)] [] _
                refine RP_step (pc1 := 2) (L1 := [(0, .int c), (1, .int 0), (2, .int 15)]) (S1 := [.int 0, .int c]) 2 0 (fun n => rfl) ?_
                refine RP_cond (decide (c < 0)) (fun n => rfl) (fun h => absurd (of_decide_eq_true h) (xi_nlt (x := c) (y := 0) (show 0 ≤ c.toInt by omega))) (fun _ => ?_)
                show RP 55 _ 5 [(0, .int c), (1, .int 0), (2, .int 15)] [] _
                refine RP_step (pc1 := 7) (L1 := [(0, .int c), (1, .int 0), (2, .int 15)]) (S1 := [.int 15, .int c]) 2 0 (fun n => rfl) ?_
                refine RP_cond (decide (15 < c)) (fun n => rfl) (fun _ => ?_) (fun h => absurd (xi_lt (x := 15) (y := c) (show 15 < c.toInt by omega)) (of_decide_eq_false h))
                show RP 55 _ 14 [(0, .int c), (1, .int 0), (2, .int 15)] [] _
                refine RP_done 4 (fun n => rfl) ?_
                refine Or.inr ⟨0, rfl, ?_⟩
                show RP 57 _ 7 [(0, .int c)] [.int 0] _
                refine RP_done 3 (fun n => rfl) ?_
                refine Or.inr ⟨0, rfl, ?_⟩
                show RP 82 _ 25 [(0, .ref 0), (1, .int 4), (2, .int i), (3, .int c)] [.int 0] _
                refine RP_done 5 (fun n => rfl) ?_
                exact ⟨rfl, _, rfl⟩
              · have h71 := of_decide_eq_false hh
                have h72 : c.toInt < 16 := xj_nle h71
                show RP 23 _ 10 [(0, .int c)] [] _
                refine RP_done 5 (fun n => rfl) ?_
                refine Or.inr ⟨1, rfl, ?_⟩
                show RP 11 _ 28 [(0, .ref 0), (1, .int 4), (2, .int i), (3, .int c)] [.int 1] _
                exact absurd ⟨by decide, by decide, by omega, by omega, by omega, by omega⟩ hout
        · obtain rfl : f = 5 := xi_eq e9
          show RP 11 _ 20 [(0, .ref 0), (1, .int 5), (2, .int i), (3, .int c)] [.int 5, .ref 2, .int i] _
          refine RP_step (pc1 := 21) (L1 := [(0, .ref 0), (1, .int 5), (2, .int i), (3, .int c)]) (S1 := [.int 0, .int i]) 1 0 (fun n => rfl) ?_
          refine RP_cond (decide (0 < i)) (fun n => rfl) (fun hh => ?_) (fun hh => ?_)
          · have h73 := of_decide_eq_true hh
            have h74 : 0 < i.toInt := xj_lt h73
            show RP 11 _ 31 [(0, .ref 0), (1, .int 5), (2, .int i), (3, .int c)] [] _
            refine RP_done 4 (fun n => rfl) ?_
            show RP 82 _ 0 [(0, .ref 0), (1, .int 5), (2, .int i), (3, .int c)] [] _
            refine RP_step (pc1 := 1) (L1 := [(0, .ref 0), (1, .int 5), (2, .int i), (3, .int c)]) (S1 := [.int 5]) 1 0 (fun n => rfl) ?_
            refine RP_call 56 [.int 5] (fun n => rfl) ?_
            show RP 56 _ 0 [(0, .int 5)] [] _
            refine RP_done 15 (fun n => rfl) ?_
            refine Or.inr ⟨1, rfl, ?_⟩
            show RP 82 _ 4 [(0, .ref 0), (1, .int 5), (2, .int i), (3, .int c)] [.int 1] _
            refine RP_step (pc1 := 15) (L1 := [(0, .ref 0), (1, .int 5), (2, .int i), (3, .int c)]) (S1 := [.int 0, .int 0, .int i]) 7 0 (fun n => rfl) ?_
            refine RP_call 55 [.int i, .int 0, .int 0] (fun n => rfl) ?_
            show RP 55 _ 0 [(0, .int i), (1, .int 0), (2, .int 0)] [] _
            refine RP_step (pc1 := 2) (L1 := [(0, .int i), (1, .int 0), (2, .int 0)]) (S1 := [.int 0, .int i]) 2 0 (fun n => rfl) ?_
            refine RP_cond (decide (i < 0)) (fun n => rfl) (fun h => absurd (of_decide_eq_true h) (xi_nlt (x := i) (y := 0) (show 0 ≤ i.toInt by omega))) (fun _ => ?_)
            show RP 55 _ 5 [(0, .int i), (1, .int 0), (2, .int 0)] [] _
            refine RP_step (pc1 := 7) (L1 := [(0, .int i), (1, .int 0), (2, .int 0)]) (S1 := [.int 0, .int i]) 2 0 (fun n => rfl) ?_
            refine RP_cond (decide (0 < i)) (fun n => rfl) (fun _ => ?_) (fun h => absurd (xi_lt (x := 0) (y := i) (show 0 < i.toInt by omega)) (of_decide_eq_false h))
            show RP 55 _ 14 [(0, .int i), (1, .int 0), (2, .int 0)] [] _
            refine RP_done 4 (fun n => rfl) ?_
            refine Or.inr ⟨0, rfl, ?_⟩
            show RP 82 _ 18 [(0, .ref 0), (1, .int 5), (2, .int i), (3, .int c)] [.int 0] _
            refine RP_done 5 (fun n => rfl) ?_
            exact ⟨rfl, _, rfl⟩
          · have h75 := of_decide_eq_false hh
            have h76 : i.toInt ≤ 0 := xj_nlt h75
            show RP 11 _ 24 [(0, .ref 0), (1, .int 5), (2, .int i), (3, .int c)] [] _
            refine RP_step (pc1 := 25) (L1 := [(0, .ref 0), (1, .int 5), (2, .int i), (3, .int c)]) (S1 := [.int c]) 1 0 (fun n => rfl) ?_
            refine RP_call 23 [.int c] (fun n => rfl) ?_
            show RP 23 _ 0 [(0, .int c)] [] _
            refine RP_step (pc1 := 1) (L1 := [(0, .int c)]) (S1 := [.int c]) 1 0 (fun n => rfl) ?_
            refine RP_cond (decide (c < 0)) (fun n => rfl) (fun hh => ?_) (fun hh => ?_)
            · have h77 := of_decide_eq_true hh
              have h78 : c.toInt < 0 := xj_lt h77
              show RP 23 _ 14 [(0, .int c)] [] _
              refine RP_done 4 (fun n => rfl) ?_
              refine Or.inr ⟨0, rfl, ?_⟩
              show RP 11 _ 28 [(0, .ref 0), (1, .int 5), (2, .int i), (3, .int c)] [.int 0] _
              refine RP_done 5 (fun n => rfl) ?_
              show RP 82 _ 0 [(0, .ref 0), (1, .int 5), (2, .int i), (3, .int c)] [] _
              refine RP_step (pc1 := 1) (L1 := [(0, .ref 0), (1, .int 5), (2, .int i), (3, .int c)]) (S1 := [.int 5]) 1 0 (fun n => rfl) ?_
              refine RP_call 56 [.int 5] (fun n => rfl) ?_
              show RP 56 _ 0 [(0, .int 5)] [] _
              refine RP_done 15 (fun n => rfl) ?_
              refine Or.inr ⟨1, rfl, ?_⟩
              show RP 82 _ 4 [(0, .ref 0), (1, .int 5), (2, .int i), (3, .int c)] [.int 1] _
              refine RP_step (pc1 := 15) (L1 := [(0, .ref 0), (1, .int 5), (2, .int i), (3, .int c)]) (S1 := [.int 0, .int 0, .int i]) 7 0 (fun n => rfl) ?_
              refine RP_call 55 [.int i, .int 0, .int 0] (fun n => rfl) ?_
              show RP 55 _ 0 [(0, .int i), (1, .int 0), (2, .int 0)] [] _
              refine RP_step (pc1 := 2) (L1 := [(0, .int i), (1, .int 0), (2, .int 0)]) (S1 := [.int 0, .int i]) 2 0 (fun n => rfl) ?_
              refine RP_cond (decide (i < 0)) (fun n => rfl) (fun h => absurd (of_decide_eq_true h) (xi_nlt (x := i) (y := 0) (show 0 ≤ i.toInt by omega))) (fun _ => ?_)
              show RP 55 _ 5 [(0, .int i), (1, .int 0), (2, .int 0)] [] _
              refine RP_step (pc1 := 7) (L1 := [(0, .int i), (1, .int 0), (2, .int 0)]) (S1 := [.int 0, .int i]) 2 0 (fun n => rfl) ?_
              refine RP_cond (decide (0 < i)) (fun n => rfl) (fun h => absurd (of_decide_eq_true h) (xi_nlt (x := 0) (y := i) (show i.toInt ≤ 0 by omega))) (fun _ => ?_)
              show RP 55 _ 10 [(0, .int i), (1, .int 0), (2, .int 0)] [] _
              refine RP_done 5 (fun n => rfl) ?_
              refine Or.inr ⟨1, rfl, ?_⟩
              show RP 82 _ 18 [(0, .ref 0), (1, .int 5), (2, .int i), (3, .int c)] [.int 1] _
              refine RP_step (pc1 := 22) (L1 := [(0, .ref 0), (1, .int 5), (2, .int i), (3, .int c)]) (S1 := [.int c]) 2 0 (fun n => rfl) ?_
              refine RP_call 57 [.int c] (fun n => rfl) ?_
              show RP 57 _ 0 [(0, .int c)] [] _
              refine RP_step (pc1 := 4) (L1 := [(0, .int c)]) (S1 := [.int 15, .int 0, .int c]) 3 0 (fun n => rfl) ?_
              refine RP_call 55 [.int c, .int 0, .int 15] (fun n => rfl) ?_
              show RP 55 _ 0 [(0, .int c), (1, .int 0), (2, .int 15)] [] _
              refine RP_step (pc1 := 2) (L1 := [(0, .int c), (1, .int 0), (2, .int 15)]) (S1 := [.int 0, .int c]) 2 0 (fun n => rfl) ?_
              refine RP_cond (decide (c < 0)) (fun n => rfl) (fun _ => ?_) (fun h => absurd (xi_lt (x := c) (y := 0) (show c.toInt < 0 by omega)) (of_decide_eq_false h))
              show RP 55 _ 14 [(0, .int c), (1, .int 0), (2, .int 15)] [] _
              refine RP_done 4 (fun n => rfl) ?_
              refine Or.inr ⟨0, rfl, ?_⟩
              show RP 57 _ 7 [(0, .int c)] [.int 0] _
              refine RP_done 3 (fun n => rfl) ?_
              refine Or.inr ⟨0, rfl, ?_⟩
              show RP 82 _ 25 [(0, .ref 0), (1, .int 5), (2, .int i), (3, .int c)] [.int 0] _
              refine RP_done 5 (fun n => rfl) ?_
              exact ⟨rfl, _, rfl⟩
            · have h79 := of_decide_eq_false hh
              have h80 : 0 ≤ c.toInt := xj_nlt h79
              show RP 23 _ 4 [(0, .int c)] [] _
              refine RP_step (pc1 := 7) (L1 := [(0, .int c)]) (S1 := [.int 16, .int c]) 2 0 (fun n => rfl) ?_
              refine RP_cond (decide (16 ≤ c)) (fun n => rfl) (fun hh => ?_) (fun hh => ?_)
              · have h81 := of_decide_eq_true hh
                have h82 : 16 ≤ c.toInt := xj_le h81
                show RP 23 _ 14 [(0, .int c)] [] _
                refine RP_done 4 (fun n => rfl) ?_
                refine Or.inr ⟨0, rfl, ?_⟩
                show RP 11 _ 28 [(0, .ref 0), (1, .int 5), (2, .int i), (3, .int c)] [.int 0] _
                refine RP_done 5 (fun n => rfl) ?_
                show RP 82 _ 0 [(0, .ref 0), (1, .int 5), (2, .int i), (3, .int c)] [] _
                refine RP_step (pc1 := 1) (L1 := [(0, .ref 0), (1, .int 5), (2, .int i), (3, .int c)]) (S1 := [.int 5]) 1 0 (fun n => rfl) ?_
                refine RP_call 56 [.int 5] (fun n => rfl) ?_
                show RP 56 _ 0 [(0, .int 5)] [] _
                refine RP_done 15 (fun n => rfl) ?_
                refine Or.inr ⟨1, rfl, ?_⟩
                show RP 82 _ 4 [(0, .ref 0), (1, .int 5), (2, .int i), (3, .int c)] [.int 1] _
                refine RP_step (pc1 := 15) (L1 := [(0, .ref 0), (1, .int 5), (2, .int i), (3, .int c)]) (S1 := [.int 0, .int 0, .int i]) 7 0 (fun n => rfl) ?_
                refine RP_call 55 [.int i, .int 0, .int 0] (fun n => rfl) ?_
                show RP 55 _ 0 [(0, .int i), (1, .int 0), (2, .int 0)] [] _
                refine RP_step (pc1 := 2) (L1 := [(0, .int i), (1, .int 0), (2, .int 0)]) (S1 := [.int 0, .int i]) 2 0 (fun n => rfl) ?_
                refine RP_cond (decide (i < 0)) (fun n => rfl) (fun h => absurd (of_decide_eq_true h) (xi_nlt (x := i) (y := 0) (show 0 ≤ i.toInt by omega))) (fun _ => ?_)
                show RP 55 _ 5 [(0, .int i), (1, .int 0), (2, .int 0)] [] _
                refine RP_step (pc1 := 7) (L1 := [(0, .int i), (1, .int 0), (2, .int 0)]) (S1 := [.int 0, .int i]) 2 0 (fun n => rfl) ?_
                refine RP_cond (decide (0 < i)) (fun n => rfl) (fun h => absurd (of_decide_eq_true h) (xi_nlt (x := 0) (y := i) (show i.toInt ≤ 0 by omega))) (fun _ => ?_)
                show RP 55 _ 10 [(0, .int i), (1, .int 0), (2, .int 0)] [] _
                refine RP_done 5 (fun n => rfl) ?_
                refine Or.inr ⟨1, rfl, ?_⟩
                show RP 82 _ 18 [(0, .ref 0), (1, .int 5), (2, .int i), (3, .int c)] [.int 1] _
                refine RP_step (pc1 := 22) (L1 := [(0, .ref 0), (1, .int 5), (2, .int i), (3, .int c)]) (S1 := [.int c]) 2 0 (fun n => rfl) ?_
                refine RP_call 57 [.int c] (fun n => rfl) ?_
                show RP 57 _ 0 [(0, .int c)] [] _
                refine RP_step (pc1 := 4) (L1 := [(0, .int c)]) (S1 := [.int 15, .int 0, .int c]) 3 0 (fun n => rfl) ?_
                refine RP_call 55 [.int c, .int 0, .int 15] (fun n => rfl) ?_
                show RP 55 _ 0 [(0, .int c), (1, .int 0), (2, .int 15)] [] _
                refine RP_step (pc1 := 2) (L1 := [(0, .int c), (1, .int 0), (2, .int 15)]) (S1 := [.int 0, .int c]) 2 0 (fun n => rfl) ?_
                refine RP_cond (decide (c < 0)) (fun n => rfl) (fun h => absurd (of_decide_eq_true h) (xi_nlt (x := c) (y := 0) (show 0 ≤ c.toInt by omega))) (fun _ => ?_)
                show RP 55 _ 5 [(0, .int c), (1, .int 0), (2, .int 15)] [] _
                refine RP_step (pc1 := 7) (L1 := [(0, .int c), (1, .int 0), (2, .int 15)]) (S1 := [.int 15, .int c]) 2 0 (fun n => rfl) ?_
                refine RP_cond (decide (15 < c)) (fun n => rfl) (fun _ => ?_) (fun h => absurd (xi_lt (x := 15) (y := c) (show 15 < c.toInt by omega)) (of_decide_eq_false h))
                show RP 55 _ 14 [(0, .int c), (1, .int 0), (2, .int 15)] [] _
                refine RP_done 4 (fun n => rfl) ?_
                refine Or.inr ⟨0, rfl, ?_⟩
                show RP 57 _ 7 [(0, .int c)] [.int 0] _
                refine RP_done 3 (fun n => rfl) ?_
                refine Or.inr ⟨0, rfl, ?_⟩
                show RP 82 _ 25 [(0, .ref 0), (1, .int 5), (2, .int i), (3, .int c)] [.int 0] _
                refine RP_done 5 (fun n => rfl) ?_
                exact ⟨rfl, _, rfl⟩
              · have h83 := of_decide_eq_false hh
                have h84 : c.toInt < 16 := xj_nle h83
                show RP 23 _ 10 [(0, .int c)] [] _
                refine RP_done 5 (fun n => rfl) ?_
                refine Or.inr ⟨1, rfl, ?_⟩
                show RP 11 _ 28 [(0, .ref 0), (1, .int 5), (2, .int i), (3, .int c)] [.int 1] _
                exact absurd ⟨by decide, by decide, by omega, by omega, by omega, by omega⟩ hout

theorem sm_11 (f i c : Int32) : Same 11 82 [.int f, .int i, .int c] := by
  by_cases h : (0 ≤ f.toInt ∧ f.toInt ≤ 5 ∧ 0 ≤ i.toInt ∧ i.toInt ≤ 0 ∧ 0 ≤ c.toInt ∧ c.toInt ≤ 15)
  · obtain ⟨h1, h2, h3, h4, h5, h6⟩ := h
    obtain rfl : i = 0 := xi_eq (show i.toInt = 0 by omega)
    obtain ⟨j, rfl, hj⟩ : ∃ j : Nat, c = Int32.ofNat j ∧ j ∈ List.range 16 := by
      refine ⟨c.toInt.toNat, xi_eq ?_, List.mem_range.mpr (by omega)⟩
      rw [show (Int32.ofNat c.toInt.toNat).toInt = ((c.toInt.toNat : Nat) : Int) from nI_toInt (by omega)]
      omega
    rcases (show f.toInt = 0 ∨ f.toInt = 1 ∨ f.toInt = 2 ∨ f.toInt = 3 ∨ f.toInt = 4 ∨ f.toInt = 5 by omega) with e | e | e | e | e | e
    · obtain rfl : f = 0 := xi_eq e
      exact ⟨2, xr_of (of_decide_eq_true (List.all_eq_true.mp cx_11_0 j hj)), xr_of (of_decide_eq_true (List.all_eq_true.mp cm_11_0 j hj))⟩
    · obtain rfl : f = 1 := xi_eq e
      exact ⟨0, xr_of (of_decide_eq_true (List.all_eq_true.mp cx_11_1 j hj)), xr_of (of_decide_eq_true (List.all_eq_true.mp cm_11_1 j hj))⟩
    · obtain rfl : f = 2 := xi_eq e
      exact ⟨0, xr_of (of_decide_eq_true (List.all_eq_true.mp cx_11_2 j hj)), xr_of (of_decide_eq_true (List.all_eq_true.mp cm_11_2 j hj))⟩
    · obtain rfl : f = 3 := xi_eq e
      exact ⟨0, xr_of (of_decide_eq_true (List.all_eq_true.mp cx_11_3 j hj)), xr_of (of_decide_eq_true (List.all_eq_true.mp cm_11_3 j hj))⟩
    · obtain rfl : f = 4 := xi_eq e
      exact ⟨0, xr_of (of_decide_eq_true (List.all_eq_true.mp cx_11_4 j hj)), xr_of (of_decide_eq_true (List.all_eq_true.mp cm_11_4 j hj))⟩
    · obtain rfl : f = 5 := xi_eq e
      exact ⟨0, xr_of (of_decide_eq_true (List.all_eq_true.mp cx_11_5 j hj)), xr_of (of_decide_eq_true (List.all_eq_true.mp cm_11_5 j hj))⟩
  · exact so_11 f i c h