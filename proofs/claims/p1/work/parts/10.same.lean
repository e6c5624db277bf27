set_option maxHeartbeats 8000000 in
set_option maxRecDepth 1000000 in
theorem sm_0 (f op a b c d : Int32) : Same 0 61 [.int f, .int op, .int a, .int b, .int c, .int d] := by
  obtain ⟨m1, r1, C1, e1, hv, rfl, m2, r2, D1, e2, rfl, rfl⟩ := sm_told op a b c d Cx Cm
  refine Same_of ?_
  rcases hv with rfl | rfl
  · skip
    show RP 0 _ 0 [(0, .ref 0), (1, .int f), (2, .int op), (3, .int a), (4, .int b), (5, .int c), (6, .int d)] [] _
    refine RP_step (pc1 := 1) (L1 := [(0, .ref 0), (1, .int f), (2, .int op), (3, .int a), (4, .int b), (5, .int c), (6, .int d)]) (S1 := [.int f]) 1 0 (fun n => rfl) ?_
    refine RP_call 22 [.int f] (fun n => rfl) ?_
    show RP 22 _ 0 [(0, .int f)] [] _
    refine RP_step (pc1 := 1) (L1 := [(0, .int f)]) (S1 := [.int f]) 1 0 (fun n => rfl) ?_
    refine RP_cond (decide (f < 0)) (fun n => rfl) (fun hh => ?_) (fun hh => ?_)
    · have h1 := of_decide_eq_true hh
      have h2 : f.toInt < 0 := xj_lt h1
      show RP 22 _ 14 [(0, .int f)] [] _
      refine RP_done 4 (fun n => rfl) ?_
      refine Or.inr ⟨0, rfl, ?_⟩
      show RP 0 _ 4 [(0, .ref 0), (1, .int f), (2, .int op), (3, .int a), (4, .int b), (5, .int c), (6, .int d)] [.int 0] _
      refine RP_done 5 (fun n => rfl) ?_
      show RP 61 _ 0 [(0, .ref 0), (1, .int f), (2, .int op), (3, .int a), (4, .int b), (5, .int c), (6, .int d)] [] _
      refine RP_step (pc1 := 1) (L1 := [(0, .ref 0), (1, .int f), (2, .int op), (3, .int a), (4, .int b), (5, .int c), (6, .int d)]) (S1 := [.int f]) 1 0 (fun n => rfl) ?_
      refine RP_call 56 [.int f] (fun n => rfl) ?_
      show RP 56 _ 0 [(0, .int f)] [] _
      refine RP_step (pc1 := 3) (L1 := [(0, .int f)]) (S1 := [.int 5, .int 0, .int f]) 3 0 (fun n => rfl) ?_
      refine RP_call 55 [.int f, .int 0, .int 5] (fun n => rfl) ?_
      show RP 55 _ 0 [(0, .int f), (1, .int 0), (2, .int 5)] [] _
      refine RP_step (pc1 := 2) (L1 := [(0, .int f), (1, .int 0), (2, .int 5)]) (S1 := [.int 0, .int f]) 2 0 (fun n => rfl) ?_
      refine RP_cond (decide (f < 0)) (fun n => rfl) (fun _ => ?_) (fun h => absurd (xi_lt (x := f) (y := 0) (show f.toInt < 0 by omega)) (of_decide_eq_false h))
      show RP 55 _ 14 [(0, .int f), (1, .int 0), (2, .int 5)] [] _
      refine RP_done 4 (fun n => rfl) ?_
      refine Or.inr ⟨0, rfl, ?_⟩
      show RP 56 _ 6 [(0, .int f)] [.int 0] _
      refine RP_done 3 (fun n => rfl) ?_
      refine Or.inr ⟨0, rfl, ?_⟩
      show RP 61 _ 4 [(0, .ref 0), (1, .int f), (2, .int op), (3, .int a), (4, .int b), (5, .int c), (6, .int d)] [.int 0] _
      refine RP_done 5 (fun n => rfl) ?_
      exact ⟨rfl, _, rfl⟩
    · have h3 := of_decide_eq_false hh
      have h4 : 0 ≤ f.toInt := xj_nlt h3
      show RP 22 _ 4 [(0, .int f)] [] _
      refine RP_step (pc1 := 7) (L1 := [(0, .int f)]) (S1 := [.int 6, .int f]) 2 0 (fun n => rfl) ?_
      refine RP_cond (decide (6 ≤ f)) (fun n => rfl) (fun hh => ?_) (fun hh => ?_)
      · have h5 := of_decide_eq_true hh
        have h6 : 6 ≤ f.toInt := xj_le h5
        show RP 22 _ 14 [(0, .int f)] [] _
        refine RP_done 4 (fun n => rfl) ?_
        refine Or.inr ⟨0, rfl, ?_⟩
        show RP 0 _ 4 [(0, .ref 0), (1, .int f), (2, .int op), (3, .int a), (4, .int b), (5, .int c), (6, .int d)] [.int 0] _
        refine RP_done 5 (fun n => rfl) ?_
        show RP 61 _ 0 [(0, .ref 0), (1, .int f), (2, .int op), (3, .int a), (4, .int b), (5, .int c), (6, .int d)] [] _
        refine RP_step (pc1 := 1) (L1 := [(0, .ref 0), (1, .int f), (2, .int op), (3, .int a), (4, .int b), (5, .int c), (6, .int d)]) (S1 := [.int f]) 1 0 (fun n => rfl) ?_
        refine RP_call 56 [.int f] (fun n => rfl) ?_
        show RP 56 _ 0 [(0, .int f)] [] _
        refine RP_step (pc1 := 3) (L1 := [(0, .int f)]) (S1 := [.int 5, .int 0, .int f]) 3 0 (fun n => rfl) ?_
        refine RP_call 55 [.int f, .int 0, .int 5] (fun n => rfl) ?_
        show RP 55 _ 0 [(0, .int f), (1, .int 0), (2, .int 5)] [] _
        refine RP_step (pc1 := 2) (L1 := [(0, .int f), (1, .int 0), (2, .int 5)]) (S1 := [.int 0, .int f]) 2 0 (fun n => rfl) ?_
        refine RP_cond (decide (f < 0)) (fun n => rfl) (fun h => absurd (of_decide_eq_true h) (xi_nlt (x := f) (y := 0) (show 0 ≤ f.toInt by omega))) (fun _ => ?_)
        show RP 55 _ 5 [(0, .int f), (1, .int 0), (2, .int 5)] [] _
        refine RP_step (pc1 := 7) (L1 := [(0, .int f), (1, .int 0), (2, .int 5)]) (S1 := [.int 5, .int f]) 2 0 (fun n => rfl) ?_
        refine RP_cond (decide (5 < f)) (fun n => rfl) (fun _ => ?_) (fun h => absurd (xi_lt (x := 5) (y := f) (show 5 < f.toInt by omega)) (of_decide_eq_false h))
        show RP 55 _ 14 [(0, .int f), (1, .int 0), (2, .int 5)] [] _
        refine RP_done 4 (fun n => rfl) ?_
        refine Or.inr ⟨0, rfl, ?_⟩
        show RP 56 _ 6 [(0, .int f)] [.int 0] _
        refine RP_done 3 (fun n => rfl) ?_
        refine Or.inr ⟨0, rfl, ?_⟩
        show RP 61 _ 4 [(0, .ref 0), (1, .int f), (2, .int op), (3, .int a), (4, .int b), (5, .int c), (6, .int d)] [.int 0] _
        refine RP_done 5 (fun n => rfl) ?_
        exact ⟨rfl, _, rfl⟩
      · have h7 := of_decide_eq_false hh
        have h8 : f.toInt < 6 := xj_nle h7
        show RP 22 _ 10 [(0, .int f)] [] _
        refine RP_done 5 (fun n => rfl) ?_
        refine Or.inr ⟨1, rfl, ?_⟩
        show RP 0 _ 4 [(0, .ref 0), (1, .int f), (2, .int op), (3, .int a), (4, .int b), (5, .int c), (6, .int d)] [.int 1] _
        refine RP_step (pc1 := 15) (L1 := [(0, .ref 0), (1, .int f), (2, .int op), (3, .int a), (4, .int b), (5, .int c), (6, .int d)]) (S1 := [.int f, .ref 2]) 5 0 (fun n => rfl) ?_
        rcases (show f.toInt = 0 ∨ f.toInt = 1 ∨ f.toInt = 2 ∨ f.toInt = 3 ∨ f.toInt = 4 ∨ f.toInt = 5 by omega) with e9 | e9 | e9 | e9 | e9 | e9
        · obtain rfl : f = 0 := xi_eq e9
          show RP 0 _ 15 [(0, .ref 0), (1, .int 0), (2, .int op), (3, .int a), (4, .int b), (5, .int c), (6, .int d)] [.int 0, .ref 2] _
          refine RP_step (pc1 := 29) (L1 := [(0, .ref 0), (1, .int 0), (2, .int op), (3, .int a), (4, .int b), (5, .int c), (6, .int d)]) (S1 := [.int d, .int c, .int b, .int a, .int op]) 8 0 (fun n => rfl) ?_
          refine RP_call 25 [.int op, .int a, .int b, .int c, .int d] (fun n => rfl) ?_
          refine ⟨_, _, _, e1, Or.inr ⟨0, rfl, ?_⟩⟩
          show RP 0 _ 32 [(0, .ref 0), (1, .int 0), (2, .int op), (3, .int a), (4, .int b), (5, .int c), (6, .int d)] [.int 0] _
          refine RP_done 5 (fun n => rfl) ?_
          show RP 61 _ 0 [(0, .ref 0), (1, .int 0), (2, .int op), (3, .int a), (4, .int b), (5, .int c), (6, .int d)] [] _
          refine RP_step (pc1 := 1) (L1 := [(0, .ref 0), (1, .int 0), (2, .int op), (3, .int a), (4, .int b), (5, .int c), (6, .int d)]) (S1 := [.int 0]) 1 0 (fun n => rfl) ?_
          refine RP_call 56 [.int 0] (fun n => rfl) ?_
          show RP 56 _ 0 [(0, .int 0)] [] _
          refine RP_done 15 (fun n => rfl) ?_
          refine Or.inr ⟨1, rfl, ?_⟩
          show RP 61 _ 4 [(0, .ref 0), (1, .int 0), (2, .int op), (3, .int a), (4, .int b), (5, .int c), (6, .int d)] [.int 1] _
          refine RP_step (pc1 := 26) (L1 := [(0, .ref 0), (1, .int 0), (2, .int op), (3, .int a), (4, .int b), (5, .int c), (6, .int d)]) (S1 := [.int d, .int c, .int b, .int a, .int op]) 12 0 (fun n => rfl) ?_
          refine RP_call 59 [.int op, .int a, .int b, .int c, .int d] (fun n => rfl) ?_
          refine ⟨_, _, _, e2, Or.inr ⟨0, rfl, ?_⟩⟩
          show RP 61 _ 29 [(0, .ref 0), (1, .int 0), (2, .int op), (3, .int a), (4, .int b), (5, .int c), (6, .int d)] [.int 0] _
          refine RP_done 5 (fun n => rfl) ?_
          exact ⟨rfl, _, rfl⟩
        · obtain rfl : f = 1 := xi_eq e9
          show RP 0 _ 15 [(0, .ref 0), (1, .int 1), (2, .int op), (3, .int a), (4, .int b), (5, .int c), (6, .int d)] [.int 1, .ref 2] _
          refine RP_step (pc1 := 29) (L1 := [(0, .ref 0), (1, .int 1), (2, .int op), (3, .int a), (4, .int b), (5, .int c), (6, .int d)]) (S1 := [.int d, .int c, .int b, .int a, .int op]) 8 0 (fun n => rfl) ?_
          refine RP_call 25 [.int op, .int a, .int b, .int c, .int d] (fun n => rfl) ?_
          refine ⟨_, _, _, e1, Or.inr ⟨0, rfl, ?_⟩⟩
          show RP 0 _ 32 [(0, .ref 0), (1, .int 1), (2, .int op), (3, .int a), (4, .int b), (5, .int c), (6, .int d)] [.int 0] _
          refine RP_done 5 (fun n => rfl) ?_
          show RP 61 _ 0 [(0, .ref 0), (1, .int 1), (2, .int op), (3, .int a), (4, .int b), (5, .int c), (6, .int d)] [] _
          refine RP_step (pc1 := 1) (L1 := [(0, .ref 0), (1, .int 1), (2, .int op), (3, .int a), (4, .int b), (5, .int c), (6, .int d)]) (S1 := [.int 1]) 1 0 (fun n => rfl) ?_
          refine RP_call 56 [.int 1] (fun n => rfl) ?_
          show RP 56 _ 0 [(0, .int 1)] [] _
          refine RP_done 15 (fun n => rfl) ?_
          refine Or.inr ⟨1, rfl, ?_⟩
          show RP 61 _ 4 [(0, .ref 0), (1, .int 1), (2, .int op), (3, .int a), (4, .int b), (5, .int c), (6, .int d)] [.int 1] _
          refine RP_step (pc1 := 26) (L1 := [(0, .ref 0), (1, .int 1), (2, .int op), (3, .int a), (4, .int b), (5, .int c), (6, .int d)]) (S1 := [.int d, .int c, .int b, .int a, .int op]) 12 0 (fun n => rfl) ?_
          refine RP_call 59 [.int op, .int a, .int b, .int c, .int d] (fun n => rfl) ?_
          refine ⟨_, _, _, e2, Or.inr ⟨0, rfl, ?_⟩⟩
          show RP 61 _ 29 [(0, .ref 0), (1, .int 1), (2, .int op), (3, .int a), (4, .int b), (5, .int c), (6, .int d)] [.int 0] _
          refine RP_done 5 (fun n => rfl) ?_
          exact ⟨rfl, _, rfl⟩
        · obtain rfl : f = 2 := xi_eq e9
          show RP 0 _ 15 [(0, .ref 0), (1, .int 2), (2, .int op), (3, .int a), (4, .int b), (5, .int c), (6, .int d)] [.int 2, .ref 2] _
          refine RP_step (pc1 := 29) (L1 := [(0, .ref 0), (1, .int 2), (2, .int op), (3, .int a), (4, .int b), (5, .int c), (6, .int d)]) (S1 := [.int d, .int c, .int b, .int a, .int op]) 8 0 (fun n => rfl) ?_
          refine RP_call 25 [.int op, .int a, .int b, .int c, .int d] (fun n => rfl) ?_
          refine ⟨_, _, _, e1, Or.inr ⟨0, rfl, ?_⟩⟩
          show RP 0 _ 32 [(0, .ref 0), (1, .int 2), (2, .int op), (3, .int a), (4, .int b), (5, .int c), (6, .int d)] [.int 0] _
          refine RP_done 5 (fun n => rfl) ?_
          show RP 61 _ 0 [(0, .ref 0), (1, .int 2), (2, .int op), (3, .int a), (4, .int b), (5, .int c), (6, .int d)] [] _
          refine RP_step (pc1 := 1) (L1 := [(0, .ref 0), (1, .int 2), (2, .int op), (3, .int a), (4, .int b), (5, .int c), (6, .int d)]) (S1 := [.int 2]) 1 0 (fun n => rfl) ?_
          refine RP_call 56 [.int 2] (fun n => rfl) ?_
          show RP 56 _ 0 [(0, .int 2)] [] _
          refine RP_done 15 (fun n => rfl) ?_
          refine Or.inr ⟨1, rfl, ?_⟩
          show RP 61 _ 4 [(0, .ref 0), (1, .int 2), (2, .int op), (3, .int a), (4, .int b), (5, .int c), (6, .int d)] [.int 1] _
          refine RP_step (pc1 := 26) (L1 := [(0, .ref 0), (1, .int 2), (2, .int op), (3, .int a), (4, .int b), (5, .int c), (6, .int d)]) (S1 := [.int d, .int c, .int b, .int a, .int op]) 12 0 (fun n => rfl) ?_
          refine RP_call 59 [.int op, .int a, .int b, .int c, .int d] (fun n => rfl) ?_
          refine ⟨_, _, _, e2, Or.inr ⟨0, rfl, ?_⟩⟩
          show RP 61 _ 29 [(0, .ref 0), (1, .int 2), (2, .int op), (3, .int a), (4, .int b), (5, .int c), (6, .int d)] [.int 0] _
          refine RP_done 5 (fun n => rfl) ?_
          exact ⟨rfl, _, rfl⟩
        · obtain rfl : f = 3 := xi_eq e9
          show RP 0 _ 15 [(0, .ref 0), (1, .int 3), (2, .int op), (3, .int a), (4, .int b), (5, .int c), (6, .int d)] [.int 3, .ref 2] _
          refine RP_step (pc1 := 29) (L1 := [(0, .ref 0), (1, .int 3), (2, .int op), (3, .int a), (4, .int b), (5, .int c), (6, .int d)]) (S1 := [.int d, .int c, .int b, .int a, .int op]) 8 0 (fun n => rfl) ?_
          refine RP_call 25 [.int op, .int a, .int b, .int c, .int d] (fun n => rfl) ?_
          refine ⟨_, _, _, e1, Or.inr ⟨0, rfl, ?_⟩⟩
          show RP 0 _ 32 [(0, .ref 0), (1, .int 3), (2, .int op), (3, .int a), (4, .int b), (5, .int c), (6, .int d)] [.int 0] _
          refine RP_done 5 (fun n => rfl) ?_
          show RP 61 _ 0 [(0, .ref 0), (1, .int 3), (2, .int op), (3, .int a), (4, .int b), (5, .int c), (6, .int d)] [] _
          refine RP_step (pc1 := 1) (L1 := [(0, .ref 0), (1, .int 3), (2, .int op), (3, .int a), (4, .int b), (5, .int c), (6, .int d)]) (S1 := [.int 3]) 1 0 (fun n => rfl) ?_
          refine RP_call 56 [.int 3] (fun n => rfl) ?_
          show RP 56 _ 0 [(0, .int 3)] [] _
          refine RP_done 15 (fun n => rfl) ?_
          refine Or.inr ⟨1, rfl, ?_⟩
          show RP 61 _ 4 [(0, .ref 0), (1, .int 3), (2, .int op), (3, .int a), (4, .int b), (5, .int c), (6, .int d)] [.int 1] _
          refine RP_step (pc1 := 26) (L1 := [(0, .ref 0), (1, .int 3), (2, .int op), (3, .int a), (4, .int b), (5, .int c), (6, .int d)]) (S1 := [.int d, .int c, .int b, .int a, .int op]) 12 0 (fun n => rfl) ?_
          refine RP_call 59 [.int op, .int a, .int b, .int c, .int d] (fun n => rfl) ?_
          refine ⟨_, _, _, e2, Or.inr ⟨0, rfl, ?_⟩⟩
          show RP 61 _ 29 [(0, .ref 0), (1, .int 3), (2, .int op), (3, .int a), (4, .int b), (5, .int c), (6, .int d)] [.int 0] _
          refine RP_done 5 (fun n => rfl) ?_
          exact ⟨rfl, _, rfl⟩
        · obtain rfl : f = 4 := xi_eq e9
          show RP 0 _ 15 [(0, .ref 0), (1, .int 4), (2, .int op), (3, .int a), (4, .int b), (5, .int c), (6, .int d)] [.int 4, .ref 2] _
          refine RP_step (pc1 := 29) (L1 := [(0, .ref 0), (1, .int 4), (2, .int op), (3, .int a), (4, .int b), (5, .int c), (6, .int d)]) (S1 := [.int d, .int c, .int b, .int a, .int op]) 8 0 (fun n => rfl) ?_
          refine RP_call 25 [.int op, .int a, .int b, .int c, .int d] (fun n => rfl) ?_
          refine ⟨_, _, _, e1, Or.inr ⟨0, rfl, ?_⟩⟩
          show RP 0 _ 32 [(0, .ref 0), (1, .int 4), (2, .int op), (3, .int a), (4, .int b), (5, .int c), (6, .int d)] [.int 0] _
          refine RP_done 5 (fun n => rfl) ?_
          show RP 61 _ 0 [(0, .ref 0), (1, .int 4), (2, .int op), (3, .int a), (4, .int b), (5, .int c), (6, .int d)] [] _
          refine RP_step (pc1 := 1) (L1 := [(0, .ref 0), (1, .int 4), (2, .int op), (3, .int a), (4, .int b), (5, .int c), (6, .int d)]) (S1 := [.int 4]) 1 0 (fun n => rfl) ?_
          refine RP_call 56 [.int 4] (fun n => rfl) ?_
          show RP 56 _ 0 [(0, .int 4)] [] _
          refine RP_done 15 (fun n => rfl) ?_
          refine Or.inr ⟨1, rfl, ?_⟩
          show RP 61 _ 4 [(0, .ref 0), (1, .int 4), (2, .int op), (3, .int a), (4, .int b), (5, .int c), (6, .int d)] [.int 1] _
          refine RP_step (pc1 := 26) (L1 := [(0, .ref 0), (1, .int 4), (2, .int op), (3, .int a), (4, .int b), (5, .int c), (6, .int d)]) (S1 := [.int d, .int c, .int b, .int a, .int op]) 12 0 (fun n => rfl) ?_
          refine RP_call 59 [.int op, .int a, .int b, .int c, .int d] (fun n => rfl) ?_
          refine ⟨_, _, _, e2, Or.inr ⟨0, rfl, ?_⟩⟩
          show RP 61 _ 29 [(0, .ref 0), (1, .int 4), (2, .int op), (3, .int a), (4, .int b), (5, .int c), (6, .int d)] [.int 0] _
          refine RP_done 5 (fun n => rfl) ?_
          exact ⟨rfl, _, rfl⟩
        · obtain rfl : f = 5 := xi_eq e9
          show RP 0 _ 15 [(0, .ref 0), (1, .int 5), (2, .int op), (3, .int a), (4, .int b), (5, .int c), (6, .int d)] [.int 5, .ref 2] _
          refine RP_step (pc1 := 29) (L1 := [(0, .ref 0), (1, .int 5), (2, .int op), (3, .int a), (4, .int b), (5, .int c), (6, .int d)]) (S1 := [.int d, .int c, .int b, .int a, .int op]) 8 0 (fun n => rfl) ?_
          refine RP_call 25 [.int op, .int a, .int b, .int c, .int d] (fun n => rfl) ?_
          refine ⟨_, _, _, e1, Or.inr ⟨0, rfl, ?_⟩⟩
          show RP 0 _ 32 [(0, .ref 0), (1, .int 5), (2, .int op), (3, .int a), (4, .int b), (5, .int c), (6, .int d)] [.int 0] _
          refine RP_done 5 (fun n => rfl) ?_
          show RP 61 _ 0 [(0, .ref 0), (1, .int 5), (2, .int op), (3, .int a), (4, .int b), (5, .int c), (6, .int d)] [] _
          refine RP_step (pc1 := 1) (L1 := [(0, .ref 0), (1, .int 5), (2, .int op), (3, .int a), (4, .int b), (5, .int c), (6, .int d)]) (S1 := [.int 5]) 1 0 (fun n => rfl) ?_
          refine RP_call 56 [.int 5] (fun n => rfl) ?_
          show RP 56 _ 0 [(0, .int 5)] [] _
          refine RP_done 15 (fun n => rfl) ?_
          refine Or.inr ⟨1, rfl, ?_⟩
          show RP 61 _ 4 [(0, .ref 0), (1, .int 5), (2, .int op), (3, .int a), (4, .int b), (5, .int c), (6, .int d)] [.int 1] _
          refine RP_step (pc1 := 26) (L1 := [(0, .ref 0), (1, .int 5), (2, .int op), (3, .int a), (4, .int b), (5, .int c), (6, .int d)]) (S1 := [.int d, .int c, .int b, .int a, .int op]) 12 0 (fun n => rfl) ?_
          refine RP_call 59 [.int op, .int a, .int b, .int c, .int d] (fun n => rfl) ?_
          refine ⟨_, _, _, e2, Or.inr ⟨0, rfl, ?_⟩⟩
          show RP 61 _ 29 [(0, .ref 0), (1, .int 5), (2, .int op), (3, .int a), (4, .int b), (5, .int c), (6, .int d)] [.int 0] _
          refine RP_done 5 (fun n => rfl) ?_
          exact ⟨rfl, _, rfl⟩
  · skip
    show RP 0 _ 0 [(0, .ref 0), (1, .int f), (2, .int op), (3, .int a), (4, .int b), (5, .int c), (6, .int d)] [] _
    refine RP_step (pc1 := 1) (L1 := [(0, .ref 0), (1, .int f), (2, .int op), (3, .int a), (4, .int b), (5, .int c), (6, .int d)]) (S1 := [.int f]) 1 0 (fun n => rfl) ?_
    refine RP_call 22 [.int f] (fun n => rfl) ?_
    show RP 22 _ 0 [(0, .int f)] [] _
    refine RP_step (pc1 := 1) (L1 := [(0, .int f)]) (S1 := [.int f]) 1 0 (fun n => rfl) ?_
    refine RP_cond (decide (f < 0)) (fun n => rfl) (fun hh => ?_) (fun hh => ?_)
    · have h9 := of_decide_eq_true hh
      have h10 : f.toInt < 0 := xj_lt h9
      show RP 22 _ 14 [(0, .int f)] [] _
      refine RP_done 4 (fun n => rfl) ?_
      refine Or.inr ⟨0, rfl, ?_⟩
      show RP 0 _ 4 [(0, .ref 0), (1, .int f), (2, .int op), (3, .int a), (4, .int b), (5, .int c), (6, .int d)] [.int 0] _
      refine RP_done 5 (fun n => rfl) ?_
      show RP 61 _ 0 [(0, .ref 0), (1, .int f), (2, .int op), (3, .int a), (4, .int b), (5, .int c), (6, .int d)] [] _
      refine RP_step (pc1 := 1) (L1 := [(0, .ref 0), (1, .int f), (2, .int op), (3, .int a), (4, .int b), (5, .int c), (6, .int d)]) (S1 := [.int f]) 1 0 (fun n => rfl) ?_
      refine RP_call 56 [.int f] (fun n => rfl) ?_
      show RP 56 _ 0 [(0, .int f)] [] _
      refine RP_step (pc1 := 3) (L1 := [(0, .int f)]) (S1 := [.int 5, .int 0, .int f]) 3 0 (fun n => rfl) ?_
      refine RP_call 55 [.int f, .int 0, .int 5] (fun n => rfl) ?_
      show RP 55 _ 0 [(0, .int f), (1, .int 0), (2, .int 5)] [] _
      refine RP_step (pc1 := 2) (L1 := [(0, .int f), (1, .int 0), (2, .int 5)]) (S1 := [.int 0, .int f]) 2 0 (fun n => rfl) ?_
      refine RP_cond (decide (f < 0)) (fun n => rfl) (fun _ => ?_) (fun h => absurd (xi_lt (x := f) (y := 0) (show f.toInt < 0 by omega)) (of_decide_eq_false h))
      show RP 55 _ 14 [(0, .int f), (1, .int 0), (2, .int 5)] [] _
      refine RP_done 4 (fun n => rfl) ?_
      refine Or.inr ⟨0, rfl, ?_⟩
      show RP 56 _ 6 [(0, .int f)] [.int 0] _
      refine RP_done 3 (fun n => rfl) ?_
      refine Or.inr ⟨0, rfl, ?_⟩
      show RP 61 _ 4 [(0, .ref 0), (1, .int f), (2, .int op), (3, .int a), (4, .int b), (5, .int c), (6, .int d)] [.int 0] _
      refine RP_done 5 (fun n => rfl) ?_
      exact ⟨rfl, _, rfl⟩
    · have h11 := of_decide_eq_false hh
      have h12 : 0 ≤ f.toInt := xj_nlt h11
      show RP 22 _ 4 [(0, .int f)] [] _
      refine RP_step (pc1 := 7) (L1 := [(0, .int f)]) (S1 := [.int 6, .int f]) 2 0 (fun n => rfl) ?_
      refine RP_cond (decide (6 ≤ f)) (fun n => rfl) (fun hh => ?_) (fun hh => ?_)
      · have h13 := of_decide_eq_true hh
        have h14 : 6 ≤ f.toInt := xj_le h13
        show RP 22 _ 14 [(0, .int f)] [] _
        refine RP_done 4 (fun n => rfl) ?_
        refine Or.inr ⟨0, rfl, ?_⟩
        show RP 0 _ 4 [(0, .ref 0), (1, .int f), (2, .int op), (3, .int a), (4, .int b), (5, .int c), (6, .int d)] [.int 0] _
        refine RP_done 5 (fun n => rfl) ?_
        show RP 61 _ 0 [(0, .ref 0), (1, .int f), (2, .int op), (3, .int a), (4, .int b), (5, .int c), (6, .int d)] [] _
        refine RP_step (pc1 := 1) (L1 := [(0, .ref 0), (1, .int f), (2, .int op), (3, .int a), (4, .int b), (5, .int c), (6, .int d)]) (S1 := [.int f]) 1 0 (fun n => rfl) ?_
        refine RP_call 56 [.int f] (fun n => rfl) ?_
        show RP 56 _ 0 [(0, .int f)] [] _
        refine RP_step (pc1 := 3) (L1 := [(0, .int f)]) (S1 := [.int 5, .int 0, .int f]) 3 0 (fun n => rfl) ?_
        refine RP_call 55 [.int f, .int 0, .int 5] (fun n => rfl) ?_
        show RP 55 _ 0 [(0, .int f), (1, .int 0), (2, .int 5)] [] _
        refine RP_step (pc1 := 2) (L1 := [(0, .int f), (1, .int 0), (2, .int 5)]) (S1 := [.int 0, .int f]) 2 0 (fun n => rfl) ?_
        refine RP_cond (decide (f < 0)) (fun n => rfl) (fun h => absurd (of_decide_eq_true h) (xi_nlt (x := f) (y := 0) (show 0 ≤ f.toInt by omega))) (fun _ => ?_)
        show RP 55 _ 5 [(0, .int f), (1, .int 0), (2, .int 5)] [] _
        refine RP_step (pc1 := 7) (L1 := [(0, .int f), (1, .int 0), (2, .int 5)]) (S1 := [.int 5, .int f]) 2 0 (fun n => rfl) ?_
        refine RP_cond (decide (5 < f)) (fun n => rfl) (fun _ => ?_) (fun h => absurd (xi_lt (x := 5) (y := f) (show 5 < f.toInt by omega)) (of_decide_eq_false h))
        show RP 55 _ 14 [(0, .int f), (1, .int 0), (2, .int 5)] [] _
        refine RP_done 4 (fun n => rfl) ?_
        refine Or.inr ⟨0, rfl, ?_⟩
        show RP 56 _ 6 [(0, .int f)] [.int 0] _
        refine RP_done 3 (fun n => rfl) ?_
        refine Or.inr ⟨0, rfl, ?_⟩
        show RP 61 _ 4 [(0, .ref 0), (1, .int f), (2, .int op), (3, .int a), (4, .int b), (5, .int c), (6, .int d)] [.int 0] _
        refine RP_done 5 (fun n => rfl) ?_
        exact ⟨rfl, _, rfl⟩
      · have h15 := of_decide_eq_false hh
        have h16 : f.toInt < 6 := xj_nle h15
        show RP 22 _ 10 [(0, .int f)] [] _
        refine RP_done 5 (fun n => rfl) ?_
        refine Or.inr ⟨1, rfl, ?_⟩
        show RP 0 _ 4 [(0, .ref 0), (1, .int f), (2, .int op), (3, .int a), (4, .int b), (5, .int c), (6, .int d)] [.int 1] _
        refine RP_step (pc1 := 15) (L1 := [(0, .ref 0), (1, .int f), (2, .int op), (3, .int a), (4, .int b), (5, .int c), (6, .int d)]) (S1 := [.int f, .ref 2]) 5 0 (fun n => rfl) ?_
        rcases (show f.toInt = 0 ∨ f.toInt = 1 ∨ f.toInt = 2 ∨ f.toInt = 3 ∨ f.toInt = 4 ∨ f.toInt = 5 by omega) with e9 | e9 | e9 | e9 | e9 | e9
        · obtain rfl : f = 0 := xi_eq e9
          show RP 0 _ 15 [(0, .ref 0), (1, .int 0), (2, .int op), (3, .int a), (4, .int b), (5, .int c), (6, .int d)] [.int 0, .ref 2] _
          refine RP_step (pc1 := 29) (L1 := [(0, .ref 0), (1, .int 0), (2, .int op), (3, .int a), (4, .int b), (5, .int c), (6, .int d)]) (S1 := [.int d, .int c, .int b, .int a, .int op]) 8 0 (fun n => rfl) ?_
          refine RP_call 25 [.int op, .int a, .int b, .int c, .int d] (fun n => rfl) ?_
          refine ⟨_, _, _, e1, Or.inr ⟨1, rfl, ?_⟩⟩
          show RP 0 _ 32 [(0, .ref 0), (1, .int 0), (2, .int op), (3, .int a), (4, .int b), (5, .int c), (6, .int d)] [.int 1] _
          refine RP_step (pc1 := 59) (L1 := [(0, .ref 0), (1, .int 0), (2, .int op), (3, .int a), (4, .int b), (5, .int c), (6, .int d)]) (S1 := [.int d, .int c, .int b, .int a, .int op, .int 0, .int 0, .ref 1]) 14 0 (fun n => rfl) ?_
          refine RP_call 29 [.ref 1, .int 0, .int 0, .int op, .int a, .int b, .int c, .int d] (fun n => rfl) ?_
          show RP 29 _ 0 [(0, .ref 1), (1, .int 0), (2, .int 0), (3, .int op), (4, .int a), (5, .int b), (6, .int c), (7, .int d)] [] _
          refine RP_step (pc1 := 2) (L1 := [(0, .ref 1), (1, .int 0), (2, .int 0), (3, .int op), (4, .int a), (5, .int b), (6, .int c), (7, .int d)]) (S1 := [.int 0, .int 0]) 2 0 (fun n => rfl) ?_
          refine RP_call 26 [.int 0, .int 0] (fun n => rfl) ?_
          show RP 26 _ 0 [(0, .int 0), (1, .int 0)] [] _
          refine RP_done 8 (fun n => rfl) ?_
          refine Or.inr ⟨0, rfl, ?_⟩
          show RP 29 _ 5 [(0, .ref 1), (1, .int 0), (2, .int 0), (3, .int op), (4, .int a), (5, .int b), (6, .int c), (7, .int d)] [.int 0] _
          refine RP_step (pc1 := 14) (L1 := [(8, .int 0), (0, .ref 1), (1, .int 0), (2, .int 0), (3, .int op), (4, .int a), (5, .int b), (6, .int c), (7, .int d)]) (S1 := [.int op, .int 0, .ref 3]) 5 0 (fun n => rfl) ?_
          refine RP_ast (fun n => rfl) rfl (by decide) ?_
          show RP 29 _ 15 [(8, .int 0), (0, .ref 1), (1, .int 0), (2, .int 0), (3, .int op), (4, .int a), (5, .int b), (6, .int c), (7, .int d)] [] _
          refine RP_step (pc1 := 23) (L1 := [(8, .int 0), (0, .ref 1), (1, .int 0), (2, .int 0), (3, .int op), (4, .int a), (5, .int b), (6, .int c), (7, .int d)]) (S1 := [.int a, .int 0, .ref 4]) 4 0 (fun n => rfl) ?_
          refine RP_ast (fun n => rfl) rfl (by decide) ?_
          show RP 29 _ 24 [(8, .int 0), (0, .ref 1), (1, .int 0), (2, .int 0), (3, .int op), (4, .int a), (5, .int b), (6, .int c), (7, .int d)] [] _
          refine RP_step (pc1 := 32) (L1 := [(8, .int 0), (0, .ref 1), (1, .int 0), (2, .int 0), (3, .int op), (4, .int a), (5, .int b), (6, .int c), (7, .int d)]) (S1 := [.int b, .int 0, .ref 5]) 4 0 (fun n => rfl) ?_
          refine RP_ast (fun n => rfl) rfl (by decide) ?_
          show RP 29 _ 33 [(8, .int 0), (0, .ref 1), (1, .int 0), (2, .int 0), (3, .int op), (4, .int a), (5, .int b), (6, .int c), (7, .int d)] [] _
          refine RP_step (pc1 := 41) (L1 := [(8, .int 0), (0, .ref 1), (1, .int 0), (2, .int 0), (3, .int op), (4, .int a), (5, .int b), (6, .int c), (7, .int d)]) (S1 := [.int c, .int 0, .ref 6]) 4 0 (fun n => rfl) ?_
          refine RP_ast (fun n => rfl) rfl (by decide) ?_
          show RP 29 _ 42 [(8, .int 0), (0, .ref 1), (1, .int 0), (2, .int 0), (3, .int op), (4, .int a), (5, .int b), (6, .int c), (7, .int d)] [] _
          refine RP_step (pc1 := 50) (L1 := [(8, .int 0), (0, .ref 1), (1, .int 0), (2, .int 0), (3, .int op), (4, .int a), (5, .int b), (6, .int c), (7, .int d)]) (S1 := [.int d, .int 0, .ref 7]) 4 0 (fun n => rfl) ?_
          refine RP_ast (fun n => rfl) rfl (by decide) ?_
          show RP 29 _ 51 [(8, .int 0), (0, .ref 1), (1, .int 0), (2, .int 0), (3, .int op), (4, .int a), (5, .int b), (6, .int c), (7, .int d)] [] _
          refine RP_done 3 (fun n => rfl) ?_
          refine Or.inl ⟨rfl, ?_⟩
          show RP 0 _ 62 [(0, .ref 0), (1, .int 0), (2, .int op), (3, .int a), (4, .int b), (5, .int c), (6, .int d)] [] _
          refine RP_done 20 (fun n => rfl) ?_
          show RP 61 _ 0 [(0, .ref 0), (1, .int 0), (2, .int op), (3, .int a), (4, .int b), (5, .int c), (6, .int d)] [] _
          refine RP_step (pc1 := 1) (L1 := [(0, .ref 0), (1, .int 0), (2, .int op), (3, .int a), (4, .int b), (5, .int c), (6, .int d)]) (S1 := [.int 0]) 1 0 (fun n => rfl) ?_
          refine RP_call 56 [.int 0] (fun n => rfl) ?_
          show RP 56 _ 0 [(0, .int 0)] [] _
          refine RP_done 15 (fun n => rfl) ?_
          refine Or.inr ⟨1, rfl, ?_⟩
          show RP 61 _ 4 [(0, .ref 0), (1, .int 0), (2, .int op), (3, .int a), (4, .int b), (5, .int c), (6, .int d)] [.int 1] _
          refine RP_step (pc1 := 26) (L1 := [(0, .ref 0), (1, .int 0), (2, .int op), (3, .int a), (4, .int b), (5, .int c), (6, .int d)]) (S1 := [.int d, .int c, .int b, .int a, .int op]) 12 0 (fun n => rfl) ?_
          refine RP_call 59 [.int op, .int a, .int b, .int c, .int d] (fun n => rfl) ?_
          refine ⟨_, _, _, e2, Or.inr ⟨1, rfl, ?_⟩⟩
          show RP 61 _ 29 [(0, .ref 0), (1, .int 0), (2, .int op), (3, .int a), (4, .int b), (5, .int c), (6, .int d)] [.int 1] _
          refine RP_step (pc1 := 50) (L1 := [(0, .ref 0), (1, .int 0), (2, .int op), (3, .int a), (4, .int b), (5, .int c), (6, .int d)]) (S1 := [.int d, .int c, .int b, .int a, .int op, .int 0, .int 0, .ref 0]) 12 0 (fun n => rfl) ?_
          refine RP_call 60 [.ref 0, .int 0, .int 0, .int op, .int a, .int b, .int c, .int d] (fun n => rfl) ?_
          show RP 60 _ 0 [(0, .ref 0), (1, .int 0), (2, .int 0), (3, .int op), (4, .int a), (5, .int b), (6, .int c), (7, .int d)] [] _
          refine RP_step (pc1 := 17) (L1 := [(8, .int 0), (0, .ref 0), (1, .int 0), (2, .int 0), (3, .int op), (4, .int a), (5, .int b), (6, .int c), (7, .int d)]) (S1 := [.int op, .int 0, .ref 1]) 12 0 (fun n => rfl) ?_
          refine RP_ast (fun n => rfl) rfl (by decide) ?_
          show RP 60 _ 18 [(8, .int 0), (0, .ref 0), (1, .int 0), (2, .int 0), (3, .int op), (4, .int a), (5, .int b), (6, .int c), (7, .int d)] [] _
          refine RP_step (pc1 := 28) (L1 := [(8, .int 0), (0, .ref 0), (1, .int 0), (2, .int 0), (3, .int op), (4, .int a), (5, .int b), (6, .int c), (7, .int d)]) (S1 := [.int a, .int 1, .ref 1]) 6 0 (fun n => rfl) ?_
          refine RP_ast (fun n => rfl) rfl (by decide) ?_
          show RP 60 _ 29 [(8, .int 0), (0, .ref 0), (1, .int 0), (2, .int 0), (3, .int op), (4, .int a), (5, .int b), (6, .int c), (7, .int d)] [] _
          refine RP_step (pc1 := 39) (L1 := [(8, .int 0), (0, .ref 0), (1, .int 0), (2, .int 0), (3, .int op), (4, .int a), (5, .int b), (6, .int c), (7, .int d)]) (S1 := [.int b, .int 2, .ref 1]) 6 0 (fun n => rfl) ?_
          refine RP_ast (fun n => rfl) rfl (by decide) ?_
          show RP 60 _ 40 [(8, .int 0), (0, .ref 0), (1, .int 0), (2, .int 0), (3, .int op), (4, .int a), (5, .int b), (6, .int c), (7, .int d)] [] _
          refine RP_step (pc1 := 50) (L1 := [(8, .int 0), (0, .ref 0), (1, .int 0), (2, .int 0), (3, .int op), (4, .int a), (5, .int b), (6, .int c), (7, .int d)]) (S1 := [.int c, .int 3, .ref 1]) 6 0 (fun n => rfl) ?_
          refine RP_ast (fun n => rfl) rfl (by decide) ?_
          show RP 60 _ 51 [(8, .int 0), (0, .ref 0), (1, .int 0), (2, .int 0), (3, .int op), (4, .int a), (5, .int b), (6, .int c), (7, .int d)] [] _
          refine RP_step (pc1 := 61) (L1 := [(8, .int 0), (0, .ref 0), (1, .int 0), (2, .int 0), (3, .int op), (4, .int a), (5, .int b), (6, .int c), (7, .int d)]) (S1 := [.int d, .int 4, .ref 1]) 6 0 (fun n => rfl) ?_
          refine RP_ast (fun n => rfl) rfl (by decide) ?_
          show RP 60 _ 62 [(8, .int 0), (0, .ref 0), (1, .int 0), (2, .int 0), (3, .int op), (4, .int a), (5, .int b), (6, .int c), (7, .int d)] [] _
          refine RP_done 6 (fun n => rfl) ?_
          refine Or.inl ⟨rfl, ?_⟩
          show RP 61 _ 53 [(0, .ref 0), (1, .int 0), (2, .int op), (3, .int a), (4, .int b), (5, .int c), (6, .int d)] [] _
          refine RP_done 15 (fun n => rfl) ?_
          exact ⟨rfl, _, rfl⟩
        · obtain rfl : f = 1 := xi_eq e9
          show RP 0 _ 15 [(0, .ref 0), (1, .int 1), (2, .int op), (3, .int a), (4, .int b), (5, .int c), (6, .int d)] [.int 1, .ref 2] _
          refine RP_step (pc1 := 29) (L1 := [(0, .ref 0), (1, .int 1), (2, .int op), (3, .int a), (4, .int b), (5, .int c), (6, .int d)]) (S1 := [.int d, .int c, .int b, .int a, .int op]) 8 0 (fun n => rfl) ?_
          refine RP_call 25 [.int op, .int a, .int b, .int c, .int d] (fun n => rfl) ?_
          refine ⟨_, _, _, e1, Or.inr ⟨1, rfl, ?_⟩⟩
          show RP 0 _ 32 [(0, .ref 0), (1, .int 1), (2, .int op), (3, .int a), (4, .int b), (5, .int c), (6, .int d)] [.int 1] _
          refine RP_step (pc1 := 59) (L1 := [(0, .ref 0), (1, .int 1), (2, .int op), (3, .int a), (4, .int b), (5, .int c), (6, .int d)]) (S1 := [.int d, .int c, .int b, .int a, .int op, .int 0, .int 1, .ref 1]) 14 0 (fun n => rfl) ?_
          refine RP_call 29 [.ref 1, .int 1, .int 0, .int op, .int a, .int b, .int c, .int d] (fun n => rfl) ?_
          show RP 29 _ 0 [(0, .ref 1), (1, .int 1), (2, .int 0), (3, .int op), (4, .int a), (5, .int b), (6, .int c), (7, .int d)] [] _
          refine RP_step (pc1 := 2) (L1 := [(0, .ref 1), (1, .int 1), (2, .int 0), (3, .int op), (4, .int a), (5, .int b), (6, .int c), (7, .int d)]) (S1 := [.int 0, .int 1]) 2 0 (fun n => rfl) ?_
          refine RP_call 26 [.int 1, .int 0] (fun n => rfl) ?_
          show RP 26 _ 0 [(0, .int 1), (1, .int 0)] [] _
          refine RP_done 8 (fun n => rfl) ?_
          refine Or.inr ⟨30, rfl, ?_⟩
          show RP 29 _ 5 [(0, .ref 1), (1, .int 1), (2, .int 0), (3, .int op), (4, .int a), (5, .int b), (6, .int c), (7, .int d)] [.int 30] _
          refine RP_step (pc1 := 14) (L1 := [(8, .int 30), (0, .ref 1), (1, .int 1), (2, .int 0), (3, .int op), (4, .int a), (5, .int b), (6, .int c), (7, .int d)]) (S1 := [.int op, .int 30, .ref 3]) 5 0 (fun n => rfl) ?_
          refine RP_ast (fun n => rfl) rfl (by decide) ?_
          show RP 29 _ 15 [(8, .int 30), (0, .ref 1), (1, .int 1), (2, .int 0), (3, .int op), (4, .int a), (5, .int b), (6, .int c), (7, .int d)] [] _
          refine RP_step (pc1 := 23) (L1 := [(8, .int 30), (0, .ref 1), (1, .int 1), (2, .int 0), (3, .int op), (4, .int a), (5, .int b), (6, .int c), (7, .int d)]) (S1 := [.int a, .int 30, .ref 4]) 4 0 (fun n => rfl) ?_
          refine RP_ast (fun n => rfl) rfl (by decide) ?_
          show RP 29 _ 24 [(8, .int 30), (0, .ref 1), (1, .int 1), (2, .int 0), (3, .int op), (4, .int a), (5, .int b), (6, .int c), (7, .int d)] [] _
          refine RP_step (pc1 := 32) (L1 := [(8, .int 30), (0, .ref 1), (1, .int 1), (2, .int 0), (3, .int op), (4, .int a), (5, .int b), (6, .int c), (7, .int d)]) (S1 := [.int b, .int 30, .ref 5]) 4 0 (fun n => rfl) ?_
          refine RP_ast (fun n => rfl) rfl (by decide) ?_
          show RP 29 _ 33 [(8, .int 30), (0, .ref 1), (1, .int 1), (2, .int 0), (3, .int op), (4, .int a), (5, .int b), (6, .int c), (7, .int d)] [] _
          refine RP_step (pc1 := 41) (L1 := [(8, .int 30), (0, .ref 1), (1, .int 1), (2, .int 0), (3, .int op), (4, .int a), (5, .int b), (6, .int c), (7, .int d)]) (S1 := [.int c, .int 30, .ref 6]) 4 0 (fun n => rfl) ?_
          refine RP_ast (fun n => rfl) rfl (by decide) ?_
          show RP 29 _ 42 [(8, .int 30), (0, .ref 1), (1, .int 1), (2, .int 0), (3, .int op), (4, .int a), (5, .int b), (6, .int c), (7, .int d)] [] _
          refine RP_step (pc1 := 50) (L1 := [(8, .int 30), (0, .ref 1), (1, .int 1), (2, .int 0), (3, .int op), (4, .int a), (5, .int b), (6, .int c), (7, .int d)]) (S1 := [.int d, .int 30, .ref 7]) 4 0 (fun n => rfl) ?_
          refine RP_ast (fun n => rfl) rfl (by decide) ?_
          show RP 29 _ 51 [(8, .int 30), (0, .ref 1), (1, .int 1), (2, .int 0), (3, .int op), (4, .int a), (5, .int b), (6, .int c), (7, .int d)] [] _
          refine RP_done 3 (fun n => rfl) ?_
          refine Or.inl ⟨rfl, ?_⟩
          show RP 0 _ 62 [(0, .ref 0), (1, .int 1), (2, .int op), (3, .int a), (4, .int b), (5, .int c), (6, .int d)] [] _
          refine RP_done 20 (fun n => rfl) ?_
          show RP 61 _ 0 [(0, .ref 0), (1, .int 1), (2, .int op), (3, .int a), (4, .int b), (5, .int c), (6, .int d)] [] _
          refine RP_step (pc1 := 1) (L1 := [(0, .ref 0), (1, .int 1), (2, .int op), (3, .int a), (4, .int b), (5, .int c), (6, .int d)]) (S1 := [.int 1]) 1 0 (fun n => rfl) ?_
          refine RP_call 56 [.int 1] (fun n => rfl) ?_
          show RP 56 _ 0 [(0, .int 1)] [] _
          refine RP_done 15 (fun n => rfl) ?_
          refine Or.inr ⟨1, rfl, ?_⟩
          show RP 61 _ 4 [(0, .ref 0), (1, .int 1), (2, .int op), (3, .int a), (4, .int b), (5, .int c), (6, .int d)] [.int 1] _
          refine RP_step (pc1 := 26) (L1 := [(0, .ref 0), (1, .int 1), (2, .int op), (3, .int a), (4, .int b), (5, .int c), (6, .int d)]) (S1 := [.int d, .int c, .int b, .int a, .int op]) 12 0 (fun n => rfl) ?_
          refine RP_call 59 [.int op, .int a, .int b, .int c, .int d] (fun n => rfl) ?_
          refine ⟨_, _, _, e2, Or.inr ⟨1, rfl, ?_⟩⟩
          show RP 61 _ 29 [(0, .ref 0), (1, .int 1), (2, .int op), (3, .int a), (4, .int b), (5, .int c), (6, .int d)] [.int 1] _
          refine RP_step (pc1 := 50) (L1 := [(0, .ref 0), (1, .int 1), (2, .int op), (3, .int a), (4, .int b), (5, .int c), (6, .int d)]) (S1 := [.int d, .int c, .int b, .int a, .int op, .int 0, .int 1, .ref 0]) 12 0 (fun n => rfl) ?_
          refine RP_call 60 [.ref 0, .int 1, .int 0, .int op, .int a, .int b, .int c, .int d] (fun n => rfl) ?_
          show RP 60 _ 0 [(0, .ref 0), (1, .int 1), (2, .int 0), (3, .int op), (4, .int a), (5, .int b), (6, .int c), (7, .int d)] [] _
          refine RP_step (pc1 := 17) (L1 := [(8, .int 150), (0, .ref 0), (1, .int 1), (2, .int 0), (3, .int op), (4, .int a), (5, .int b), (6, .int c), (7, .int d)]) (S1 := [.int op, .int 150, .ref 1]) 12 0 (fun n => rfl) ?_
          refine RP_ast (fun n => rfl) rfl (by decide) ?_
          show RP 60 _ 18 [(8, .int 150), (0, .ref 0), (1, .int 1), (2, .int 0), (3, .int op), (4, .int a), (5, .int b), (6, .int c), (7, .int d)] [] _
          refine RP_step (pc1 := 28) (L1 := [(8, .int 150), (0, .ref 0), (1, .int 1), (2, .int 0), (3, .int op), (4, .int a), (5, .int b), (6, .int c), (7, .int d)]) (S1 := [.int a, .int 151, .ref 1]) 6 0 (fun n => rfl) ?_
          refine RP_ast (fun n => rfl) rfl (by decide) ?_
          show RP 60 _ 29 [(8, .int 150), (0, .ref 0), (1, .int 1), (2, .int 0), (3, .int op), (4, .int a), (5, .int b), (6, .int c), (7, .int d)] [] _
          refine RP_step (pc1 := 39) (L1 := [(8, .int 150), (0, .ref 0), (1, .int 1), (2, .int 0), (3, .int op), (4, .int a), (5, .int b), (6, .int c), (7, .int d)]) (S1 := [.int b, .int 152, .ref 1]) 6 0 (fun n => rfl) ?_
          refine RP_ast (fun n => rfl) rfl (by decide) ?_
          show RP 60 _ 40 [(8, .int 150), (0, .ref 0), (1, .int 1), (2, .int 0), (3, .int op), (4, .int a), (5, .int b), (6, .int c), (7, .int d)] [] _
          refine RP_step (pc1 := 50) (L1 := [(8, .int 150), (0, .ref 0), (1, .int 1), (2, .int 0), (3, .int op), (4, .int a), (5, .int b), (6, .int c), (7, .int d)]) (S1 := [.int c, .int 153, .ref 1]) 6 0 (fun n => rfl) ?_
          refine RP_ast (fun n => rfl) rfl (by decide) ?_
          show RP 60 _ 51 [(8, .int 150), (0, .ref 0), (1, .int 1), (2, .int 0), (3, .int op), (4, .int a), (5, .int b), (6, .int c), (7, .int d)] [] _
          refine RP_step (pc1 := 61) (L1 := [(8, .int 150), (0, .ref 0), (1, .int 1), (2, .int 0), (3, .int op), (4, .int a), (5, .int b), (6, .int c), (7, .int d)]) (S1 := [.int d, .int 154, .ref 1]) 6 0 (fun n => rfl) ?_
          refine RP_ast (fun n => rfl) rfl (by decide) ?_
          show RP 60 _ 62 [(8, .int 150), (0, .ref 0), (1, .int 1), (2, .int 0), (3, .int op), (4, .int a), (5, .int b), (6, .int c), (7, .int d)] [] _
          refine RP_done 6 (fun n => rfl) ?_
          refine Or.inl ⟨rfl, ?_⟩
          show RP 61 _ 53 [(0, .ref 0), (1, .int 1), (2, .int op), (3, .int a), (4, .int b), (5, .int c), (6, .int d)] [] _
          refine RP_done 15 (fun n => rfl) ?_
          exact ⟨rfl, _, rfl⟩
        · obtain rfl : f = 2 := xi_eq e9
          show RP 0 _ 15 [(0, .ref 0), (1, .int 2), (2, .int op), (3, .int a), (4, .int b), (5, .int c), (6, .int d)] [.int 2, .ref 2] _
          refine RP_step (pc1 := 29) (L1 := [(0, .ref 0), (1, .int 2), (2, .int op), (3, .int a), (4, .int b), (5, .int c), (6, .int d)]) (S1 := [.int d, .int c, .int b, .int a, .int op]) 8 0 (fun n => rfl) ?_
          refine RP_call 25 [.int op, .int a, .int b, .int c, .int d] (fun n => rfl) ?_
          refine ⟨_, _, _, e1, Or.inr ⟨1, rfl, ?_⟩⟩
          show RP 0 _ 32 [(0, .ref 0), (1, .int 2), (2, .int op), (3, .int a), (4, .int b), (5, .int c), (6, .int d)] [.int 1] _
          refine RP_step (pc1 := 59) (L1 := [(0, .ref 0), (1, .int 2), (2, .int op), (3, .int a), (4, .int b), (5, .int c), (6, .int d)]) (S1 := [.int d, .int c, .int b, .int a, .int op, .int 0, .int 2, .ref 1]) 14 0 (fun n => rfl) ?_
          refine RP_call 29 [.ref 1, .int 2, .int 0, .int op, .int a, .int b, .int c, .int d] (fun n => rfl) ?_
          show RP 29 _ 0 [(0, .ref 1), (1, .int 2), (2, .int 0), (3, .int op), (4, .int a), (5, .int b), (6, .int c), (7, .int d)] [] _
          refine RP_step (pc1 := 2) (L1 := [(0, .ref 1), (1, .int 2), (2, .int 0), (3, .int op), (4, .int a), (5, .int b), (6, .int c), (7, .int d)]) (S1 := [.int 0, .int 2]) 2 0 (fun n => rfl) ?_
          refine RP_call 26 [.int 2, .int 0] (fun n => rfl) ?_
          show RP 26 _ 0 [(0, .int 2), (1, .int 0)] [] _
          refine RP_done 8 (fun n => rfl) ?_
          refine Or.inr ⟨60, rfl, ?_⟩
          show RP 29 _ 5 [(0, .ref 1), (1, .int 2), (2, .int 0), (3, .int op), (4, .int a), (5, .int b), (6, .int c), (7, .int d)] [.int 60] _
          refine RP_step (pc1 := 14) (L1 := [(8, .int 60), (0, .ref 1), (1, .int 2), (2, .int 0), (3, .int op), (4, .int a), (5, .int b), (6, .int c), (7, .int d)]) (S1 := [.int op, .int 60, .ref 3]) 5 0 (fun n => rfl) ?_
          refine RP_ast (fun n => rfl) rfl (by decide) ?_
          show RP 29 _ 15 [(8, .int 60), (0, .ref 1), (1, .int 2), (2, .int 0), (3, .int op), (4, .int a), (5, .int b), (6, .int c), (7, .int d)] [] _
          refine RP_step (pc1 := 23) (L1 := [(8, .int 60), (0, .ref 1), (1, .int 2), (2, .int 0), (3, .int op), (4, .int a), (5, .int b), (6, .int c), (7, .int d)]) (S1 := [.int a, .int 60, .ref 4]) 4 0 (fun n => rfl) ?_
          refine RP_ast (fun n => rfl) rfl (by decide) ?_
          show RP 29 _ 24 [(8, .int 60), (0, .ref 1), (1, .int 2), (2, .int 0), (3, .int op), (4, .int a), (5, .int b), (6, .int c), (7, .int d)] [] _
          refine RP_step (pc1 := 32) (L1 := [(8, .int 60), (0, .ref 1), (1, .int 2), (2, .int 0), (3, .int op), (4, .int a), (5, .int b), (6, .int c), (7, .int d)]) (S1 := [.int b, .int 60, .ref 5]) 4 0 (fun n => rfl) ?_
          refine RP_ast (fun n => rfl) rfl (by decide) ?_
          show RP 29 _ 33 [(8, .int 60), (0, .ref 1), (1, .int 2), (2, .int 0), (3, .int op), (4, .int a), (5, .int b), (6, .int c), (7, .int d)] [] _
          refine RP_step (pc1 := 41) (L1 := [(8, .int 60), (0, .ref 1), (1, .int 2), (2, .int 0), (3, .int op), (4, .int a), (5, .int b), (6, .int c), (7, .int d)]) (S1 := [.int c, .int 60, .ref 6]) 4 0 (fun n => rfl) ?_
          refine RP_ast (fun n => rfl) rfl (by decide) ?_
          show RP 29 _ 42 [(8, .int 60), (0, .ref 1), (1, .int 2), (2, .int 0), (3, .int op), (4, .int a), (5, .int b), (6, .int c), (7, .int d)] [] _
          refine RP_step (pc1 := 50) (L1 := [(8, .int 60), (0, .ref 1), (1, .int 2), (2, .int 0), (3, .int op), (4, .int a), (5, .int b), (6, .int c), (7, .int d)]) (S1 := [.int d, .int 60, .ref 7]) 4 0 (fun n => rfl) ?_
          refine RP_ast (fun n => rfl) rfl (by decide) ?_
          show RP 29 _ 51 [(8, .int 60), (0, .ref 1), (1, .int 2), (2, .int 0), (3, .int op), (4, .int a), (5, .int b), (6, .int c), (7, .int d)] [] _
          refine RP_done 3 (fun n => rfl) ?_
          refine Or.inl ⟨rfl, ?_⟩
          show RP 0 _ 62 [(0, .ref 0), (1, .int 2), (2, .int op), (3, .int a), (4, .int b), (5, .int c), (6, .int d)] [] _
          refine RP_done 20 (fun n => rfl) ?_
          show RP 61 _ 0 [(0, .ref 0), (1, .int 2), (2, .int op), (3, .int a), (4, .int b), (5, .int c), (6, .int d)] [] _
          refine RP_step (pc1 := 1) (L1 := [(0, .ref 0), (1, .int 2), (2, .int op), (3, .int a), (4, .int b), (5, .int c), (6, .int d)]) (S1 := [.int 2]) 1 0 (fun n => rfl) ?_
          refine RP_call 56 [.int 2] (fun n => rfl) ?_
          show RP 56 _ 0 [(0, .int 2)] [] _
          refine RP_done 15 (fun n => rfl) ?_
          refine Or.inr ⟨1, rfl, ?_⟩
          show RP 61 _ 4 [(0, .ref 0), (1, .int 2), (2, .int op), (3, .int a), (4, .int b), (5, .int c), (6, .int d)] [.int 1] _
          refine RP_step (pc1 := 26) (L1 := [(0, .ref 0), (1, .int 2), (2, .int op), (3, .int a), (4, .int b), (5, .int c), (6, .int d)]) (S1 := [.int d, .int c, .int b, .int a, .int op]) 12 0 (fun n => rfl) ?_
          refine RP_call 59 [.int op, .int a, .int b, .int c, .int d] (fun n => rfl) ?_
          refine ⟨_, _, _, e2, Or.inr ⟨1, rfl, ?_⟩⟩
          show RP 61 _ 29 [(0, .ref 0), (1, .int 2), (2, .int op), (3, .int a), (4, .int b), (5, .int c), (6, .int d)] [.int 1] _
          refine RP_step (pc1 := 50) (L1 := [(0, .ref 0), (1, .int 2), (2, .int op), (3, .int a), (4, .int b), (5, .int c), (6, .int d)]) (S1 := [.int d, .int c, .int b, .int a, .int op, .int 0, .int 2, .ref 0]) 12 0 (fun n => rfl) ?_
          refine RP_call 60 [.ref 0, .int 2, .int 0, .int op, .int a, .int b, .int c, .int d] (fun n => rfl) ?_
          show RP 60 _ 0 [(0, .ref 0), (1, .int 2), (2, .int 0), (3, .int op), (4, .int a), (5, .int b), (6, .int c), (7, .int d)] [] _
          refine RP_step (pc1 := 17) (L1 := [(8, .int 300), (0, .ref 0), (1, .int 2), (2, .int 0), (3, .int op), (4, .int a), (5, .int b), (6, .int c), (7, .int d)]) (S1 := [.int op, .int 300, .ref 1]) 12 0 (fun n => rfl) ?_
          refine RP_ast (fun n => rfl) rfl (by decide) ?_
          show RP 60 _ 18 [(8, .int 300), (0, .ref 0), (1, .int 2), (2, .int 0), (3, .int op), (4, .int a), (5, .int b), (6, .int c), (7, .int d)] [] _
          refine RP_step (pc1 := 28) (L1 := [(8, .int 300), (0, .ref 0), (1, .int 2), (2, .int 0), (3, .int op), (4, .int a), (5, .int b), (6, .int c), (7, .int d)]) (S1 := [.int a, .int 301, .ref 1]) 6 0 (fun n => rfl) ?_
          refine RP_ast (fun n => rfl) rfl (by decide) ?_
          show RP 60 _ 29 [(8, .int 300), (0, .ref 0), (1, .int 2), (2, .int 0), (3, .int op), (4, .int a), (5, .int b), (6, .int c), (7, .int d)] [] _
          refine RP_step (pc1 := 39) (L1 := [(8, .int 300), (0, .ref 0), (1, .int 2), (2, .int 0), (3, .int op), (4, .int a), (5, .int b), (6, .int c), (7, .int d)]) (S1 := [.int b, .int 302, .ref 1]) 6 0 (fun n => rfl) ?_
          refine RP_ast (fun n => rfl) rfl (by decide) ?_
          show RP 60 _ 40 [(8, .int 300), (0, .ref 0), (1, .int 2), (2, .int 0), (3, .int op), (4, .int a), (5, .int b), (6, .int c), (7, .int d)] [] _
          refine RP_step (pc1 := 50) (L1 := [(8, .int 300), (0, .ref 0), (1, .int 2), (2, .int 0), (3, .int op), (4, .int a), (5, .int b), (6, .int c), (7, .int d)]) (S1 := [.int c, .int 303, .ref 1]) 6 0 (fun n => rfl) ?_
          refine RP_ast (fun n => rfl) rfl (by decide) ?_
          show RP 60 _ 51 [(8, .int 300), (0, .ref 0), (1, .int 2), (2, .int 0), (3, .int op), (4, .int a), (5, .int b), (6, .int c), (7, .int d)] [] _
          refine RP_step (pc1 := 61) (L1 := [(8, .int 300), (0, .ref 0), (1, .int 2), (2, .int 0), (3, .int op), (4, .int a), (5, .int b), (6, .int c), (7, .int d)]) (S1 := [.int d, .int 304, .ref 1]) 6 0 (fun n => rfl) ?_
          refine RP_ast (fun n => rfl) rfl (by decide) ?_
          show RP 60 _ 62 [(8, .int 300), (0, .ref 0), (1, .int 2), (2, .int 0), (3, .int op), (4, .int a), (5, .int b), (6, .int c), (7, .int d)] [] _
          refine RP_done 6 (fun n => rfl) ?_
          refine Or.inl ⟨rfl, ?_⟩
          show RP 61 _ 53 [(0, .ref 0), (1, .int 2), (2, .int op), (3, .int a), (4, .int b), (5, .int c), (6, .int d)] [] _
          refine RP_done 15 (fun n => rfl) ?_
          exact ⟨rfl, _, rfl⟩
        · obtain rfl : f = 3 := xi_eq e9
          show RP 0 _ 15 [(0, .ref 0), (1, .int 3), (2, .int op), (3, .int a), (4, .int b), (5, .int c), (6, .int d)] [.int 3, .ref 2] _
          refine RP_step (pc1 := 29) (L1 := [(0, .ref 0), (1, .int 3), (2, .int op), (3, .int a), (4, .int b), (5, .int c), (6, .int d)]) (S1 := [.int d, .int c, .int b, .int a, .int op]) 8 0 (fun n => rfl) ?_
          refine RP_call 25 [.int op, .int a, .int b, .int c, .int d] (fun n => rfl) ?_
          refine ⟨_, _, _, e1, Or.inr ⟨1, rfl, ?_⟩⟩
          show RP 0 _ 32 [(0, .ref 0), (1, .int 3), (2, .int op), (3, .int a), (4, .int b), (5, .int c), (6, .int d)] [.int 1] _
          refine RP_step (pc1 := 59) (L1 := [(0, .ref 0), (1, .int 3), (2, .int op), (3, .int a), (4, .int b), (5, .int c), (6, .int d)]) (S1 := [.int d, .int c, .int b, .int a, .int op, .int 0, .int 3, .ref 1]) 14 0 (fun n => rfl) ?_
          refine RP_call 29 [.ref 1, .int 3, .int 0, .int op, .int a, .int b, .int c, .int d] (fun n => rfl) ?_
          show RP 29 _ 0 [(0, .ref 1), (1, .int 3), (2, .int 0), (3, .int op), (4, .int a), (5, .int b), (6, .int c), (7, .int d)] [] _
          refine RP_step (pc1 := 2) (L1 := [(0, .ref 1), (1, .int 3), (2, .int 0), (3, .int op), (4, .int a), (5, .int b), (6, .int c), (7, .int d)]) (S1 := [.int 0, .int 3]) 2 0 (fun n => rfl) ?_
          refine RP_call 26 [.int 3, .int 0] (fun n => rfl) ?_
          show RP 26 _ 0 [(0, .int 3), (1, .int 0)] [] _
          refine RP_done 8 (fun n => rfl) ?_
          refine Or.inr ⟨90, rfl, ?_⟩
          show RP 29 _ 5 [(0, .ref 1), (1, .int 3), (2, .int 0), (3, .int op), (4, .int a), (5, .int b), (6, .int c), (7, .int d)] [.int 90] _
          refine RP_step (pc1 := 14) (L1 := [(8, .int 90), (0, .ref 1), (1, .int 3), (2, .int 0), (3, .int op), (4, .int a), (5, .int b), (6, .int c), (7, .int d)]) (S1 := [.int op, .int 90, .ref 3]) 5 0 (fun n => rfl) ?_
          refine RP_ast (fun n => rfl) rfl (by decide) ?_
          show RP 29 _ 15 [(8, .int 90), (0, .ref 1), (1, .int 3), (2, .int 0), (3, .int op), (4, .int a), (5, .int b), (6, .int c), (7, .int d)] [] _
          refine RP_step (pc1 := 23) (L1 := [(8, .int 90), (0, .ref 1), (1, .int 3), (2, .int 0), (3, .int op), (4, .int a), (5, .int b), (6, .int c), (7, .int d)]) (S1 := [.int a, .int 90, .ref 4]) 4 0 (fun n => rfl) ?_
          refine RP_ast (fun n => rfl) rfl (by decide) ?_
          show RP 29 _ 24 [(8, .int 90), (0, .ref 1), (1, .int 3), (2, .int 0), (3, .int op), (4, .int a), (5, .int b), (6, .int c), (7, .int d)] [] _
          refine RP_step (pc1 := 32) (L1 := [(8, .int 90), (0, .ref 1), (1, .int 3), (2, .int 0), (3, .int op), (4, .int a), (5, .int b), (6, .int c), (7, .int d)]) (S1 := [.int b, .int 90, .ref 5]) 4 0 (fun n => rfl) ?_
          refine RP_ast (fun n => rfl) rfl (by decide) ?_
          show RP 29 _ 33 [(8, .int 90), (0, .ref 1), (1, .int 3), (2, .int 0), (3, .int op), (4, .int a), (5, .int b), (6, .int c), (7, .int d)] [] _
          refine RP_step (pc1 := 41) (L1 := [(8, .int 90), (0, .ref 1), (1, .int 3), (2, .int 0), (3, .int op), (4, .int a), (5, .int b), (6, .int c), (7, .int d)]) (S1 := [.int c, .int 90, .ref 6]) 4 0 (fun n => rfl) ?_
          refine RP_ast (fun n => rfl) rfl (by decide) ?_
          show RP 29 _ 42 [(8, .int 90), (0, .ref 1), (1, .int 3), (2, .int 0), (3, .int op), (4, .int a), (5, .int b), (6, .int c), (7, .int d)] [] _
          refine RP_step (pc1 := 50) (L1 := [(8, .int 90), (0, .ref 1), (1, .int 3), (2, .int 0), (3, .int op), (4, .int a), (5, .int b), (6, .int c), (7, .int d)]) (S1 := [.int d, .int 90, .ref 7]) 4 0 (fun n => rfl) ?_
          refine RP_ast (fun n => rfl) rfl (by decide) ?_
          show RP 29 _ 51 [(8, .int 90), (0, .ref 1), (1, .int 3), (2, .int 0), (3, .int op), (4, .int a), (5, .int b), (6, .int c), (7, .int d)] [] _
          refine RP_done 3 (fun n => rfl) ?_
          refine Or.inl ⟨rfl, ?_⟩
          show RP 0 _ 62 [(0, .ref 0), (1, .int 3), (2, .int op), (3, .int a), (4, .int b), (5, .int c), (6, .int d)] [] _
          refine RP_done 20 (fun n => rfl) ?_
          show RP 61 _ 0 [(0, .ref 0), (1, .int 3), (2, .int op), (3, .int a), (4, .int b), (5, .int c), (6, .int d)] [] _
          refine RP_step (pc1 := 1) (L1 := [(0, .ref 0), (1, .int 3), (2, .int op), (3, .int a), (4, .int b), (5, .int c), (6, .int d)]) (S1 := [.int 3]) 1 0 (fun n => rfl) ?_
          refine RP_call 56 [.int 3] (fun n => rfl) ?_
          show RP 56 _ 0 [(0, .int 3)] [] _
          refine RP_done 15 (fun n => rfl) ?_
          refine Or.inr ⟨1, rfl, ?_⟩
          show RP 61 _ 4 [(0, .ref 0), (1, .int 3), (2, .int op), (3, .int a), (4, .int b), (5, .int c), (6, .int d)] [.int 1] _
          refine RP_step (pc1 := 26) (L1 := [(0, .ref 0), (1, .int 3), (2, .int op), (3, .int a), (4, .int b), (5, .int c), (6, .int d)]) (S1 := [.int d, .int c, .int b, .int a, .int op]) 12 0 (fun n => rfl) ?_
          refine RP_call 59 [.int op, .int a, .int b, .int c, .int d] (fun n => rfl) ?_
          refine ⟨_, _, _, e2, Or.inr ⟨1, rfl, ?_⟩⟩
          show RP 61 _ 29 [(0, .ref 0), (1, .int 3), (2, .int op), (3, .int a), (4, .int b), (5, .int c), (6, .int d)] [.int 1] _
          refine RP_step (pc1 := 50) (L1 := [(0, .ref 0), (1, .int 3), (2, .int op), (3, .int a), (4, .int b), (5, .int c), (6, .int d)]) (S1 := [.int d, .int c, .int b, .int a, .int op, .int 0, .int 3, .ref 0]) 12 0 (fun n => rfl) ?_
          refine RP_call 60 [.ref 0, .int 3, .int 0, .int op, .int a, .int b, .int c, .int d] (fun n => rfl) ?_
          show RP 60 _ 0 [(0, .ref 0), (1, .int 3), (2, .int 0), (3, .int op), (4, .int a), (5, .int b), (6, .int c), (7, .int d)] [] _
          refine RP_step (pc1 := 17) (L1 := [(8, .int 450), (0, .ref 0), (1, .int 3), (2, .int 0), (3, .int op), (4, .int a), (5, .int b), (6, .int c), (7, .int d)]) (S1 := [.int op, .int 450, .ref 1]) 12 0 (fun n => rfl) ?_
          refine RP_ast (fun n => rfl) rfl (by decide) ?_
          show RP 60 _ 18 [(8, .int 450), (0, .ref 0), (1, .int 3), (2, .int 0), (3, .int op), (4, .int a), (5, .int b), (6, .int c), (7, .int d)] [] _
          refine RP_step (pc1 := 28) (L1 := [(8, .int 450), (0, .ref 0), (1, .int 3), (2, .int 0), (3, .int op), (4, .int a), (5, .int b), (6, .int c), (7, .int d)]) (S1 := [.int a, .int 451, .ref 1]) 6 0 (fun n => rfl) ?_
          refine RP_ast (fun n => rfl) rfl (by decide) ?_
          show RP 60 _ 29 [(8, .int 450), (0, .ref 0), (1, .int 3), (2, .int 0), (3, .int op), (4, .int a), (5, .int b), (6, .int c), (7, .int d)] [] _
          refine RP_step (pc1 := 39) (L1 := [(8, .int 450), (0, .ref 0), (1, .int 3), (2, .int 0), (3, .int op), (4, .int a), (5, .int b), (6, .int c), (7, .int d)]) (S1 := [.int b, .int 452, .ref 1]) 6 0 (fun n => rfl) ?_
          refine RP_ast (fun n => rfl) rfl (by decide) ?_
          show RP 60 _ 40 [(8, .int 450), (0, .ref 0), (1, .int 3), (2, .int 0), (3, .int op), (4, .int a), (5, .int b), (6, .int c), (7, .int d)] [] _
          refine RP_step (pc1 := 50) (L1 := [(8, .int 450), (0, .ref 0), (1, .int 3), (2, .int 0), (3, .int op), (4, .int a), (5, .int b), (6, .int c), (7, .int d)]) (S1 := [.int c, .int 453, .ref 1]) 6 0 (fun n => rfl) ?_
          refine RP_ast (fun n => rfl) rfl (by decide) ?_
          show RP 60 _ 51 [(8, .int 450), (0, .ref 0), (1, .int 3), (2, .int 0), (3, .int op), (4, .int a), (5, .int b), (6, .int c), (7, .int d)] [] _
          refine RP_step (pc1 := 61) (L1 := [(8, .int 450), (0, .ref 0), (1, .int 3), (2, .int 0), (3, .int op), (4, .int a), (5, .int b), (6, .int c), (7, .int d)]) (S1 := [.int d, .int 454, .ref 1]) 6 0 (fun n => rfl) ?_
          refine RP_ast (fun n => rfl) rfl (by decide) ?_
          show RP 60 _ 62 [(8, .int 450), (0, .ref 0), (1, .int 3), (2, .int 0), (3, .int op), (4, .int a), (5, .int b), (6, .int c), (7, .int d)] [] _
          refine RP_done 6 (fun n => rfl) ?_
          refine Or.inl ⟨rfl, ?_⟩
          show RP 61 _ 53 [(0, .ref 0), (1, .int 3), (2, .int op), (3, .int a), (4, .int b), (5, .int c), (6, .int d)] [] _
          refine RP_done 15 (fun n => rfl) ?_
          exact ⟨rfl, _, rfl⟩
        · obtain rfl : f = 4 := xi_eq e9
          show RP 0 _ 15 [(0, .ref 0), (1, .int 4), (2, .int op), (3, .int a), (4, .int b), (5, .int c), (6, .int d)] [.int 4, .ref 2] _
          refine RP_step (pc1 := 29) (L1 := [(0, .ref 0), (1, .int 4), (2, .int op), (3, .int a), (4, .int b), (5, .int c), (6, .int d)]) (S1 := [.int d, .int c, .int b, .int a, .int op]) 8 0 (fun n => rfl) ?_
          refine RP_call 25 [.int op, .int a, .int b, .int c, .int d] (fun n => rfl) ?_
          refine ⟨_, _, _, e1, Or.inr ⟨1, rfl, ?_⟩⟩
          show RP 0 _ 32 [(0, .ref 0), (1, .int 4), (2, .int op), (3, .int a), (4, .int b), (5, .int c), (6, .int d)] [.int 1] _
          refine RP_step (pc1 := 59) (L1 := [(0, .ref 0), (1, .int 4), (2, .int op), (3, .int a), (4, .int b), (5, .int c), (6, .int d)]) (S1 := [.int d, .int c, .int b, .int a, .int op, .int 0, .int 4, .ref 1]) 14 0 (fun n => rfl) ?_
          refine RP_call 29 [.ref 1, .int 4, .int 0, .int op, .int a, .int b, .int c, .int d] (fun n => rfl) ?_
          show RP 29 _ 0 [(0, .ref 1), (1, .int 4), (2, .int 0), (3, .int op), (4, .int a), (5, .int b), (6, .int c), (7, .int d)] [] _
          refine RP_step (pc1 := 2) (L1 := [(0, .ref 1), (1, .int 4), (2, .int 0), (3, .int op), (4, .int a), (5, .int b), (6, .int c), (7, .int d)]) (S1 := [.int 0, .int 4]) 2 0 (fun n => rfl) ?_
          refine RP_call 26 [.int 4, .int 0] (fun n => rfl) ?_
          show RP 26 _ 0 [(0, .int 4), (1, .int 0)] [] _
          refine RP_done 8 (fun n => rfl) ?_
          refine Or.inr ⟨120, rfl, ?_⟩
          show RP 29 _ 5 [(0, .ref 1), (1, .int 4), (2, .int 0), (3, .int op), (4, .int a), (5, .int b), (6, .int c), (7, .int d)] [.int 120] _
          refine RP_step (pc1 := 14) (L1 := [(8, .int 120), (0, .ref 1), (1, .int 4), (2, .int 0), (3, .int op), (4, .int a), (5, .int b), (6, .int c), (7, .int d)]) (S1 := [.int op, .int 120, .ref 3]) 5 0 (fun n => rfl) ?_
          refine RP_ast (fun n => rfl) rfl (by decide) ?_
          show RP 29 _ 15 [(8, .int 120), (0, .ref 1), (1, .int 4), (2, .int 0), (3, .int op), (4, .int a), (5, .int b), (6, .int c), (7, .int d)] [] _
          refine RP_step (pc1 := 23) (L1 := [(8, .int 120), (0, .ref 1), (1, .int 4), (2, .int 0), (3, .int op), (4, .int a), (5, .int b), (6, .int c), (7, .int d)]) (S1 := [.int a, .int 120, .ref 4]) 4 0 (fun n => rfl) ?_
          refine RP_ast (fun n => rfl) rfl (by decide) ?_
          show RP 29 _ 24 [(8, .int 120), (0, .ref 1), (1, .int 4), (2, .int 0), (3, .int op), (4, .int a), (5, .int b), (6, .int c), (7, .int d)] [] _
          refine RP_step (pc1 := 32) (L1 := [(8, .int 120), (0, .ref 1), (1, .int 4), (2, .int 0), (3, .int op), (4, .int a), (5, .int b), (6, .int c), (7, .int d)]) (S1 := [.int b, .int 120, .ref 5]) 4 0 (fun n => rfl) ?_
          refine RP_ast (fun n => rfl) rfl (by decide) ?_
          show RP 29 _ 33 [(8, .int 120), (0, .ref 1), (1, .int 4), (2, .int 0), (3, .int op), (4, .int a), (5, .int b), (6, .int c), (7, .int d)] [] _
          refine RP_step (pc1 := 41) (L1 := [(8, .int 120), (0, .ref 1), (1, .int 4), (2, .int 0), (3, .int op), (4, .int a), (5, .int b), (6, .int c), (7, .int d)]) (S1 := [.int c, .int 120, .ref 6]) 4 0 (fun n => rfl) ?_
          refine RP_ast (fun n => rfl) rfl (by decide) ?_
          show RP 29 _ 42 [(8, .int 120), (0, .ref 1), (1, .int 4), (2, .int 0), (3, .int op), (4, .int a), (5, .int b), (6, .int c), (7, .int d)] [] _
          refine RP_step (pc1 := 50) (L1 := [(8, .int 120), (0, .ref 1), (1, .int 4), (2, .int 0), (3, .int op), (4, .int a), (5, .int b), (6, .int c), (7, .int d)]) (S1 := [.int d, .int 120, .ref 7]) 4 0 (fun n => rfl) ?_
          refine RP_ast (fun n => rfl) rfl (by decide) ?_
          show RP 29 _ 51 [(8, .int 120), (0, .ref 1), (1, .int 4), (2, .int 0), (3, .int op), (4, .int a), (5, .int b), (6, .int c), (7, .int d)] [] _
          refine RP_done 3 (fun n => rfl) ?_
          refine Or.inl ⟨rfl, ?_⟩
          show RP 0 _ 62 [(0, .ref 0), (1, .int 4), (2, .int op), (3, .int a), (4, .int b), (5, .int c), (6, .int d)] [] _
          refine RP_done 20 (fun n => rfl) ?_
          show RP 61 _ 0 [(0, .ref 0), (1, .int 4), (2, .int op), (3, .int a), (4, .int b), (5, .int c), (6, .int d)] [] _
          refine RP_step (pc1 := 1) (L1 := [(0, .ref 0), (1, .int 4), (2, .int op), (3, .int a), (4, .int b), (5, .int c), (6, .int d)]) (S1 := [.int 4]) 1 0 (fun n => rfl) ?_
          refine RP_call 56 [.int 4] (fun n => rfl) ?_
          show RP 56 _ 0 [(0, .int 4)] [] _
          refine RP_done 15 (fun n => rfl) ?_
          refine Or.inr ⟨1, rfl, ?_⟩
          show RP 61 _ 4 [(0, .ref 0), (1, .int 4), (2, .int op), (3, .int a), (4, .int b), (5, .int c), (6, .int d)] [.int 1] _
          refine RP_step (pc1 := 26) (L1 := [(0, .ref 0), (1, .int 4), (2, .int op), (3, .int a), (4, .int b), (5, .int c), (6, .int d)]) (S1 := [.int d, .int c, .int b, .int a, .int op]) 12 0 (fun n => rfl) ?_
          refine RP_call 59 [.int op, .int a, .int b, .int c, .int d] (fun n => rfl) ?_
          refine ⟨_, _, _, e2, Or.inr ⟨1, rfl, ?_⟩⟩
          show RP 61 _ 29 [(0, .ref 0), (1, .int 4), (2, .int op), (3, .int a), (4, .int b), (5, .int c), (6, .int d)] [.int 1] _
          refine RP_step (pc1 := 50) (L1 := [(0, .ref 0), (1, .int 4), (2, .int op), (3, .int a), (4, .int b), (5, .int c), (6, .int d)]) (S1 := [.int d, .int c, .int b, .int a, .int op, .int 0, .int 4, .ref 0]) 12 0 (fun n => rfl) ?_
          refine RP_call 60 [.ref 0, .int 4, .int 0, .int op, .int a, .int b, .int c, .int d] (fun n => rfl) ?_
          show RP 60 _ 0 [(0, .ref 0), (1, .int 4), (2, .int 0), (3, .int op), (4, .int a), (5, .int b), (6, .int c), (7, .int d)] [] _
          refine RP_step (pc1 := 17) (L1 := [(8, .int 600), (0, .ref 0), (1, .int 4), (2, .int 0), (3, .int op), (4, .int a), (5, .int b), (6, .int c), (7, .int d)]) (S1 := [.int op, .int 600, .ref 1]) 12 0 (fun n => rfl) ?_
          refine RP_ast (fun n => rfl) rfl (by decide) ?_
          show RP 60 _ 18 [(8, .int 600), (0, .ref 0), (1, .int 4), (2, .int 0), (3, .int op), (4, .int a), (5, .int b), (6, .int c), (7, .int d)] [] _
          refine RP_step (pc1 := 28) (L1 := [(8, .int 600), (0, .ref 0), (1, .int 4), (2, .int 0), (3, .int op), (4, .int a), (5, .int b), (6, .int c), (7, .int d)]) (S1 := [.int a, .int 601, .ref 1]) 6 0 (fun n => rfl) ?_
          refine RP_ast (fun n => rfl) rfl (by decide) ?_
          show RP 60 _ 29 [(8, .int 600), (0, .ref 0), (1, .int 4), (2, .int 0), (3, .int op), (4, .int a), (5, .int b), (6, .int c), (7, .int d)] [] _
          refine RP_step (pc1 := 39) (L1 := [(8, .int 600), (0, .ref 0), (1, .int 4), (2, .int 0), (3, .int op), (4, .int a), (5, .int b), (6, .int c), (7, .int d)]) (S1 := [.int b, .int 602, .ref 1]) 6 0 (fun n => rfl) ?_
          refine RP_ast (fun n => rfl) rfl (by decide) ?_
          show RP 60 _ 40 [(8, .int 600), (0, .ref 0), (1, .int 4), (2, .int 0), (3, .int op), (4, .int a), (5, .int b), (6, .int c), (7, .int d)] [] _
          refine RP_step (pc1 := 50) (L1 := [(8, .int 600), (0, .ref 0), (1, .int 4), (2, .int 0), (3, .int op), (4, .int a), (5, .int b), (6, .int c), (7, .int d)]) (S1 := [.int c, .int 603, .ref 1]) 6 0 (fun n => rfl) ?_
          refine RP_ast (fun n => rfl) rfl (by decide) ?_
          show RP 60 _ 51 [(8, .int 600), (0, .ref 0), (1, .int 4), (2, .int 0), (3, .int op), (4, .int a), (5, .int b), (6, .int c), (7, .int d)] [] _
          refine RP_step (pc1 := 61) (L1 := [(8, .int 600), (0, .ref 0), (1, .int 4), (2, .int 0), (3, .int op), (4, .int a), (5, .int b), (6, .int c), (7, .int d)]) (S1 := [.int d, .int 604, .ref 1]) 6 0 (fun n => rfl) ?_
          refine RP_ast (fun n => rfl) rfl (by decide) ?_
          show RP 60 _ 62 [(8, .int 600), (0, .ref 0), (1, .int 4), (2, .int 0), (3, .int op), (4, .int a), (5, .int b), (6, .int c), (7, .int d)] [] _
          refine RP_done 6 (fun n => rfl) ?_
          refine Or.inl ⟨rfl, ?_⟩
          show RP 61 _ 53 [(0, .ref 0), (1, .int 4), (2, .int op), (3, .int a), (4, .int b), (5, .int c), (6, .int d)] [] _
          refine RP_done 15 (fun n => rfl) ?_
          exact ⟨rfl, _, rfl⟩
        · obtain rfl : f = 5 := xi_eq e9
          show RP 0 _ 15 [(0, .ref 0), (1, .int 5), (2, .int op), (3, .int a), (4, .int b), (5, .int c), (6, .int d)] [.int 5, .ref 2] _
          refine RP_step (pc1 := 29) (L1 := [(0, .ref 0), (1, .int 5), (2, .int op), (3, .int a), (4, .int b), (5, .int c), (6, .int d)]) (S1 := [.int d, .int c, .int b, .int a, .int op]) 8 0 (fun n => rfl) ?_
          refine RP_call 25 [.int op, .int a, .int b, .int c, .int d] (fun n => rfl) ?_
          refine ⟨_, _, _, e1, Or.inr ⟨1, rfl, ?_⟩⟩
          show RP 0 _ 32 [(0, .ref 0), (1, .int 5), (2, .int op), (3, .int a), (4, .int b), (5, .int c), (6, .int d)] [.int 1] _
          refine RP_step (pc1 := 59) (L1 := [(0, .ref 0), (1, .int 5), (2, .int op), (3, .int a), (4, .int b), (5, .int c), (6, .int d)]) (S1 := [.int d, .int c, .int b, .int a, .int op, .int 0, .int 5, .ref 1]) 14 0 (fun n => rfl) ?_
          refine RP_call 29 [.ref 1, .int 5, .int 0, .int op, .int a, .int b, .int c, .int d] (fun n => rfl) ?_
          show RP 29 _ 0 [(0, .ref 1), (1, .int 5), (2, .int 0), (3, .int op), (4, .int a), (5, .int b), (6, .int c), (7, .int d)] [] _
          refine RP_step (pc1 := 2) (L1 := [(0, .ref 1), (1, .int 5), (2, .int 0), (3, .int op), (4, .int a), (5, .int b), (6, .int c), (7, .int d)]) (S1 := [.int 0, .int 5]) 2 0 (fun n => rfl) ?_
          refine RP_call 26 [.int 5, .int 0] (fun n => rfl) ?_
          show RP 26 _ 0 [(0, .int 5), (1, .int 0)] [] _
          refine RP_done 8 (fun n => rfl) ?_
          refine Or.inr ⟨150, rfl, ?_⟩
          show RP 29 _ 5 [(0, .ref 1), (1, .int 5), (2, .int 0), (3, .int op), (4, .int a), (5, .int b), (6, .int c), (7, .int d)] [.int 150] _
          refine RP_step (pc1 := 14) (L1 := [(8, .int 150), (0, .ref 1), (1, .int 5), (2, .int 0), (3, .int op), (4, .int a), (5, .int b), (6, .int c), (7, .int d)]) (S1 := [.int op, .int 150, .ref 3]) 5 0 (fun n => rfl) ?_
          refine RP_ast (fun n => rfl) rfl (by decide) ?_
          show RP 29 _ 15 [(8, .int 150), (0, .ref 1), (1, .int 5), (2, .int 0), (3, .int op), (4, .int a), (5, .int b), (6, .int c), (7, .int d)] [] _
          refine RP_step (pc1 := 23) (L1 := [(8, .int 150), (0, .ref 1), (1, .int 5), (2, .int 0), (3, .int op), (4, .int a), (5, .int b), (6, .int c), (7, .int d)]) (S1 := [.int a, .int 150, .ref 4]) 4 0 (fun n => rfl) ?_
          refine RP_ast (fun n => rfl) rfl (by decide) ?_
          show RP 29 _ 24 [(8, .int 150), (0, .ref 1), (1, .int 5), (2, .int 0), (3, .int op), (4, .int a), (5, .int b), (6, .int c), (7, .int d)] [] _
          refine RP_step (pc1 := 32) (L1 := [(8, .int 150), (0, .ref 1), (1, .int 5), (2, .int 0), (3, .int op), (4, .int a), (5, .int b), (6, .int c), (7, .int d)]) (S1 := [.int b, .int 150, .ref 5]) 4 0 (fun n => rfl) ?_
          refine RP_ast (fun n => rfl) rfl (by decide) ?_
          show RP 29 _ 33 [(8, .int 150), (0, .ref 1), (1, .int 5), (2, .int 0), (3, .int op), (4, .int a), (5, .int b), (6, .int c), (7, .int d)] [] _
          refine RP_step (pc1 := 41) (L1 := [(8, .int 150), (0, .ref 1), (1, .int 5), (2, .int 0), (3, .int op), (4, .int a), (5, .int b), (6, .int c), (7, .int d)]) (S1 := [.int c, .int 150, .ref 6]) 4 0 (fun n => rfl) ?_
          refine RP_ast (fun n => rfl) rfl (by decide) ?_
          show RP 29 _ 42 [(8, .int 150), (0, .ref 1), (1, .int 5), (2, .int 0), (3, .int op), (4, .int a), (5, .int b), (6, .int c), (7, .int d)] [] _
          refine RP_step (pc1 := 50) (L1 := [(8, .int 150), (0, .ref 1), (1, .int 5), (2, .int 0), (3, .int op), (4, .int a), (5, .int b), (6, .int c), (7, .int d)]) (S1 := [.int d, .int 150, .ref 7]) 4 0 (fun n => rfl) ?_
          refine RP_ast (fun n => rfl) rfl (by decide) ?_
          show RP 29 _ 51 [(8, .int 150), (0, .ref 1), (1, .int 5), (2, .int 0), (3, .int op), (4, .int a), (5, .int b), (6, .int c), (7, .int d)] [] _
          refine RP_done 3 (fun n => rfl) ?_
          refine Or.inl ⟨rfl, ?_⟩
          show RP 0 _ 62 [(0, .ref 0), (1, .int 5), (2, .int op), (3, .int a), (4, .int b), (5, .int c), (6, .int d)] [] _
          refine RP_done 20 (fun n => rfl) ?_
          show RP 61 _ 0 [(0, .ref 0), (1, .int 5), (2, .int op), (3, .int a), (4, .int b), (5, .int c), (6, .int d)] [] _
          refine RP_step (pc1 := 1) (L1 := [(0, .ref 0), (1, .int 5), (2, .int op), (3, .int a), (4, .int b), (5, .int c), (6, .int d)]) (S1 := [.int 5]) 1 0 (fun n => rfl) ?_
          refine RP_call 56 [.int 5] (fun n => rfl) ?_
          show RP 56 _ 0 [(0, .int 5)] [] _
          refine RP_done 15 (fun n => rfl) ?_
          refine Or.inr ⟨1, rfl, ?_⟩
          show RP 61 _ 4 [(0, .ref 0), (1, .int 5), (2, .int op), (3, .int a), (4, .int b), (5, .int c), (6, .int d)] [.int 1] _
          refine RP_step (pc1 := 26) (L1 := [(0, .ref 0), (1, .int 5), (2, .int op), (3, .int a), (4, .int b), (5, .int c), (6, .int d)]) (S1 := [.int d, .int c, .int b, .int a, .int op]) 12 0 (fun n => rfl) ?_
          refine RP_call 59 [.int op, .int a, .int b, .int c, .int d] (fun n => rfl) ?_
          refine ⟨_, _, _, e2, Or.inr ⟨1, rfl, ?_⟩⟩
          show RP 61 _ 29 [(0, .ref 0), (1, .int 5), (2, .int op), (3, .int a), (4, .int b), (5, .int c), (6, .int d)] [.int 1] _
          refine RP_step (pc1 := 50) (L1 := [(0, .ref 0), (1, .int 5), (2, .int op), (3, .int a), (4, .int b), (5, .int c), (6, .int d)]) (S1 := [.int d, .int c, .int b, .int a, .int op, .int 0, .int 5, .ref 0]) 12 0 (fun n => rfl) ?_
          refine RP_call 60 [.ref 0, .int 5, .int 0, .int op, .int a, .int b, .int c, .int d] (fun n => rfl) ?_
          show RP 60 _ 0 [(0, .ref 0), (1, .int 5), (2, .int 0), (3, .int op), (4, .int a), (5, .int b), (6, .int c), (7, .int d)] [] _
          refine RP_step (pc1 := 17) (L1 := [(8, .int 750), (0, .ref 0), (1, .int 5), (2, .int 0), (3, .int op), (4, .int a), (5, .int b), (6, .int c), (7, .int d)]) (S1 := [.int op, .int 750, .ref 1]) 12 0 (fun n => rfl) ?_
          refine RP_ast (fun n => rfl) rfl (by decide) ?_
          show RP 60 _ 18 [(8, .int 750), (0, .ref 0), (1, .int 5), (2, .int 0), (3, .int op), (4, .int a), (5, .int b), (6, .int c), (7, .int d)] [] _
          refine RP_step (pc1 := 28) (L1 := [(8, .int 750), (0, .ref 0), (1, .int 5), (2, .int 0), (3, .int op), (4, .int a), (5, .int b), (6, .int c), (7, .int d)]) (S1 := [.int a, .int 751, .ref 1]) 6 0 (fun n => rfl) ?_
          refine RP_ast (fun n => rfl) rfl (by decide) ?_
          show RP 60 _ 29 [(8, .int 750), (0, .ref 0), (1, .int 5), (2, .int 0), (3, .int op), (4, .int a), (5, .int b), (6, .int c), (7, .int d)] [] _
          refine RP_step (pc1 := 39) (L1 := [(8, .int 750), (0, .ref 0), (1, .int 5), (2, .int 0), (3, .int op), (4, .int a), (5, .int b), (6, .int c), (7, .int d)]) (S1 := [.int b, .int 752, .ref 1]) 6 0 (fun n => rfl) ?_
          refine RP_ast (fun n => rfl) rfl (by decide) ?_
          show RP 60 _ 40 [(8, .int 750), (0, .ref 0), (1, .int 5), (2, .int 0), (3, .int op), (4, .int a), (5, .int b), (6, .int c), (7, .int d)] [] _
          refine RP_step (pc1 := 50) (L1 := [(8, .int 750), (0, .ref 0), (1, .int 5), (2, .int 0), (3, .int op), (4, .int a), (5, .int b), (6, .int c), (7, .int d)]) (S1 := [.int c, .int 753, .ref 1]) 6 0 (fun n => rfl) ?_
          refine RP_ast (fun n => rfl) rfl (by decide) ?_
          show RP 60 _ 51 [(8, .int 750), (0, .ref 0), (1, .int 5), (2, .int 0), (3, .int op), (4, .int a), (5, .int b), (6, .int c), (7, .int d)] [] _
          refine RP_step (pc1 := 61) (L1 := [(8, .int 750), (0, .ref 0), (1, .int 5), (2, .int 0), (3, .int op), (4, .int a), (5, .int b), (6, .int c), (7, .int d)]) (S1 := [.int d, .int 754, .ref 1]) 6 0 (fun n => rfl) ?_
          refine RP_ast (fun n => rfl) rfl (by decide) ?_
          show RP 60 _ 62 [(8, .int 750), (0, .ref 0), (1, .int 5), (2, .int 0), (3, .int op), (4, .int a), (5, .int b), (6, .int c), (7, .int d)] [] _
          refine RP_done 6 (fun n => rfl) ?_
          refine Or.inl ⟨rfl, ?_⟩
          show RP 61 _ 53 [(0, .ref 0), (1, .int 5), (2, .int op), (3, .int a), (4, .int b), (5, .int c), (6, .int d)] [] _
          refine RP_done 15 (fun n => rfl) ?_
          exact ⟨rfl, _, rfl⟩

set_option maxHeartbeats 8000000 in
set_option maxRecDepth 1000000 in
theorem sm_1 (f i op a b c d : Int32) : Same 1 62 [.int f, .int i, .int op, .int a, .int b, .int c, .int d] := by
  refine Same_of ?_
  show RP 1 _ 0 [(0, .ref 0), (1, .int f), (2, .int i), (3, .int op), (4, .int a), (5, .int b), (6, .int c), (7, .int d)] [] _
  refine RP_step (pc1 := 6) (L1 := [(0, .ref 0), (1, .int f), (2, .int i), (3, .int op), (4, .int a), (5, .int b), (6, .int c), (7, .int d)]) (S1 := [.int i, .int f, .ref 1]) 4 0 (fun n => rfl) ?_
  refine RP_call 28 [.ref 1, .int f, .int i] (fun n => rfl) ?_
  show RP 28 _ 0 [(0, .ref 1), (1, .int f), (2, .int i)] [] _
  refine RP_step (pc1 := 1) (L1 := [(0, .ref 1), (1, .int f), (2, .int i)]) (S1 := [.int f]) 1 0 (fun n => rfl) ?_
  refine RP_call 22 [.int f] (fun n => rfl) ?_
  show RP 22 _ 0 [(0, .int f)] [] _
  refine RP_step (pc1 := 1) (L1 := [(0, .int f)]) (S1 := [.int f]) 1 0 (fun n => rfl) ?_
  refine RP_cond (decide (f < 0)) (fun n => rfl) (fun hh => ?_) (fun hh => ?_)
  · have h1 := of_decide_eq_true hh
    have h2 : f.toInt < 0 := xj_lt h1
    show RP 22 _ 14 [(0, .int f)] [] _
    refine RP_done 4 (fun n => rfl) ?_
    refine Or.inr ⟨0, rfl, ?_⟩
    show RP 28 _ 4 [(0, .ref 1), (1, .int f), (2, .int i)] [.int 0] _
    refine RP_done 5 (fun n => rfl) ?_
    refine Or.inr ⟨0, rfl, ?_⟩
    show RP 1 _ 9 [(0, .ref 0), (1, .int f), (2, .int i), (3, .int op), (4, .int a), (5, .int b), (6, .int c), (7, .int d)] [.int 0] _
    refine RP_done 5 (fun n => rfl) ?_
    show RP 62 _ 0 [(0, .ref 0), (1, .int f), (2, .int i), (3, .int op), (4, .int a), (5, .int b), (6, .int c), (7, .int d)] [] _
    refine RP_step (pc1 := 1) (L1 := [(0, .ref 0), (1, .int f), (2, .int i), (3, .int op), (4, .int a), (5, .int b), (6, .int c), (7, .int d)]) (S1 := [.int f]) 1 0 (fun n => rfl) ?_
    refine RP_call 56 [.int f] (fun n => rfl) ?_
    show RP 56 _ 0 [(0, .int f)] [] _
    refine RP_step (pc1 := 3) (L1 := [(0, .int f)]) (S1 := [.int 5, .int 0, .int f]) 3 0 (fun n => rfl) ?_
    refine RP_call 55 [.int f, .int 0, .int 5] (fun n => rfl) ?_
    show RP 55 _ 0 [(0, .int f), (1, .int 0), (2, .int 5)] [] _
    refine RP_step (pc1 := 2) (L1 := [(0, .int f), (1, .int 0), (2, .int 5)]) (S1 := [.int 0, .int f]) 2 0 (fun n => rfl) ?_
    refine RP_cond (decide (f < 0)) (fun n => rfl) (fun _ => ?_) (fun h => absurd (xi_lt (x := f) (y := 0) (show f.toInt < 0 by omega)) (of_decide_eq_false h))
    show RP 55 _ 14 [(0, .int f), (1, .int 0), (2, .int 5)] [] _
    refine RP_done 4 (fun n => rfl) ?_
    refine Or.inr ⟨0, rfl, ?_⟩
    show RP 56 _ 6 [(0, .int f)] [.int 0] _
    refine RP_done 3 (fun n => rfl) ?_
    refine Or.inr ⟨0, rfl, ?_⟩
    show RP 62 _ 4 [(0, .ref 0), (1, .int f), (2, .int i), (3, .int op), (4, .int a), (5, .int b), (6, .int c), (7, .int d)] [.int 0] _
    refine RP_done 5 (fun n => rfl) ?_
    exact ⟨rfl, _, rfl⟩
  · have h3 := of_decide_eq_false hh
    have h4 : 0 ≤ f.toInt := xj_nlt h3
    show RP 22 _ 4 [(0, .int f)] [] _
    refine RP_step (pc1 := 7) (L1 := [(0, .int f)]) (S1 := [.int 6, .int f]) 2 0 (fun n => rfl) ?_
    refine RP_cond (decide (6 ≤ f)) (fun n => rfl) (fun hh => ?_) (fun hh => ?_)
    · have h5 := of_decide_eq_true hh
      have h6 : 6 ≤ f.toInt := xj_le h5
      show RP 22 _ 14 [(0, .int f)] [] _
      refine RP_done 4 (fun n => rfl) ?_
      refine Or.inr ⟨0, rfl, ?_⟩
      show RP 28 _ 4 [(0, .ref 1), (1, .int f), (2, .int i)] [.int 0] _
      refine RP_done 5 (fun n => rfl) ?_
      refine Or.inr ⟨0, rfl, ?_⟩
      show RP 1 _ 9 [(0, .ref 0), (1, .int f), (2, .int i), (3, .int op), (4, .int a), (5, .int b), (6, .int c), (7, .int d)] [.int 0] _
      refine RP_done 5 (fun n => rfl) ?_
      show RP 62 _ 0 [(0, .ref 0), (1, .int f), (2, .int i), (3, .int op), (4, .int a), (5, .int b), (6, .int c), (7, .int d)] [] _
      refine RP_step (pc1 := 1) (L1 := [(0, .ref 0), (1, .int f), (2, .int i), (3, .int op), (4, .int a), (5, .int b), (6, .int c), (7, .int d)]) (S1 := [.int f]) 1 0 (fun n => rfl) ?_
      refine RP_call 56 [.int f] (fun n => rfl) ?_
      show RP 56 _ 0 [(0, .int f)] [] _
      refine RP_step (pc1 := 3) (L1 := [(0, .int f)]) (S1 := [.int 5, .int 0, .int f]) 3 0 (fun n => rfl) ?_
      refine RP_call 55 [.int f, .int 0, .int 5] (fun n => rfl) ?_
      show RP 55 _ 0 [(0, .int f), (1, .int 0), (2, .int 5)] [] _
      refine RP_step (pc1 := 2) (L1 := [(0, .int f), (1, .int 0), (2, .int 5)]) (S1 := [.int 0, .int f]) 2 0 (fun n => rfl) ?_
      refine RP_cond (decide (f < 0)) (fun n => rfl) (fun h => absurd (of_decide_eq_true h) (xi_nlt (x := f) (y := 0) (show 0 ≤ f.toInt by omega))) (fun _ => ?_)
      show RP 55 _ 5 [(0, .int f), (1, .int 0), (2, .int 5)] [] _
      refine RP_step (pc1 := 7) (L1 := [(0, .int f), (1, .int 0), (2, .int 5)]) (S1 := [.int 5, .int f]) 2 0 (fun n => rfl) ?_
      refine RP_cond (decide (5 < f)) (fun n => rfl) (fun _ => ?_) (fun h => absurd (xi_lt (x := 5) (y := f) (show 5 < f.toInt by omega)) (of_decide_eq_false h))
      show RP 55 _ 14 [(0, .int f), (1, .int 0), (2, .int 5)] [] _
      refine RP_done 4 (fun n => rfl) ?_
      refine Or.inr ⟨0, rfl, ?_⟩
      show RP 56 _ 6 [(0, .int f)] [.int 0] _
      refine RP_done 3 (fun n => rfl) ?_
      refine Or.inr ⟨0, rfl, ?_⟩
      show RP 62 _ 4 [(0, .ref 0), (1, .int f), (2, .int i), (3, .int op), (4, .int a), (5, .int b), (6, .int c), (7, .int d)] [.int 0] _
      refine RP_done 5 (fun n => rfl) ?_
      exact ⟨rfl, _, rfl⟩
    · have h7 := of_decide_eq_false hh
      have h8 : f.toInt < 6 := xj_nle h7
      show RP 22 _ 10 [(0, .int f)] [] _
      refine RP_done 5 (fun n => rfl) ?_
      refine Or.inr ⟨1, rfl, ?_⟩
      show RP 28 _ 4 [(0, .ref 1), (1, .int f), (2, .int i)] [.int 1] _
      refine RP_step (pc1 := 8) (L1 := [(0, .ref 1), (1, .int f), (2, .int i)]) (S1 := [.int i]) 2 0 (fun n => rfl) ?_
      refine RP_cond (decide (i < 0)) (fun n => rfl) (fun hh => ?_) (fun hh => ?_)
      · have h9 := of_decide_eq_true hh
        have h10 : i.toInt < 0 := xj_lt h9
        show RP 28 _ 25 [(0, .ref 1), (1, .int f), (2, .int i)] [] _
        refine RP_done 4 (fun n => rfl) ?_
        refine Or.inr ⟨0, rfl, ?_⟩
        show RP 1 _ 9 [(0, .ref 0), (1, .int f), (2, .int i), (3, .int op), (4, .int a), (5, .int b), (6, .int c), (7, .int d)] [.int 0] _
        refine RP_done 5 (fun n => rfl) ?_
        show RP 62 _ 0 [(0, .ref 0), (1, .int f), (2, .int i), (3, .int op), (4, .int a), (5, .int b), (6, .int c), (7, .int d)] [] _
        refine RP_step (pc1 := 1) (L1 := [(0, .ref 0), (1, .int f), (2, .int i), (3, .int op), (4, .int a), (5, .int b), (6, .int c), (7, .int d)]) (S1 := [.int f]) 1 0 (fun n => rfl) ?_
        refine RP_call 56 [.int f] (fun n => rfl) ?_
        show RP 56 _ 0 [(0, .int f)] [] _
        refine RP_step (pc1 := 3) (L1 := [(0, .int f)]) (S1 := [.int 5, .int 0, .int f]) 3 0 (fun n => rfl) ?_
        refine RP_call 55 [.int f, .int 0, .int 5] (fun n => rfl) ?_
        show RP 55 _ 0 [(0, .int f), (1, .int 0), (2, .int 5)] [] _
        refine RP_step (pc1 := 2) (L1 := [(0, .int f), (1, .int 0), (2, .int 5)]) (S1 := [.int 0, .int f]) 2 0 (fun n => rfl) ?_
        refine RP_cond (decide (f < 0)) (fun n => rfl) (fun h => absurd (of_decide_eq_true h) (xi_nlt (x := f) (y := 0) (show 0 ≤ f.toInt by omega))) (fun _ => ?_)
        show RP 55 _ 5 [(0, .int f), (1, .int 0), (2, .int 5)] [] _
        refine RP_step (pc1 := 7) (L1 := [(0, .int f), (1, .int 0), (2, .int 5)]) (S1 := [.int 5, .int f]) 2 0 (fun n => rfl) ?_
        refine RP_cond (decide (5 < f)) (fun n => rfl) (fun h => absurd (of_decide_eq_true h) (xi_nlt (x := 5) (y := f) (show f.toInt ≤ 5 by omega))) (fun _ => ?_)
        show RP 55 _ 10 [(0, .int f), (1, .int 0), (2, .int 5)] [] _
        refine RP_done 5 (fun n => rfl) ?_
        refine Or.inr ⟨1, rfl, ?_⟩
        show RP 56 _ 6 [(0, .int f)] [.int 1] _
        refine RP_done 3 (fun n => rfl) ?_
        refine Or.inr ⟨1, rfl, ?_⟩
        show RP 62 _ 4 [(0, .ref 0), (1, .int f), (2, .int i), (3, .int op), (4, .int a), (5, .int b), (6, .int c), (7, .int d)] [.int 1] _
        refine RP_step (pc1 := 14) (L1 := [(0, .ref 0), (1, .int f), (2, .int i), (3, .int op), (4, .int a), (5, .int b), (6, .int c), (7, .int d)]) (S1 := [.int f, .ref 2, .int 0, .int i]) 6 0 (fun n => rfl) ?_
        rcases (show f.toInt = 0 ∨ f.toInt = 1 ∨ f.toInt = 2 ∨ f.toInt = 3 ∨ f.toInt = 4 ∨ f.toInt = 5 by omega) with e9 | e9 | e9 | e9 | e9 | e9
        · obtain rfl : f = 0 := xi_eq e9
          show RP 62 _ 14 [(0, .ref 0), (1, .int 0), (2, .int i), (3, .int op), (4, .int a), (5, .int b), (6, .int c), (7, .int d)] [.int 0, .ref 2, .int 0, .int i] _
          refine RP_step (pc1 := 17) (L1 := [(0, .ref 0), (1, .int 0), (2, .int i), (3, .int op), (4, .int a), (5, .int b), (6, .int c), (7, .int d)]) (S1 := [.int (-1), .int 0, .int i]) 3 0 (fun n => rfl) ?_
          refine RP_call 55 [.int i, .int 0, .int (-1)] (fun n => rfl) ?_
          show RP 55 _ 0 [(0, .int i), (1, .int 0), (2, .int (-1))] [] _
          refine RP_step (pc1 := 2) (L1 := [(0, .int i), (1, .int 0), (2, .int (-1))]) (S1 := [.int 0, .int i]) 2 0 (fun n => rfl) ?_
          refine RP_cond (decide (i < 0)) (fun n => rfl) (fun _ => ?_) (fun h => absurd (xi_lt (x := i) (y := 0) (show i.toInt < 0 by omega)) (of_decide_eq_false h))
          show RP 55 _ 14 [(0, .int i), (1, .int 0), (2, .int (-1))] [] _
          refine RP_done 4 (fun n => rfl) ?_
          refine Or.inr ⟨0, rfl, ?_⟩
          show RP 62 _ 20 [(0, .ref 0), (1, .int 0), (2, .int i), (3, .int op), (4, .int a), (5, .int b), (6, .int c), (7, .int d)] [.int 0] _
          refine RP_done 5 (fun n => rfl) ?_
          exact ⟨rfl, _, rfl⟩
        · obtain rfl : f = 1 := xi_eq e9
          show RP 62 _ 14 [(0, .ref 0), (1, .int 1), (2, .int i), (3, .int op), (4, .int a), (5, .int b), (6, .int c), (7, .int d)] [.int 1, .ref 2, .int 0, .int i] _
          refine RP_step (pc1 := 17) (L1 := [(0, .ref 0), (1, .int 1), (2, .int i), (3, .int op), (4, .int a), (5, .int b), (6, .int c), (7, .int d)]) (S1 := [.int (-1), .int 0, .int i]) 3 0 (fun n => rfl) ?_
          refine RP_call 55 [.int i, .int 0, .int (-1)] (fun n => rfl) ?_
          show RP 55 _ 0 [(0, .int i), (1, .int 0), (2, .int (-1))] [] _
          refine RP_step (pc1 := 2) (L1 := [(0, .int i), (1, .int 0), (2, .int (-1))]) (S1 := [.int 0, .int i]) 2 0 (fun n => rfl) ?_
          refine RP_cond (decide (i < 0)) (fun n => rfl) (fun _ => ?_) (fun h => absurd (xi_lt (x := i) (y := 0) (show i.toInt < 0 by omega)) (of_decide_eq_false h))
          show RP 55 _ 14 [(0, .int i), (1, .int 0), (2, .int (-1))] [] _
          refine RP_done 4 (fun n => rfl) ?_
          refine Or.inr ⟨0, rfl, ?_⟩
          show RP 62 _ 20 [(0, .ref 0), (1, .int 1), (2, .int i), (3, .int op), (4, .int a), (5, .int b), (6, .int c), (7, .int d)] [.int 0] _
          refine RP_done 5 (fun n => rfl) ?_
          exact ⟨rfl, _, rfl⟩
        · obtain rfl : f = 2 := xi_eq e9
          show RP 62 _ 14 [(0, .ref 0), (1, .int 2), (2, .int i), (3, .int op), (4, .int a), (5, .int b), (6, .int c), (7, .int d)] [.int 2, .ref 2, .int 0, .int i] _
          refine RP_step (pc1 := 17) (L1 := [(0, .ref 0), (1, .int 2), (2, .int i), (3, .int op), (4, .int a), (5, .int b), (6, .int c), (7, .int d)]) (S1 := [.int (-1), .int 0, .int i]) 3 0 (fun n => rfl) ?_
          refine RP_call 55 [.int i, .int 0, .int (-1)] (fun n => rfl) ?_
          show RP 55 _ 0 [(0, .int i), (1, .int 0), (2, .int (-1))] [] _
          refine RP_step (pc1 := 2) (L1 := [(0, .int i), (1, .int 0), (2, .int (-1))]) (S1 := [.int 0, .int i]) 2 0 (fun n => rfl) ?_
          refine RP_cond (decide (i < 0)) (fun n => rfl) (fun _ => ?_) (fun h => absurd (xi_lt (x := i) (y := 0) (show i.toInt < 0 by omega)) (of_decide_eq_false h))
          show RP 55 _ 14 [(0, .int i), (1, .int 0), (2, .int (-1))] [] _
          refine RP_done 4 (fun n => rfl) ?_
          refine Or.inr ⟨0, rfl, ?_⟩
          show RP 62 _ 20 [(0, .ref 0), (1, .int 2), (2, .int i), (3, .int op), (4, .int a), (5, .int b), (6, .int c), (7, .int d)] [.int 0] _
          refine RP_done 5 (fun n => rfl) ?_
          exact ⟨rfl, _, rfl⟩
        · obtain rfl : f = 3 := xi_eq e9
          show RP 62 _ 14 [(0, .ref 0), (1, .int 3), (2, .int i), (3, .int op), (4, .int a), (5, .int b), (6, .int c), (7, .int d)] [.int 3, .ref 2, .int 0, .int i] _
          refine RP_step (pc1 := 17) (L1 := [(0, .ref 0), (1, .int 3), (2, .int i), (3, .int op), (4, .int a), (5, .int b), (6, .int c), (7, .int d)]) (S1 := [.int (-1), .int 0, .int i]) 3 0 (fun n => rfl) ?_
          refine RP_call 55 [.int i, .int 0, .int (-1)] (fun n => rfl) ?_
          show RP 55 _ 0 [(0, .int i), (1, .int 0), (2, .int (-1))] [] _
          refine RP_step (pc1 := 2) (L1 := [(0, .int i), (1, .int 0), (2, .int (-1))]) (S1 := [.int 0, .int i]) 2 0 (fun n => rfl) ?_
          refine RP_cond (decide (i < 0)) (fun n => rfl) (fun _ => ?_) (fun h => absurd (xi_lt (x := i) (y := 0) (show i.toInt < 0 by omega)) (of_decide_eq_false h))
          show RP 55 _ 14 [(0, .int i), (1, .int 0), (2, .int (-1))] [] _
          refine RP_done 4 (fun n => rfl) ?_
          refine Or.inr ⟨0, rfl, ?_⟩
          show RP 62 _ 20 [(0, .ref 0), (1, .int 3), (2, .int i), (3, .int op), (4, .int a), (5, .int b), (6, .int c), (7, .int d)] [.int 0] _
          refine RP_done 5 (fun n => rfl) ?_
          exact ⟨rfl, _, rfl⟩
        · obtain rfl : f = 4 := xi_eq e9
          show RP 62 _ 14 [(0, .ref 0), (1, .int 4), (2, .int i), (3, .int op), (4, .int a), (5, .int b), (6, .int c), (7, .int d)] [.int 4, .ref 2, .int 0, .int i] _
          refine RP_step (pc1 := 17) (L1 := [(0, .ref 0), (1, .int 4), (2, .int i), (3, .int op), (4, .int a), (5, .int b), (6, .int c), (7, .int d)]) (S1 := [.int (-1), .int 0, .int i]) 3 0 (fun n => rfl) ?_
          refine RP_call 55 [.int i, .int 0, .int (-1)] (fun n => rfl) ?_
          show RP 55 _ 0 [(0, .int i), (1, .int 0), (2, .int (-1))] [] _
          refine RP_step (pc1 := 2) (L1 := [(0, .int i), (1, .int 0), (2, .int (-1))]) (S1 := [.int 0, .int i]) 2 0 (fun n => rfl) ?_
          refine RP_cond (decide (i < 0)) (fun n => rfl) (fun _ => ?_) (fun h => absurd (xi_lt (x := i) (y := 0) (show i.toInt < 0 by omega)) (of_decide_eq_false h))
          show RP 55 _ 14 [(0, .int i), (1, .int 0), (2, .int (-1))] [] _
          refine RP_done 4 (fun n => rfl) ?_
          refine Or.inr ⟨0, rfl, ?_⟩
          show RP 62 _ 20 [(0, .ref 0), (1, .int 4), (2, .int i), (3, .int op), (4, .int a), (5, .int b), (6, .int c), (7, .int d)] [.int 0] _
          refine RP_done 5 (fun n => rfl) ?_
          exact ⟨rfl, _, rfl⟩
        · obtain rfl : f = 5 := xi_eq e9
          show RP 62 _ 14 [(0, .ref 0), (1, .int 5), (2, .int i), (3, .int op), (4, .int a), (5, .int b), (6, .int c), (7, .int d)] [.int 5, .ref 2, .int 0, .int i] _
          refine RP_step (pc1 := 17) (L1 := [(0, .ref 0), (1, .int 5), (2, .int i), (3, .int op), (4, .int a), (5, .int b), (6, .int c), (7, .int d)]) (S1 := [.int (-1), .int 0, .int i]) 3 0 (fun n => rfl) ?_
          refine RP_call 55 [.int i, .int 0, .int (-1)] (fun n => rfl) ?_
          show RP 55 _ 0 [(0, .int i), (1, .int 0), (2, .int (-1))] [] _
          refine RP_step (pc1 := 2) (L1 := [(0, .int i), (1, .int 0), (2, .int (-1))]) (S1 := [.int 0, .int i]) 2 0 (fun n => rfl) ?_
          refine RP_cond (decide (i < 0)) (fun n => rfl) (fun _ => ?_) (fun h => absurd (xi_lt (x := i) (y := 0) (show i.toInt < 0 by omega)) (of_decide_eq_false h))
          show RP 55 _ 14 [(0, .int i), (1, .int 0), (2, .int (-1))] [] _
          refine RP_done 4 (fun n => rfl) ?_
          refine Or.inr ⟨0, rfl, ?_⟩
          show RP 62 _ 20 [(0, .ref 0), (1, .int 5), (2, .int i), (3, .int op), (4, .int a), (5, .int b), (6, .int c), (7, .int d)] [.int 0] _
          refine RP_done 5 (fun n => rfl) ?_
          exact ⟨rfl, _, rfl⟩
      · have h11 := of_decide_eq_false hh
        have h12 : 0 ≤ i.toInt := xj_nlt h11
        show RP 28 _ 11 [(0, .ref 1), (1, .int f), (2, .int i)] [] _
        refine RP_step (pc1 := 17) (L1 := [(0, .ref 1), (1, .int f), (2, .int i)]) (S1 := [.int f, .ref 2, .int i]) 4 0 (fun n => rfl) ?_
        rcases (show f.toInt = 0 ∨ f.toInt = 1 ∨ f.toInt = 2 ∨ f.toInt = 3 ∨ f.toInt = 4 ∨ f.toInt = 5 by omega) with e9 | e9 | e9 | e9 | e9 | e9
        · obtain rfl : f = 0 := xi_eq e9
          show RP 28 _ 17 [(0, .ref 1), (1, .int 0), (2, .int i)] [.int 0, .ref 2, .int i] _
          refine RP_step (pc1 := 18) (L1 := [(0, .ref 1), (1, .int 0), (2, .int i)]) (S1 := [.int 0, .int i]) 1 0 (fun n => rfl) ?_
          refine RP_cond (decide (0 ≤ i)) (fun n => rfl) (fun _ => ?_) (fun h => absurd (xi_le (x := 0) (y := i) (show 0 ≤ i.toInt by omega)) (of_decide_eq_false h))
          show RP 28 _ 25 [(0, .ref 1), (1, .int 0), (2, .int i)] [] _
          refine RP_done 4 (fun n => rfl) ?_
          refine Or.inr ⟨0, rfl, ?_⟩
          show RP 1 _ 9 [(0, .ref 0), (1, .int 0), (2, .int i), (3, .int op), (4, .int a), (5, .int b), (6, .int c), (7, .int d)] [.int 0] _
          refine RP_done 5 (fun n => rfl) ?_
          show RP 62 _ 0 [(0, .ref 0), (1, .int 0), (2, .int i), (3, .int op), (4, .int a), (5, .int b), (6, .int c), (7, .int d)] [] _
          refine RP_step (pc1 := 1) (L1 := [(0, .ref 0), (1, .int 0), (2, .int i), (3, .int op), (4, .int a), (5, .int b), (6, .int c), (7, .int d)]) (S1 := [.int 0]) 1 0 (fun n => rfl) ?_
          refine RP_call 56 [.int 0] (fun n => rfl) ?_
          show RP 56 _ 0 [(0, .int 0)] [] _
          refine RP_done 15 (fun n => rfl) ?_
          refine Or.inr ⟨1, rfl, ?_⟩
          show RP 62 _ 4 [(0, .ref 0), (1, .int 0), (2, .int i), (3, .int op), (4, .int a), (5, .int b), (6, .int c), (7, .int d)] [.int 1] _
          refine RP_step (pc1 := 17) (L1 := [(0, .ref 0), (1, .int 0), (2, .int i), (3, .int op), (4, .int a), (5, .int b), (6, .int c), (7, .int d)]) (S1 := [.int (-1), .int 0, .int i]) 9 0 (fun n => rfl) ?_
          refine RP_call 55 [.int i, .int 0, .int (-1)] (fun n => rfl) ?_
          show RP 55 _ 0 [(0, .int i), (1, .int 0), (2, .int (-1))] [] _
          refine RP_step (pc1 := 2) (L1 := [(0, .int i), (1, .int 0), (2, .int (-1))]) (S1 := [.int 0, .int i]) 2 0 (fun n => rfl) ?_
          refine RP_cond (decide (i < 0)) (fun n => rfl) (fun h => absurd (of_decide_eq_true h) (xi_nlt (x := i) (y := 0) (show 0 ≤ i.toInt by omega))) (fun _ => ?_)
          show RP 55 _ 5 [(0, .int i), (1, .int 0), (2, .int (-1))] [] _
          refine RP_step (pc1 := 7) (L1 := [(0, .int i), (1, .int 0), (2, .int (-1))]) (S1 := [.int (-1), .int i]) 2 0 (fun n => rfl) ?_
          refine RP_cond (decide ((-1) < i)) (fun n => rfl) (fun _ => ?_) (fun h => absurd (xi_lt (x := (-1)) (y := i) (show -1 < i.toInt by omega)) (of_decide_eq_false h))
          show RP 55 _ 14 [(0, .int i), (1, .int 0), (2, .int (-1))] [] _
          refine RP_done 4 (fun n => rfl) ?_
          refine Or.inr ⟨0, rfl, ?_⟩
          show RP 62 _ 20 [(0, .ref 0), (1, .int 0), (2, .int i), (3, .int op), (4, .int a), (5, .int b), (6, .int c), (7, .int d)] [.int 0] _
          refine RP_done 5 (fun n => rfl) ?_
          exact ⟨rfl, _, rfl⟩
        · obtain rfl : f = 1 := xi_eq e9
          show RP 28 _ 17 [(0, .ref 1), (1, .int 1), (2, .int i)] [.int 1, .ref 2, .int i] _
          refine RP_step (pc1 := 18) (L1 := [(0, .ref 1), (1, .int 1), (2, .int i)]) (S1 := [.int 0, .int i]) 1 0 (fun n => rfl) ?_
          refine RP_cond (decide (0 ≤ i)) (fun n => rfl) (fun _ => ?_) (fun h => absurd (xi_le (x := 0) (y := i) (show 0 ≤ i.toInt by omega)) (of_decide_eq_false h))
          show RP 28 _ 25 [(0, .ref 1), (1, .int 1), (2, .int i)] [] _
          refine RP_done 4 (fun n => rfl) ?_
          refine Or.inr ⟨0, rfl, ?_⟩
          show RP 1 _ 9 [(0, .ref 0), (1, .int 1), (2, .int i), (3, .int op), (4, .int a), (5, .int b), (6, .int c), (7, .int d)] [.int 0] _
          refine RP_done 5 (fun n => rfl) ?_
          show RP 62 _ 0 [(0, .ref 0), (1, .int 1), (2, .int i), (3, .int op), (4, .int a), (5, .int b), (6, .int c), (7, .int d)] [] _
          refine RP_step (pc1 := 1) (L1 := [(0, .ref 0), (1, .int 1), (2, .int i), (3, .int op), (4, .int a), (5, .int b), (6, .int c), (7, .int d)]) (S1 := [.int 1]) 1 0 (fun n => rfl) ?_
          refine RP_call 56 [.int 1] (fun n => rfl) ?_
          show RP 56 _ 0 [(0, .int 1)] [] _
          refine RP_done 15 (fun n => rfl) ?_
          refine Or.inr ⟨1, rfl, ?_⟩
          show RP 62 _ 4 [(0, .ref 0), (1, .int 1), (2, .int i), (3, .int op), (4, .int a), (5, .int b), (6, .int c), (7, .int d)] [.int 1] _
          refine RP_step (pc1 := 17) (L1 := [(0, .ref 0), (1, .int 1), (2, .int i), (3, .int op), (4, .int a), (5, .int b), (6, .int c), (7, .int d)]) (S1 := [.int (-1), .int 0, .int i]) 9 0 (fun n => rfl) ?_
          refine RP_call 55 [.int i, .int 0, .int (-1)] (fun n => rfl) ?_
          show RP 55 _ 0 [(0, .int i), (1, .int 0), (2, .int (-1))] [] _
          refine RP_step (pc1 := 2) (L1 := [(0, .int i), (1, .int 0), (2, .int (-1))]) (S1 := [.int 0, .int i]) 2 0 (fun n => rfl) ?_
          refine RP_cond (decide (i < 0)) (fun n => rfl) (fun h => absurd (of_decide_eq_true h) (xi_nlt (x := i) (y := 0) (show 0 ≤ i.toInt by omega))) (fun _ => ?_)
          show RP 55 _ 5 [(0, .int i), (1, .int 0), (2, .int (-1))] [] _
          refine RP_step (pc1 := 7) (L1 := [(0, .int i), (1, .int 0), (2, .int (-1))]) (S1 := [.int (-1), .int i]) 2 0 (fun n => rfl) ?_
          refine RP_cond (decide ((-1) < i)) (fun n => rfl) (fun _ => ?_) (fun h => absurd (xi_lt (x := (-1)) (y := i) (show -1 < i.toInt by omega)) (of_decide_eq_false h))
          show RP 55 _ 14 [(0, .int i), (1, .int 0), (2, .int (-1))] [] _
          refine RP_done 4 (fun n => rfl) ?_
          refine Or.inr ⟨0, rfl, ?_⟩
          show RP 62 _ 20 [(0, .ref 0), (1, .int 1), (2, .int i), (3, .int op), (4, .int a), (5, .int b), (6, .int c), (7, .int d)] [.int 0] _
          refine RP_done 5 (fun n => rfl) ?_
          exact ⟨rfl, _, rfl⟩
        · obtain rfl : f = 2 := xi_eq e9
          show RP 28 _ 17 [(0, .ref 1), (1, .int 2), (2, .int i)] [.int 2, .ref 2, .int i] _
          refine RP_step (pc1 := 18) (L1 := [(0, .ref 1), (1, .int 2), (2, .int i)]) (S1 := [.int 0, .int i]) 1 0 (fun n => rfl) ?_
          refine RP_cond (decide (0 ≤ i)) (fun n => rfl) (fun _ => ?_) (fun h => absurd (xi_le (x := 0) (y := i) (show 0 ≤ i.toInt by omega)) (of_decide_eq_false h))
          show RP 28 _ 25 [(0, .ref 1), (1, .int 2), (2, .int i)] [] _
          refine RP_done 4 (fun n => rfl) ?_
          refine Or.inr ⟨0, rfl, ?_⟩
          show RP 1 _ 9 [(0, .ref 0), (1, .int 2), (2, .int i), (3, .int op), (4, .int a), (5, .int b), (6, .int c), (7, .int d)] [.int 0] _
          refine RP_done 5 (fun n => rfl) ?_
          show RP 62 _ 0 [(0, .ref 0), (1, .int 2), (2, .int i), (3, .int op), (4, .int a), (5, .int b), (6, .int c), (7, .int d)] [] _
          refine RP_step (pc1 := 1) (L1 := [(0, .ref 0), (1, .int 2), (2, .int i), (3, .int op), (4, .int a), (5, .int b), (6, .int c), (7, .int d)]) (S1 := [.int 2]) 1 0 (fun n => rfl) ?_
          refine RP_call 56 [.int 2] (fun n => rfl) ?_
          show RP 56 _ 0 [(0, .int 2)] [] _
          refine RP_done 15 (fun n => rfl) ?_
          refine Or.inr ⟨1, rfl, ?_⟩
          show RP 62 _ 4 [(0, .ref 0), (1, .int 2), (2, .int i), (3, .int op), (4, .int a), (5, .int b), (6, .int c), (7, .int d)] [.int 1] _
          refine RP_step (pc1 := 17) (L1 := [(0, .ref 0), (1, .int 2), (2, .int i), (3, .int op), (4, .int a), (5, .int b), (6, .int c), (7, .int d)]) (S1 := [.int (-1), .int 0, .int i]) 9 0 (fun n => rfl) ?_
          refine RP_call 55 [.int i, .int 0, .int (-1)] (fun n => rfl) ?_
          show RP 55 _ 0 [(0, .int i), (1, .int 0), (2, .int (-1))] [] _
          refine RP_step (pc1 := 2) (L1 := [(0, .int i), (1, .int 0), (2, .int (-1))]) (S1 := [.int 0, .int i]) 2 0 (fun n => rfl) ?_
          refine RP_cond (decide (i < 0)) (fun n => rfl) (fun h => absurd (of_decide_eq_true h) (xi_nlt (x := i) (y := 0) (show 0 ≤ i.toInt by omega))) (fun _ => ?_)
          show RP 55 _ 5 [(0, .int i), (1, .int 0), (2, .int (-1))] [] _
          refine RP_step (pc1 := 7) (L1 := [(0, .int i), (1, .int 0), (2, .int (-1))]) (S1 := [.int (-1), .int i]) 2 0 (fun n => rfl) ?_
          refine RP_cond (decide ((-1) < i)) (fun n => rfl) (fun _ => ?_) (fun h => absurd (xi_lt (x := (-1)) (y := i) (show -1 < i.toInt by omega)) (of_decide_eq_false h))
          show RP 55 _ 14 [(0, .int i), (1, .int 0), (2, .int (-1))] [] _
          refine RP_done 4 (fun n => rfl) ?_
          refine Or.inr ⟨0, rfl, ?_⟩
          show RP 62 _ 20 [(0, .ref 0), (1, .int 2), (2, .int i), (3, .int op), (4, .int a), (5, .int b), (6, .int c), (7, .int d)] [.int 0] _
          refine RP_done 5 (fun n => rfl) ?_
          exact ⟨rfl, _, rfl⟩
        · obtain rfl : f = 3 := xi_eq e9
          show RP 28 _ 17 [(0, .ref 1), (1, .int 3), (2, .int i)] [.int 3, .ref 2, .int i] _
          refine RP_step (pc1 := 18) (L1 := [(0, .ref 1), (1, .int 3), (2, .int i)]) (S1 := [.int 0, .int i]) 1 0 (fun n => rfl) ?_
          refine RP_cond (decide (0 ≤ i)) (fun n => rfl) (fun _ => ?_) (fun h => absurd (xi_le (x := 0) (y := i) (show 0 ≤ i.toInt by omega)) (of_decide_eq_false h))
          show RP 28 _ 25 [(0, .ref 1), (1, .int 3), (2, .int i)] [] _
          refine RP_done 4 (fun n => rfl) ?_
          refine Or.inr ⟨0, rfl, ?_⟩
          show RP 1 _ 9 [(0, .ref 0), (1, .int 3), (2, .int i), (3, .int op), (4, .int a), (5, .int b), (6, .int c), (7, .int d)] [.int 0] _
          refine RP_done 5 (fun n => rfl) ?_
          show RP 62 _ 0 [(0, .ref 0), (1, .int 3), (2, .int i), (3, .int op), (4, .int a), (5, .int b), (6, .int c), (7, .int d)] [] _
          refine RP_step (pc1 := 1) (L1 := [(0, .ref 0), (1, .int 3), (2, .int i), (3, .int op), (4, .int a), (5, .int b), (6, .int c), (7, .int d)]) (S1 := [.int 3]) 1 0 (fun n => rfl) ?_
          refine RP_call 56 [.int 3] (fun n => rfl) ?_
          show RP 56 _ 0 [(0, .int 3)] [] _
          refine RP_done 15 (fun n => rfl) ?_
          refine Or.inr ⟨1, rfl, ?_⟩
          show RP 62 _ 4 [(0, .ref 0), (1, .int 3), (2, .int i), (3, .int op), (4, .int a), (5, .int b), (6, .int c), (7, .int d)] [.int 1] _
          refine RP_step (pc1 := 17) (L1 := [(0, .ref 0), (1, .int 3), (2, .int i), (3, .int op), (4, .int a), (5, .int b), (6, .int c), (7, .int d)]) (S1 := [.int (-1), .int 0, .int i]) 9 0 (fun n => rfl) ?_
          refine RP_call 55 [.int i, .int 0, .int (-1)] (fun n => rfl) ?_
          show RP 55 _ 0 [(0, .int i), (1, .int 0), (2, .int (-1))] [] _
          refine RP_step (pc1 := 2) (L1 := [(0, .int i), (1, .int 0), (2, .int (-1))]) (S1 := [.int 0, .int i]) 2 0 (fun n => rfl) ?_
          refine RP_cond (decide (i < 0)) (fun n => rfl) (fun h => absurd (of_decide_eq_true h) (xi_nlt (x := i) (y := 0) (show 0 ≤ i.toInt by omega))) (fun _ => ?_)
          show RP 55 _ 5 [(0, .int i), (1, .int 0), (2, .int (-1))] [] _
          refine RP_step (pc1 := 7) (L1 := [(0, .int i), (1, .int 0), (2, .int (-1))]) (S1 := [.int (-1), .int i]) 2 0 (fun n => rfl) ?_
          refine RP_cond (decide ((-1) < i)) (fun n => rfl) (fun _ => ?_) (fun h => absurd (xi_lt (x := (-1)) (y := i) (show -1 < i.toInt by omega)) (of_decide_eq_false h))
          show RP 55 _ 14 [(0, .int i), (1, .int 0), (2, .int (-1))] [] _
          refine RP_done 4 (fun n => rfl) ?_
          refine Or.inr ⟨0, rfl, ?_⟩
          show RP 62 _ 20 [(0, .ref 0), (1, .int 3), (2, .int i), (3, .int op), (4, .int a), (5, .int b), (6, .int c), (7, .int d)] [.int 0] _
          refine RP_done 5 (fun n => rfl) ?_
          exact ⟨rfl, _, rfl⟩
        · obtain rfl : f = 4 := xi_eq e9
          show RP 28 _ 17 [(0, .ref 1), (1, .int 4), (2, .int i)] [.int 4, .ref 2, .int i] _
          refine RP_step (pc1 := 18) (L1 := [(0, .ref 1), (1, .int 4), (2, .int i)]) (S1 := [.int 0, .int i]) 1 0 (fun n => rfl) ?_
          refine RP_cond (decide (0 ≤ i)) (fun n => rfl) (fun _ => ?_) (fun h => absurd (xi_le (x := 0) (y := i) (show 0 ≤ i.toInt by omega)) (of_decide_eq_false h))
          show RP 28 _ 25 [(0, .ref 1), (1, .int 4), (2, .int i)] [] _
          refine RP_done 4 (fun n => rfl) ?_
          refine Or.inr ⟨0, rfl, ?_⟩
          show RP 1 _ 9 [(0, .ref 0), (1, .int 4), (2, .int i), (3, .int op), (4, .int a), (5, .int b), (6, .int c), (7, .int d)] [.int 0] _
          refine RP_done 5 (fun n => rfl) ?_
          show RP 62 _ 0 [(0, .ref 0), (1, .int 4), (2, .int i), (3, .int op), (4, .int a), (5, .int b), (6, .int c), (7, .int d)] [] _
          refine RP_step (pc1 := 1) (L1 := [(0, .ref 0), (1, .int 4), (2, .int i), (3, .int op), (4, .int a), (5, .int b), (6, .int c), (7, .int d)]) (S1 := [.int 4]) 1 0 (fun n => rfl) ?_
          refine RP_call 56 [.int 4] (fun n => rfl) ?_
          show RP 56 _ 0 [(0, .int 4)] [] _
          refine RP_done 15 (fun n => rfl) ?_
          refine Or.inr ⟨1, rfl, ?_⟩
          show RP 62 _ 4 [(0, .ref 0), (1, .int 4), (2, .int i), (3, .int op), (4, .int a), (5, .int b), (6, .int c), (7, .int d)] [.int 1] _
          refine RP_step (pc1 := 17) (L1 := [(0, .ref 0), (1, .int 4), (2, .int i), (3, .int op), (4, .int a), (5, .int b), (6, .int c), (7, .int d)]) (S1 := [.int (-1), .int 0, .int i]) 9 0 (fun n => rfl) ?_
          refine RP_call 55 [.int i, .int 0, .int (-1)] (fun n => rfl) ?_
          show RP 55 _ 0 [(0, .int i), (1, .int 0), (2, .int (-1))] [] _
          refine RP_step (pc1 := 2) (L1 := [(0, .int i), (1, .int 0), (2, .int (-1))]) (S1 := [.int 0, .int i]) 2 0 (fun n => rfl) ?_
          refine RP_cond (decide (i < 0)) (fun n => rfl) (fun h => absurd (of_decide_eq_true h) (xi_nlt (x := i) (y := 0) (show 0 ≤ i.toInt by omega))) (fun _ => ?_)
          show RP 55 _ 5 [(0, .int i), (1, .int 0), (2, .int (-1))] [] _
          refine RP_step (pc1 := 7) (L1 := [(0, .int i), (1, .int 0), (2, .int (-1))]) (S1 := [.int (-1), .int i]) 2 0 (fun n => rfl) ?_
          refine RP_cond (decide ((-1) < i)) (fun n => rfl) (fun _ => ?_) (fun h => absurd (xi_lt (x := (-1)) (y := i) (show -1 < i.toInt by omega)) (of_decide_eq_false h))
          show RP 55 _ 14 [(0, .int i), (1, .int 0), (2, .int (-1))] [] _
          refine RP_done 4 (fun n => rfl) ?_
          refine Or.inr ⟨0, rfl, ?_⟩
          show RP 62 _ 20 [(0, .ref 0), (1, .int 4), (2, .int i), (3, .int op), (4, .int a), (5, .int b), (6, .int c), (7, .int d)] [.int 0] _
          refine RP_done 5 (fun n => rfl) ?_
          exact ⟨rfl, _, rfl⟩
        · obtain rfl : f = 5 := xi_eq e9
          show RP 28 _ 17 [(0, .ref 1), (1, .int 5), (2, .int i)] [.int 5, .ref 2, .int i] _
          refine RP_step (pc1 := 18) (L1 := [(0, .ref 1), (1, .int 5), (2, .int i)]) (S1 := [.int 0, .int i]) 1 0 (fun n => rfl) ?_
          refine RP_cond (decide (0 ≤ i)) (fun n => rfl) (fun _ => ?_) (fun h => absurd (xi_le (x := 0) (y := i) (show 0 ≤ i.toInt by omega)) (of_decide_eq_false h))
          show RP 28 _ 25 [(0, .ref 1), (1, .int 5), (2, .int i)] [] _
          refine RP_done 4 (fun n => rfl) ?_
          refine Or.inr ⟨0, rfl, ?_⟩
          show RP 1 _ 9 [(0, .ref 0), (1, .int 5), (2, .int i), (3, .int op), (4, .int a), (5, .int b), (6, .int c), (7, .int d)] [.int 0] _
          refine RP_done 5 (fun n => rfl) ?_
          show RP 62 _ 0 [(0, .ref 0), (1, .int 5), (2, .int i), (3, .int op), (4, .int a), (5, .int b), (6, .int c), (7, .int d)] [] _
          refine RP_step (pc1 := 1) (L1 := [(0, .ref 0), (1, .int 5), (2, .int i), (3, .int op), (4, .int a), (5, .int b), (6, .int c), (7, .int d)]) (S1 := [.int 5]) 1 0 (fun n => rfl) ?_
          refine RP_call 56 [.int 5] (fun n => rfl) ?_
          show RP 56 _ 0 [(0, .int 5)] [] _
          refine RP_done 15 (fun n => rfl) ?_
          refine Or.inr ⟨1, rfl, ?_⟩
          show RP 62 _ 4 [(0, .ref 0), (1, .int 5), (2, .int i), (3, .int op), (4, .int a), (5, .int b), (6, .int c), (7, .int d)] [.int 1] _
          refine RP_step (pc1 := 17) (L1 := [(0, .ref 0), (1, .int 5), (2, .int i), (3, .int op), (4, .int a), (5, .int b), (6, .int c), (7, .int d)]) (S1 := [.int (-1), .int 0, .int i]) 9 0 (fun n => rfl) ?_
          refine RP_call 55 [.int i, .int 0, .int (-1)] (fun n => rfl) ?_
          show RP 55 _ 0 [(0, .int i), (1, .int 0), (2, .int (-1))] [] _
          refine RP_step (pc1 := 2) (L1 := [(0, .int i), (1, .int 0), (2, .int (-1))]) (S1 := [.int 0, .int i]) 2 0 (fun n => rfl) ?_
          refine RP_cond (decide (i < 0)) (fun n => rfl) (fun h => absurd (of_decide_eq_true h) (xi_nlt (x := i) (y := 0) (show 0 ≤ i.toInt by omega))) (fun _ => ?_)
          show RP 55 _ 5 [(0, .int i), (1, .int 0), (2, .int (-1))] [] _
          refine RP_step (pc1 := 7) (L1 := [(0, .int i), (1, .int 0), (2, .int (-1))]) (S1 := [.int (-1), .int i]) 2 0 (fun n => rfl) ?_
          refine RP_cond (decide ((-1) < i)) (fun n => rfl) (fun _ => ?_) (fun h => absurd (xi_lt (x := (-1)) (y := i) (show -1 < i.toInt by omega)) (of_decide_eq_false h))
          show RP 55 _ 14 [(0, .int i), (1, .int 0), (2, .int (-1))] [] _
          refine RP_done 4 (fun n => rfl) ?_
          refine Or.inr ⟨0, rfl, ?_⟩
          show RP 62 _ 20 [(0, .ref 0), (1, .int 5), (2, .int i), (3, .int op), (4, .int a), (5, .int b), (6, .int c), (7, .int d)] [.int 0] _
          refine RP_done 5 (fun n => rfl) ?_
          exact ⟨rfl, _, rfl⟩

set_option maxHeartbeats 8000000 in
set_option maxRecDepth 1000000 in
theorem sm_2 (f : Int32) : Same 2 63 [.int f] := by
  refine Same_of ?_
  show RP 2 _ 0 [(0, .ref 0), (1, .int f)] [] _
  refine RP_step (pc1 := 1) (L1 := [(0, .ref 0), (1, .int f)]) (S1 := [.int f]) 1 0 (fun n => rfl) ?_
  refine RP_call 22 [.int f] (fun n => rfl) ?_
  show RP 22 _ 0 [(0, .int f)] [] _
  refine RP_step (pc1 := 1) (L1 := [(0, .int f)]) (S1 := [.int f]) 1 0 (fun n => rfl) ?_
  refine RP_cond (decide (f < 0)) (fun n => rfl) (fun hh => ?_) (fun hh => ?_)
  · have h1 := of_decide_eq_true hh
    have h2 : f.toInt < 0 := xj_lt h1
    show RP 22 _ 14 [(0, .int f)] [] _
    refine RP_done 4 (fun n => rfl) ?_
    refine Or.inr ⟨0, rfl, ?_⟩
    show RP 2 _ 4 [(0, .ref 0), (1, .int f)] [.int 0] _
    refine RP_done 5 (fun n => rfl) ?_
    show RP 63 _ 0 [(0, .ref 0), (1, .int f)] [] _
    refine RP_step (pc1 := 1) (L1 := [(0, .ref 0), (1, .int f)]) (S1 := [.int f]) 1 0 (fun n => rfl) ?_
    refine RP_call 56 [.int f] (fun n => rfl) ?_
    show RP 56 _ 0 [(0, .int f)] [] _
    refine RP_step (pc1 := 3) (L1 := [(0, .int f)]) (S1 := [.int 5, .int 0, .int f]) 3 0 (fun n => rfl) ?_
    refine RP_call 55 [.int f, .int 0, .int 5] (fun n => rfl) ?_
    show RP 55 _ 0 [(0, .int f), (1, .int 0), (2, .int 5)] [] _
    refine RP_step (pc1 := 2) (L1 := [(0, .int f), (1, .int 0), (2, .int 5)]) (S1 := [.int 0, .int f]) 2 0 (fun n => rfl) ?_
    refine RP_cond (decide (f < 0)) (fun n => rfl) (fun _ => ?_) (fun h => absurd (xi_lt (x := f) (y := 0) (show f.toInt < 0 by omega)) (of_decide_eq_false h))
    show RP 55 _ 14 [(0, .int f), (1, .int 0), (2, .int 5)] [] _
    refine RP_done 4 (fun n => rfl) ?_
    refine Or.inr ⟨0, rfl, ?_⟩
    show RP 56 _ 6 [(0, .int f)] [.int 0] _
    refine RP_done 3 (fun n => rfl) ?_
    refine Or.inr ⟨0, rfl, ?_⟩
    show RP 63 _ 4 [(0, .ref 0), (1, .int f)] [.int 0] _
    refine RP_done 5 (fun n => rfl) ?_
    exact ⟨rfl, _, rfl⟩
  · have h3 := of_decide_eq_false hh
    have h4 : 0 ≤ f.toInt := xj_nlt h3
    show RP 22 _ 4 [(0, .int f)] [] _
    refine RP_step (pc1 := 7) (L1 := [(0, .int f)]) (S1 := [.int 6, .int f]) 2 0 (fun n => rfl) ?_
    refine RP_cond (decide (6 ≤ f)) (fun n => rfl) (fun hh => ?_) (fun hh => ?_)
    · have h5 := of_decide_eq_true hh
      have h6 : 6 ≤ f.toInt := xj_le h5
      show RP 22 _ 14 [(0, .int f)] [] _
      refine RP_done 4 (fun n => rfl) ?_
      refine Or.inr ⟨0, rfl, ?_⟩
      show RP 2 _ 4 [(0, .ref 0), (1, .int f)] [.int 0] _
      refine RP_done 5 (fun n => rfl) ?_
      show RP 63 _ 0 [(0, .ref 0), (1, .int f)] [] _
      refine RP_step (pc1 := 1) (L1 := [(0, .ref 0), (1, .int f)]) (S1 := [.int f]) 1 0 (fun n => rfl) ?_
      refine RP_call 56 [.int f] (fun n => rfl) ?_
      show RP 56 _ 0 [(0, .int f)] [] _
      refine RP_step (pc1 := 3) (L1 := [(0, .int f)]) (S1 := [.int 5, .int 0, .int f]) 3 0 (fun n => rfl) ?_
      refine RP_call 55 [.int f, .int 0, .int 5] (fun n => rfl) ?_
      show RP 55 _ 0 [(0, .int f), (1, .int 0), (2, .int 5)] [] _
      refine RP_step (pc1 := 2) (L1 := [(0, .int f), (1, .int 0), (2, .int 5)]) (S1 := [.int 0, .int f]) 2 0 (fun n => rfl) ?_
      refine RP_cond (decide (f < 0)) (fun n => rfl) (fun h => absurd (of_decide_eq_true h) (xi_nlt (x := f) (y := 0) (show 0 ≤ f.toInt by omega))) (fun _ => ?_)
      show RP 55 _ 5 [(0, .int f), (1, .int 0), (2, .int 5)] [] _
      refine RP_step (pc1 := 7) (L1 := [(0, .int f), (1, .int 0), (2, .int 5)]) (S1 := [.int 5, .int f]) 2 0 (fun n => rfl) ?_
      refine RP_cond (decide (5 < f)) (fun n => rfl) (fun _ => ?_) (fun h => absurd (xi_lt (x := 5) (y := f) (show 5 < f.toInt by omega)) (of_decide_eq_false h))
      show RP 55 _ 14 [(0, .int f), (1, .int 0), (2, .int 5)] [] _
      refine RP_done 4 (fun n => rfl) ?_
      refine Or.inr ⟨0, rfl, ?_⟩
      show RP 56 _ 6 [(0, .int f)] [.int 0] _
      refine RP_done 3 (fun n => rfl) ?_
      refine Or.inr ⟨0, rfl, ?_⟩
      show RP 63 _ 4 [(0, .ref 0), (1, .int f)] [.int 0] _
      refine RP_done 5 (fun n => rfl) ?_
      exact ⟨rfl, _, rfl⟩
    · have h7 := of_decide_eq_false hh
      have h8 : f.toInt < 6 := xj_nle h7
      show RP 22 _ 10 [(0, .int f)] [] _
      refine RP_done 5 (fun n => rfl) ?_
      refine Or.inr ⟨1, rfl, ?_⟩
      show RP 2 _ 4 [(0, .ref 0), (1, .int f)] [.int 1] _
      refine RP_step (pc1 := 17) (L1 := [(0, .ref 0), (1, .int f)]) (S1 := [.int f, .ref 2]) 5 0 (fun n => rfl) ?_
      rcases (show f.toInt = 0 ∨ f.toInt = 1 ∨ f.toInt = 2 ∨ f.toInt = 3 ∨ f.toInt = 4 ∨ f.toInt = 5 by omega) with e9 | e9 | e9 | e9 | e9 | e9
      · obtain rfl : f = 0 := xi_eq e9
        show RP 2 _ 17 [(0, .ref 0), (1, .int 0)] [.int 0, .ref 2] _
        refine RP_done 8 (fun n => rfl) ?_
        show RP 63 _ 0 [(0, .ref 0), (1, .int 0)] [] _
        refine RP_done 20 (fun n => rfl) ?_
        exact ⟨rfl, _, rfl⟩
      · obtain rfl : f = 1 := xi_eq e9
        show RP 2 _ 17 [(0, .ref 0), (1, .int 1)] [.int 1, .ref 2] _
        refine RP_done 8 (fun n => rfl) ?_
        show RP 63 _ 0 [(0, .ref 0), (1, .int 1)] [] _
        refine RP_done 20 (fun n => rfl) ?_
        exact ⟨rfl, _, rfl⟩
      · obtain rfl : f = 2 := xi_eq e9
        show RP 2 _ 17 [(0, .ref 0), (1, .int 2)] [.int 2, .ref 2] _
        refine RP_done 8 (fun n => rfl) ?_
        show RP 63 _ 0 [(0, .ref 0), (1, .int 2)] [] _
        refine RP_done 20 (fun n => rfl) ?_
        exact ⟨rfl, _, rfl⟩
      · obtain rfl : f = 3 := xi_eq e9
        show RP 2 _ 17 [(0, .ref 0), (1, .int 3)] [.int 3, .ref 2] _
        refine RP_done 8 (fun n => rfl) ?_
        show RP 63 _ 0 [(0, .ref 0), (1, .int 3)] [] _
        refine RP_done 20 (fun n => rfl) ?_
        exact ⟨rfl, _, rfl⟩
      · obtain rfl : f = 4 := xi_eq e9
        show RP 2 _ 17 [(0, .ref 0), (1, .int 4)] [.int 4, .ref 2] _
        refine RP_done 8 (fun n => rfl) ?_
        show RP 63 _ 0 [(0, .ref 0), (1, .int 4)] [] _
        refine RP_done 20 (fun n => rfl) ?_
        exact ⟨rfl, _, rfl⟩
      · obtain rfl : f = 5 := xi_eq e9
        show RP 2 _ 17 [(0, .ref 0), (1, .int 5)] [.int 5, .ref 2] _
        refine RP_done 8 (fun n => rfl) ?_
        show RP 63 _ 0 [(0, .ref 0), (1, .int 5)] [] _
        refine RP_done 20 (fun n => rfl) ?_
        exact ⟨rfl, _, rfl⟩

set_option maxHeartbeats 8000000 in
set_option maxRecDepth 1000000 in
theorem sm_3 (v : Int32) : Same 3 64 [.int v] := by
  refine Same_of ?_
  show RP 3 _ 0 [(0, .ref 0), (1, .int v)] [] _
  refine RP_step (pc1 := 1) (L1 := [(0, .ref 0), (1, .int v)]) (S1 := [.int v]) 1 0 (fun n => rfl) ?_
  refine RP_cond (decide (v < 0)) (fun n => rfl) (fun hh => ?_) (fun hh => ?_)
  · have h1 := of_decide_eq_true hh
    have h2 : v.toInt < 0 := xj_lt h1
    show RP 3 _ 20 [(0, .ref 0), (1, .int v)] [] _
    refine RP_done 4 (fun n => rfl) ?_
    show RP 64 _ 0 [(0, .ref 0), (1, .int v)] [] _
    refine RP_step (pc1 := 14) (L1 := [(0, .ref 0), (1, .int v)]) (S1 := [.int 255, .int 0, .int v]) 7 0 (fun n => rfl) ?_
    refine RP_call 55 [.int v, .int 0, .int 255] (fun n => rfl) ?_
    show RP 55 _ 0 [(0, .int v), (1, .int 0), (2, .int 255)] [] _
    refine RP_step (pc1 := 2) (L1 := [(0, .int v), (1, .int 0), (2, .int 255)]) (S1 := [.int 0, .int v]) 2 0 (fun n => rfl) ?_
    refine RP_cond (decide (v < 0)) (fun n => rfl) (fun _ => ?_) (fun h => absurd (xi_lt (x := v) (y := 0) (show v.toInt < 0 by omega)) (of_decide_eq_false h))
    show RP 55 _ 14 [(0, .int v), (1, .int 0), (2, .int 255)] [] _
    refine RP_done 4 (fun n => rfl) ?_
    refine Or.inr ⟨0, rfl, ?_⟩
    show RP 64 _ 17 [(0, .ref 0), (1, .int v)] [.int 0] _
    refine RP_done 5 (fun n => rfl) ?_
    exact ⟨rfl, _, rfl⟩
  · have h3 := of_decide_eq_false hh
    have h4 : 0 ≤ v.toInt := xj_nlt h3
    show RP 3 _ 4 [(0, .ref 0), (1, .int v)] [] _
    refine RP_step (pc1 := 8) (L1 := [(0, .ref 0), (1, .int v)]) (S1 := [.int 255, .int v]) 2 0 (fun n => rfl) ?_
    refine RP_cond (decide (255 < v)) (fun n => rfl) (fun hh => ?_) (fun hh => ?_)
    · have h5 := of_decide_eq_true hh
      have h6 : 255 < v.toInt := xj_lt h5
      show RP 3 _ 20 [(0, .ref 0), (1, .int v)] [] _
      refine RP_done 4 (fun n => rfl) ?_
      show RP 64 _ 0 [(0, .ref 0), (1, .int v)] [] _
      refine RP_step (pc1 := 14) (L1 := [(0, .ref 0), (1, .int v)]) (S1 := [.int 255, .int 0, .int v]) 7 0 (fun n => rfl) ?_
      refine RP_call 55 [.int v, .int 0, .int 255] (fun n => rfl) ?_
      show RP 55 _ 0 [(0, .int v), (1, .int 0), (2, .int 255)] [] _
      refine RP_step (pc1 := 2) (L1 := [(0, .int v), (1, .int 0), (2, .int 255)]) (S1 := [.int 0, .int v]) 2 0 (fun n => rfl) ?_
      refine RP_cond (decide (v < 0)) (fun n => rfl) (fun h => absurd (of_decide_eq_true h) (xi_nlt (x := v) (y := 0) (show 0 ≤ v.toInt by omega))) (fun _ => ?_)
      show RP 55 _ 5 [(0, .int v), (1, .int 0), (2, .int 255)] [] _
      refine RP_step (pc1 := 7) (L1 := [(0, .int v), (1, .int 0), (2, .int 255)]) (S1 := [.int 255, .int v]) 2 0 (fun n => rfl) ?_
      refine RP_cond (decide (255 < v)) (fun n => rfl) (fun _ => ?_) (fun h => absurd (xi_lt (x := 255) (y := v) (show 255 < v.toInt by omega)) (of_decide_eq_false h))
      show RP 55 _ 14 [(0, .int v), (1, .int 0), (2, .int 255)] [] _
      refine RP_done 4 (fun n => rfl) ?_
      refine Or.inr ⟨0, rfl, ?_⟩
      show RP 64 _ 17 [(0, .ref 0), (1, .int v)] [.int 0] _
      refine RP_done 5 (fun n => rfl) ?_
      exact ⟨rfl, _, rfl⟩
    · have h7 := of_decide_eq_false hh
      have h8 : v.toInt ≤ 255 := xj_nlt h7
      show RP 3 _ 11 [(0, .ref 0), (1, .int v)] [] _
      refine RP_step (pc1 := 31) (L1 := [(0, .ref 0), (1, .int v)]) (S1 := [.int v, .int 0, .ref 9]) 9 0 (fun n => rfl) ?_
      refine RP_ast (fun n => rfl) rfl (by decide) ?_
      show RP 3 _ 32 [(0, .ref 0), (1, .int v)] [] _
      refine RP_done 11 (fun n => rfl) ?_
      show RP 64 _ 0 [(0, .ref 0), (1, .int v)] [] _
      refine RP_step (pc1 := 14) (L1 := [(0, .ref 0), (1, .int v)]) (S1 := [.int 255, .int 0, .int v]) 7 0 (fun n => rfl) ?_
      refine RP_call 55 [.int v, .int 0, .int 255] (fun n => rfl) ?_
      show RP 55 _ 0 [(0, .int v), (1, .int 0), (2, .int 255)] [] _
      refine RP_step (pc1 := 2) (L1 := [(0, .int v), (1, .int 0), (2, .int 255)]) (S1 := [.int 0, .int v]) 2 0 (fun n => rfl) ?_
      refine RP_cond (decide (v < 0)) (fun n => rfl) (fun h => absurd (of_decide_eq_true h) (xi_nlt (x := v) (y := 0) (show 0 ≤ v.toInt by omega))) (fun _ => ?_)
      show RP 55 _ 5 [(0, .int v), (1, .int 0), (2, .int 255)] [] _
      refine RP_step (pc1 := 7) (L1 := [(0, .int v), (1, .int 0), (2, .int 255)]) (S1 := [.int 255, .int v]) 2 0 (fun n => rfl) ?_
      refine RP_cond (decide (255 < v)) (fun n => rfl) (fun h => absurd (of_decide_eq_true h) (xi_nlt (x := 255) (y := v) (show v.toInt ≤ 255 by omega))) (fun _ => ?_)
      show RP 55 _ 10 [(0, .int v), (1, .int 0), (2, .int 255)] [] _
      refine RP_done 5 (fun n => rfl) ?_
      refine Or.inr ⟨1, rfl, ?_⟩
      show RP 64 _ 17 [(0, .ref 0), (1, .int v)] [.int 1] _
      refine RP_step (pc1 := 31) (L1 := [(0, .ref 0), (1, .int v)]) (S1 := [.int v, .int 0, .ref 4]) 6 0 (fun n => rfl) ?_
      refine RP_ast (fun n => rfl) rfl (by decide) ?_
      show RP 64 _ 32 [(0, .ref 0), (1, .int v)] [] _
      refine RP_done 11 (fun n => rfl) ?_
      exact ⟨rfl, _, rfl⟩

set_option maxHeartbeats 8000000 in
set_option maxRecDepth 1000000 in
theorem sm_4 : Same 4 65 [] := by
  refine Same_of ?_
  show RP 4 _ 0 [(0, .ref 0)] [] _
  refine RP_done 10 (fun n => rfl) ?_
  show RP 65 _ 0 [(0, .ref 0)] [] _
  refine RP_done 10 (fun n => rfl) ?_
  exact ⟨rfl, _, rfl⟩

set_option maxHeartbeats 8000000 in
set_option maxRecDepth 1000000 in
theorem sm_5 : Same 5 67 [] := by
  refine Same_of ?_
  show RP 5 _ 0 [(0, .ref 0)] [] _
  refine RP_done 211 (fun n => rfl) ?_
  show RP 67 _ 0 [(0, .ref 0)] [] _
  refine RP_done 386 (fun n => rfl) ?_
  exact ⟨rfl, _, rfl⟩

set_option maxHeartbeats 8000000 in
set_option maxRecDepth 1000000 in
theorem sm_6 (what : Int32) : Same 6 68 [.int what] := by
  refine Same_of ?_
  show RP 6 _ 0 [(0, .ref 0), (1, .int what)] [] _
  refine RP_done 7 (fun n => rfl) ?_
  show RP 68 _ 0 [(0, .ref 0), (1, .int what)] [] _
  refine RP_done 7 (fun n => rfl) ?_
  exact ⟨rfl, _, rfl⟩

set_option maxHeartbeats 8000000 in
set_option maxRecDepth 1000000 in
theorem sm_7 (i : Int32) : Same 7 69 [.int i] := by
  refine Same_of ?_
  show RP 7 _ 0 [(0, .ref 0), (1, .int i)] [] _
  refine RP_done 7 (fun n => rfl) ?_
  show RP 69 _ 0 [(0, .ref 0), (1, .int i)] [] _
  refine RP_done 7 (fun n => rfl) ?_
  exact ⟨rfl, _, rfl⟩

set_option maxHeartbeats 8000000 in
set_option maxRecDepth 1000000 in
theorem sm_8 (k what : Int32) : Same 8 70 [.int k, .int what] := by
  refine Same_of ?_
  show RP 8 _ 0 [(0, .ref 0), (1, .int k), (2, .int what)] [] _
  refine RP_done 7 (fun n => rfl) ?_
  show RP 70 _ 0 [(0, .ref 0), (1, .int k), (2, .int what)] [] _
  refine RP_done 7 (fun n => rfl) ?_
  exact ⟨rfl, _, rfl⟩

set_option maxHeartbeats 8000000 in
set_option maxRecDepth 1000000 in
theorem sm_12 (f i l : Int32) : Same 12 71 [.int f, .int i, .int l] := by
  refine Same_of ?_
  show RP 12 _ 0 [(0, .ref 0), (1, .int f), (2, .int i), (3, .int l)] [] _
  refine RP_step (pc1 := 6) (L1 := [(0, .ref 0), (1, .int f), (2, .int i), (3, .int l)]) (S1 := [.int i, .int f, .ref 1]) 4 0 (fun n => rfl) ?_
  refine RP_call 28 [.ref 1, .int f, .int i] (fun n => rfl) ?_
  show RP 28 _ 0 [(0, .ref 1), (1, .int f), (2, .int i)] [] _
  refine RP_step (pc1 := 1) (L1 := [(0, .ref 1), (1, .int f), (2, .int i)]) (S1 := [.int f]) 1 0 (fun n => rfl) ?_
  refine RP_call 22 [.int f] (fun n => rfl) ?_
  show RP 22 _ 0 [(0, .int f)] [] _
  refine RP_step (pc1 := 1) (L1 := [(0, .int f)]) (S1 := [.int f]) 1 0 (fun n => rfl) ?_
  refine RP_cond (decide (f < 0)) (fun n => rfl) (fun hh => ?_) (fun hh => ?_)
  · have h1 := of_decide_eq_true hh
    have h2 : f.toInt < 0 := xj_lt h1
    show RP 22 _ 14 [(0, .int f)] [] _
    refine RP_done 4 (fun n => rfl) ?_
    refine Or.inr ⟨0, rfl, ?_⟩
    show RP 28 _ 4 [(0, .ref 1), (1, .int f), (2, .int i)] [.int 0] _
    refine RP_done 5 (fun n => rfl) ?_
    refine Or.inr ⟨0, rfl, ?_⟩
    show RP 12 _ 9 [(0, .ref 0), (1, .int f), (2, .int i), (3, .int l)] [.int 0] _
    refine RP_done 5 (fun n => rfl) ?_
    show RP 71 _ 0 [(0, .ref 0), (1, .int f), (2, .int i), (3, .int l)] [] _
    refine RP_step (pc1 := 1) (L1 := [(0, .ref 0), (1, .int f), (2, .int i), (3, .int l)]) (S1 := [.int f]) 1 0 (fun n => rfl) ?_
    refine RP_call 56 [.int f] (fun n => rfl) ?_
    show RP 56 _ 0 [(0, .int f)] [] _
    refine RP_step (pc1 := 3) (L1 := [(0, .int f)]) (S1 := [.int 5, .int 0, .int f]) 3 0 (fun n => rfl) ?_
    refine RP_call 55 [.int f, .int 0, .int 5] (fun n => rfl) ?_
    show RP 55 _ 0 [(0, .int f), (1, .int 0), (2, .int 5)] [] _
    refine RP_step (pc1 := 2) (L1 := [(0, .int f), (1, .int 0), (2, .int 5)]) (S1 := [.int 0, .int f]) 2 0 (fun n => rfl) ?_
    refine RP_cond (decide (f < 0)) (fun n => rfl) (fun _ => ?_) (fun h => absurd (xi_lt (x := f) (y := 0) (show f.toInt < 0 by omega)) (of_decide_eq_false h))
    show RP 55 _ 14 [(0, .int f), (1, .int 0), (2, .int 5)] [] _
    refine RP_done 4 (fun n => rfl) ?_
    refine Or.inr ⟨0, rfl, ?_⟩
    show RP 56 _ 6 [(0, .int f)] [.int 0] _
    refine RP_done 3 (fun n => rfl) ?_
    refine Or.inr ⟨0, rfl, ?_⟩
    show RP 71 _ 4 [(0, .ref 0), (1, .int f), (2, .int i), (3, .int l)] [.int 0] _
    refine RP_done 5 (fun n => rfl) ?_
    exact ⟨rfl, _, rfl⟩
  · have h3 := of_decide_eq_false hh
    have h4 : 0 ≤ f.toInt := xj_nlt h3
    show RP 22 _ 4 [(0, .int f)] [] _
    refine RP_step (pc1 := 7) (L1 := [(0, .int f)]) (S1 := [.int 6, .int f]) 2 0 (fun n => rfl) ?_
    refine RP_cond (decide (6 ≤ f)) (fun n => rfl) (fun hh => ?_) (fun hh => ?_)
    · have h5 := of_decide_eq_true hh
      have h6 : 6 ≤ f.toInt := xj_le h5
      show RP 22 _ 14 [(0, .int f)] [] _
      refine RP_done 4 (fun n => rfl) ?_
      refine Or.inr ⟨0, rfl, ?_⟩
      show RP 28 _ 4 [(0, .ref 1), (1, .int f), (2, .int i)] [.int 0] _
      refine RP_done 5 (fun n => rfl) ?_
      refine Or.inr ⟨0, rfl, ?_⟩
      show RP 12 _ 9 [(0, .ref 0), (1, .int f), (2, .int i), (3, .int l)] [.int 0] _
      refine RP_done 5 (fun n => rfl) ?_
      show RP 71 _ 0 [(0, .ref 0), (1, .int f), (2, .int i), (3, .int l)] [] _
      refine RP_step (pc1 := 1) (L1 := [(0, .ref 0), (1, .int f), (2, .int i), (3, .int l)]) (S1 := [.int f]) 1 0 (fun n => rfl) ?_
      refine RP_call 56 [.int f] (fun n => rfl) ?_
      show RP 56 _ 0 [(0, .int f)] [] _
      refine RP_step (pc1 := 3) (L1 := [(0, .int f)]) (S1 := [.int 5, .int 0, .int f]) 3 0 (fun n => rfl) ?_
      refine RP_call 55 [.int f, .int 0, .int 5] (fun n => rfl) ?_
      show RP 55 _ 0 [(0, .int f), (1, .int 0), (2, .int 5)] [] _
      refine RP_step (pc1 := 2) (L1 := [(0, .int f), (1, .int 0), (2, .int 5)]) (S1 := [.int 0, .int f]) 2 0 (fun n => rfl) ?_
      refine RP_cond (decide (f < 0)) (fun n => rfl) (fun h => absurd (of_decide_eq_true h) (xi_nlt (x := f) (y := 0) (show 0 ≤ f.toInt by omega))) (fun _ => ?_)
      show RP 55 _ 5 [(0, .int f), (1, .int 0), (2, .int 5)] [] _
      refine RP_step (pc1 := 7) (L1 := [(0, .int f), (1, .int 0), (2, .int 5)]) (S1 := [.int 5, .int f]) 2 0 (fun n => rfl) ?_
      refine RP_cond (decide (5 < f)) (fun n => rfl) (fun _ => ?_) (fun h => absurd (xi_lt (x := 5) (y := f) (show 5 < f.toInt by omega)) (of_decide_eq_false h))
      show RP 55 _ 14 [(0, .int f), (1, .int 0), (2, .int 5)] [] _
      refine RP_done 4 (fun n => rfl) ?_
      refine Or.inr ⟨0, rfl, ?_⟩
      show RP 56 _ 6 [(0, .int f)] [.int 0] _
      refine RP_done 3 (fun n => rfl) ?_
      refine Or.inr ⟨0, rfl, ?_⟩
      show RP 71 _ 4 [(0, .ref 0), (1, .int f), (2, .int i), (3, .int l)] [.int 0] _
      refine RP_done 5 (fun n => rfl) ?_
      exact ⟨rfl, _, rfl⟩
    · have h7 := of_decide_eq_false hh
      have h8 : f.toInt < 6 := xj_nle h7
      show RP 22 _ 10 [(0, .int f)] [] _
      refine RP_done 5 (fun n => rfl) ?_
      refine Or.inr ⟨1, rfl, ?_⟩
      show RP 28 _ 4 [(0, .ref 1), (1, .int f), (2, .int i)] [.int 1] _
      refine RP_step (pc1 := 8) (L1 := [(0, .ref 1), (1, .int f), (2, .int i)]) (S1 := [.int i]) 2 0 (fun n => rfl) ?_
      refine RP_cond (decide (i < 0)) (fun n => rfl) (fun hh => ?_) (fun hh => ?_)
      · have h9 := of_decide_eq_true hh
        have h10 : i.toInt < 0 := xj_lt h9
        show RP 28 _ 25 [(0, .ref 1), (1, .int f), (2, .int i)] [] _
        refine RP_done 4 (fun n => rfl) ?_
        refine Or.inr ⟨0, rfl, ?_⟩
        show RP 12 _ 9 [(0, .ref 0), (1, .int f), (2, .int i), (3, .int l)] [.int 0] _
        refine RP_done 5 (fun n => rfl) ?_
        show RP 71 _ 0 [(0, .ref 0), (1, .int f), (2, .int i), (3, .int l)] [] _
        refine RP_step (pc1 := 1) (L1 := [(0, .ref 0), (1, .int f), (2, .int i), (3, .int l)]) (S1 := [.int f]) 1 0 (fun n => rfl) ?_
        refine RP_call 56 [.int f] (fun n => rfl) ?_
        show RP 56 _ 0 [(0, .int f)] [] _
        refine RP_step (pc1 := 3) (L1 := [(0, .int f)]) (S1 := [.int 5, .int 0, .int f]) 3 0 (fun n => rfl) ?_
        refine RP_call 55 [.int f, .int 0, .int 5] (fun n => rfl) ?_
        show RP 55 _ 0 [(0, .int f), (1, .int 0), (2, .int 5)] [] _
        refine RP_step (pc1 := 2) (L1 := [(0, .int f), (1, .int 0), (2, .int 5)]) (S1 := [.int 0, .int f]) 2 0 (fun n => rfl) ?_
        refine RP_cond (decide (f < 0)) (fun n => rfl) (fun h => absurd (of_decide_eq_true h) (xi_nlt (x := f) (y := 0) (show 0 ≤ f.toInt by omega))) (fun _ => ?_)
        show RP 55 _ 5 [(0, .int f), (1, .int 0), (2, .int 5)] [] _
        refine RP_step (pc1 := 7) (L1 := [(0, .int f), (1, .int 0), (2, .int 5)]) (S1 := [.int 5, .int f]) 2 0 (fun n => rfl) ?_
        refine RP_cond (decide (5 < f)) (fun n => rfl) (fun h => absurd (of_decide_eq_true h) (xi_nlt (x := 5) (y := f) (show f.toInt ≤ 5 by omega))) (fun _ => ?_)
        show RP 55 _ 10 [(0, .int f), (1, .int 0), (2, .int 5)] [] _
        refine RP_done 5 (fun n => rfl) ?_
        refine Or.inr ⟨1, rfl, ?_⟩
        show RP 56 _ 6 [(0, .int f)] [.int 1] _
        refine RP_done 3 (fun n => rfl) ?_
        refine Or.inr ⟨1, rfl, ?_⟩
        show RP 71 _ 4 [(0, .ref 0), (1, .int f), (2, .int i), (3, .int l)] [.int 1] _
        refine RP_step (pc1 := 14) (L1 := [(0, .ref 0), (1, .int f), (2, .int i), (3, .int l)]) (S1 := [.int f, .ref 2, .int 0, .int i]) 6 0 (fun n => rfl) ?_
        rcases (show f.toInt = 0 ∨ f.toInt = 1 ∨ f.toInt = 2 ∨ f.toInt = 3 ∨ f.toInt = 4 ∨ f.toInt = 5 by omega) with e9 | e9 | e9 | e9 | e9 | e9
        · obtain rfl : f = 0 := xi_eq e9
          show RP 71 _ 14 [(0, .ref 0), (1, .int 0), (2, .int i), (3, .int l)] [.int 0, .ref 2, .int 0, .int i] _
          refine RP_step (pc1 := 17) (L1 := [(0, .ref 0), (1, .int 0), (2, .int i), (3, .int l)]) (S1 := [.int (-1), .int 0, .int i]) 3 0 (fun n => rfl) ?_
          refine RP_call 55 [.int i, .int 0, .int (-1)] (fun n => rfl) ?_
          show RP 55 _ 0 [(0, .int i), (1, .int 0), (2, .int (-1))] [] _
          refine RP_step (pc1 := 2) (L1 := [(0, .int i), (1, .int 0), (2, .int (-1))]) (S1 := [.int 0, .int i]) 2 0 (fun n => rfl) ?_
          refine RP_cond (decide (i < 0)) (fun n => rfl) (fun _ => ?_) (fun h => absurd (xi_lt (x := i) (y := 0) (show i.toInt < 0 by omega)) (of_decide_eq_false h))
          show RP 55 _ 14 [(0, .int i), (1, .int 0), (2, .int (-1))] [] _
          refine RP_done 4 (fun n => rfl) ?_
          refine Or.inr ⟨0, rfl, ?_⟩
          show RP 71 _ 20 [(0, .ref 0), (1, .int 0), (2, .int i), (3, .int l)] [.int 0] _
          refine RP_done 5 (fun n => rfl) ?_
          exact ⟨rfl, _, rfl⟩
        · obtain rfl : f = 1 := xi_eq e9
          show RP 71 _ 14 [(0, .ref 0), (1, .int 1), (2, .int i), (3, .int l)] [.int 1, .ref 2, .int 0, .int i] _
          refine RP_step (pc1 := 17) (L1 := [(0, .ref 0), (1, .int 1), (2, .int i), (3, .int l)]) (S1 := [.int (-1), .int 0, .int i]) 3 0 (fun n => rfl) ?_
          refine RP_call 55 [.int i, .int 0, .int (-1)] (fun n => rfl) ?_
          show RP 55 _ 0 [(0, .int i), (1, .int 0), (2, .int (-1))] [] _
          refine RP_step (pc1 := 2) (L1 := [(0, .int i), (1, .int 0), (2, .int (-1))]) (S1 := [.int 0, .int i]) 2 0 (fun n => rfl) ?_
          refine RP_cond (decide (i < 0)) (fun n => rfl) (fun _ => ?_) (fun h => absurd (xi_lt (x := i) (y := 0) (show i.toInt < 0 by omega)) (of_decide_eq_false h))
          show RP 55 _ 14 [(0, .int i), (1, .int 0), (2, .int (-1))] [] _
          refine RP_done 4 (fun n => rfl) ?_
          refine Or.inr ⟨0, rfl, ?_⟩
          show RP 71 _ 20 [(0, .ref 0), (1, .int 1), (2, .int i), (3, .int l)] [.int 0] _
          refine RP_done 5 (fun n => rfl) ?_
          exact ⟨rfl, _, rfl⟩
        · obtain rfl : f = 2 := xi_eq e9
          show RP 71 _ 14 [(0, .ref 0), (1, .int 2), (2, .int i), (3, .int l)] [.int 2, .ref 2, .int 0, .int i] _
          refine RP_step (pc1 := 17) (L1 := [(0, .ref 0), (1, .int 2), (2, .int i), (3, .int l)]) (S1 := [.int (-1), .int 0, .int i]) 3 0 (fun n => rfl) ?_
          refine RP_call 55 [.int i, .int 0, .int (-1)] (fun n => rfl) ?_
          show RP 55 _ 0 [(0, .int i), (1, .int 0), (2, .int (-1))] [] _
          refine RP_step (pc1 := 2) (L1 := [(0, .int i), (1, .int 0), (2, .int (-1))]) (S1 := [.int 0, .int i]) 2 0 (fun n => rfl) ?_
          refine RP_cond (decide (i < 0)) (fun n => rfl) (fun _ => ?_) (fun h => absurd (xi_lt (x := i) (y := 0) (show i.toInt < 0 by omega)) (of_decide_eq_false h))
          show RP 55 _ 14 [(0, .int i), (1, .int 0), (2, .int (-1))] [] _
          refine RP_done 4 (fun n => rfl) ?_
          refine Or.inr ⟨0, rfl, ?_⟩
          show RP 71 _ 20 [(0, .ref 0), (1, .int 2), (2, .int i), (3, .int l)] [.int 0] _
          refine RP_done 5 (fun n => rfl) ?_
          exact ⟨rfl, _, rfl⟩
        · obtain rfl : f = 3 := xi_eq e9
          show RP 71 _ 14 [(0, .ref 0), (1, .int 3), (2, .int i), (3, .int l)] [.int 3, .ref 2, .int 0, .int i] _
          refine RP_step (pc1 := 17) (L1 := [(0, .ref 0), (1, .int 3), (2, .int i), (3, .int l)]) (S1 := [.int (-1), .int 0, .int i]) 3 0 (fun n => rfl) ?_
          refine RP_call 55 [.int i, .int 0, .int (-1)] (fun n => rfl) ?_
          show RP 55 _ 0 [(0, .int i), (1, .int 0), (2, .int (-1))] [] _
          refine RP_step (pc1 := 2) (L1 := [(0, .int i), (1, .int 0), (2, .int (-1))]) (S1 := [.int 0, .int i]) 2 0 (fun n => rfl) ?_
          refine RP_cond (decide (i < 0)) (fun n => rfl) (fun _ => ?_) (fun h => absurd (xi_lt (x := i) (y := 0) (show i.toInt < 0 by omega)) (of_decide_eq_false h))
          show RP 55 _ 14 [(0, .int i), (1, .int 0), (2, .int (-1))] [] _
          refine RP_done 4 (fun n => rfl) ?_
          refine Or.inr ⟨0, rfl, ?_⟩
          show RP 71 _ 20 [(0, .ref 0), (1, .int 3), (2, .int i), (3, .int l)] [.int 0] _
          refine RP_done 5 (fun n => rfl) ?_
          exact ⟨rfl, _, rfl⟩
        · obtain rfl : f = 4 := xi_eq e9
          show RP 71 _ 14 [(0, .ref 0), (1, .int 4), (2, .int i), (3, .int l)] [.int 4, .ref 2, .int 0, .int i] _
          refine RP_step (pc1 := 17) (L1 := [(0, .ref 0), (1, .int 4), (2, .int i), (3, .int l)]) (S1 := [.int (-1), .int 0, .int i]) 3 0 (fun n => rfl) ?_
          refine RP_call 55 [.int i, .int 0, .int (-1)] (fun n => rfl) ?_
          show RP 55 _ 0 [(0, .int i), (1, .int 0), (2, .int (-1))] [] _
          refine RP_step (pc1 := 2) (L1 := [(0, .int i), (1, .int 0), (2, .int (-1))]) (S1 := [.int 0, .int i]) 2 0 (fun n => rfl) ?_
          refine RP_cond (decide (i < 0)) (fun n => rfl) (fun _ => ?_) (fun h => absurd (xi_lt (x := i) (y := 0) (show i.toInt < 0 by omega)) (of_decide_eq_false h))
          show RP 55 _ 14 [(0, .int i), (1, .int 0), (2, .int (-1))] [] _
          refine RP_done 4 (fun n => rfl) ?_
          refine Or.inr ⟨0, rfl, ?_⟩
          show RP 71 _ 20 [(0, .ref 0), (1, .int 4), (2, .int i), (3, .int l)] [.int 0] _
          refine RP_done 5 (fun n => rfl) ?_
          exact ⟨rfl, _, rfl⟩
        · obtain rfl : f = 5 := xi_eq e9
          show RP 71 _ 14 [(0, .ref 0), (1, .int 5), (2, .int i), (3, .int l)] [.int 5, .ref 2, .int 0, .int i] _
          refine RP_step (pc1 := 17) (L1 := [(0, .ref 0), (1, .int 5), (2, .int i), (3, .int l)]) (S1 := [.int (-1), .int 0, .int i]) 3 0 (fun n => rfl) ?_
          refine RP_call 55 [.int i, .int 0, .int (-1)] (fun n => rfl) ?_
          show RP 55 _ 0 [(0, .int i), (1, .int 0), (2, .int (-1))] [] _
          refine RP_step (pc1 := 2) (L1 := [(0, .int i), (1, .int 0), (2, .int (-1))]) (S1 := [.int 0, .int i]) 2 0 (fun n => rfl) ?_
          refine RP_cond (decide (i < 0)) (fun n => rfl) (fun _ => ?_) (fun h => absurd (xi_lt (x := i) (y := 0) (show i.toInt < 0 by omega)) (of_decide_eq_false h))
          show RP 55 _ 14 [(0, .int i), (1, .int 0), (2, .int (-1))] [] _
          refine RP_done 4 (fun n => rfl) ?_
          refine Or.inr ⟨0, rfl, ?_⟩
          show RP 71 _ 20 [(0, .ref 0), (1, .int 5), (2, .int i), (3, .int l)] [.int 0] _
          refine RP_done 5 (fun n => rfl) ?_
          exact ⟨rfl, _, rfl⟩
      · have h11 := of_decide_eq_false hh
        have h12 : 0 ≤ i.toInt := xj_nlt h11
        show RP 28 _ 11 [(0, .ref 1), (1, .int f), (2, .int i)] [] _
        refine RP_step (pc1 := 17) (L1 := [(0, .ref 1), (1, .int f), (2, .int i)]) (S1 := [.int f, .ref 2, .int i]) 4 0 (fun n => rfl) ?_
        rcases (show f.toInt = 0 ∨ f.toInt = 1 ∨ f.toInt = 2 ∨ f.toInt = 3 ∨ f.toInt = 4 ∨ f.toInt = 5 by omega) with e9 | e9 | e9 | e9 | e9 | e9
        · obtain rfl : f = 0 := xi_eq e9
          show RP 28 _ 17 [(0, .ref 1), (1, .int 0), (2, .int i)] [.int 0, .ref 2, .int i] _
          refine RP_step (pc1 := 18) (L1 := [(0, .ref 1), (1, .int 0), (2, .int i)]) (S1 := [.int 0, .int i]) 1 0 (fun n => rfl) ?_
          refine RP_cond (decide (0 ≤ i)) (fun n => rfl) (fun _ => ?_) (fun h => absurd (xi_le (x := 0) (y := i) (show 0 ≤ i.toInt by omega)) (of_decide_eq_false h))
          show RP 28 _ 25 [(0, .ref 1), (1, .int 0), (2, .int i)] [] _
          refine RP_done 4 (fun n => rfl) ?_
          refine Or.inr ⟨0, rfl, ?_⟩
          show RP 12 _ 9 [(0, .ref 0), (1, .int 0), (2, .int i), (3, .int l)] [.int 0] _
          refine RP_done 5 (fun n => rfl) ?_
          show RP 71 _ 0 [(0, .ref 0), (1, .int 0), (2, .int i), (3, .int l)] [] _
          refine RP_step (pc1 := 1) (L1 := [(0, .ref 0), (1, .int 0), (2, .int i), (3, .int l)]) (S1 := [.int 0]) 1 0 (fun n => rfl) ?_
          refine RP_call 56 [.int 0] (fun n => rfl) ?_
          show RP 56 _ 0 [(0, .int 0)] [] _
          refine RP_done 15 (fun n => rfl) ?_
          refine Or.inr ⟨1, rfl, ?_⟩
          show RP 71 _ 4 [(0, .ref 0), (1, .int 0), (2, .int i), (3, .int l)] [.int 1] _
          refine RP_step (pc1 := 17) (L1 := [(0, .ref 0), (1, .int 0), (2, .int i), (3, .int l)]) (S1 := [.int (-1), .int 0, .int i]) 9 0 (fun n => rfl) ?_
          refine RP_call 55 [.int i, .int 0, .int (-1)] (fun n => rfl) ?_
          show RP 55 _ 0 [(0, .int i), (1, .int 0), (2, .int (-1))] [] _
          refine RP_step (pc1 := 2) (L1 := [(0, .int i), (1, .int 0), (2, .int (-1))]) (S1 := [.int 0, .int i]) 2 0 (fun n => rfl) ?_
          refine RP_cond (decide (i < 0)) (fun n => rfl) (fun h => absurd (of_decide_eq_true h) (xi_nlt (x := i) (y := 0) (show 0 ≤ i.toInt by omega))) (fun _ => ?_)
          show RP 55 _ 5 [(0, .int i), (1, .int 0), (2, .int (-1))] [] _
          refine RP_step (pc1 := 7) (L1 := [(0, .int i), (1, .int 0), (2, .int (-1))]) (S1 := [.int (-1), .int i]) 2 0 (fun n => rfl) ?_
          refine RP_cond (decide ((-1) < i)) (fun n => rfl) (fun _ => ?_) (fun h => absurd (xi_lt (x := (-1)) (y := i) (show -1 < i.toInt by omega)) (of_decide_eq_false h))
          show RP 55 _ 14 [(0, .int i), (1, .int 0), (2, .int (-1))] [] _
          refine RP_done 4 (fun n => rfl) ?_
          refine Or.inr ⟨0, rfl, ?_⟩
          show RP 71 _ 20 [(0, .ref 0), (1, .int 0), (2, .int i), (3, .int l)] [.int 0] _
          refine RP_done 5 (fun n => rfl) ?_
          exact ⟨rfl, _, rfl⟩
        · obtain rfl : f = 1 := xi_eq e9
          show RP 28 _ 17 [(0, .ref 1), (1, .int 1), (2, .int i)] [.int 1, .ref 2, .int i] _
          refine RP_step (pc1 := 18) (L1 := [(0, .ref 1), (1, .int 1), (2, .int i)]) (S1 := [.int 0, .int i]) 1 0 (fun n => rfl) ?_
          refine RP_cond (decide (0 ≤ i)) (fun n => rfl) (fun _ => ?_) (fun h => absurd (xi_le (x := 0) (y := i) (show 0 ≤ i.toInt by omega)) (of_decide_eq_false h))
          show RP 28 _ 25 [(0, .ref 1), (1, .int 1), (2, .int i)] [] _
          refine RP_done 4 (fun n => rfl) ?_
          refine Or.inr ⟨0, rfl, ?_⟩
          show RP 12 _ 9 [(0, .ref 0), (1, .int 1), (2, .int i), (3, .int l)] [.int 0] _
          refine RP_done 5 (fun n => rfl) ?_
          show RP 71 _ 0 [(0, .ref 0), (1, .int 1), (2, .int i), (3, .int l)] [] _
          refine RP_step (pc1 := 1) (L1 := [(0, .ref 0), (1, .int 1), (2, .int i), (3, .int l)]) (S1 := [.int 1]) 1 0 (fun n => rfl) ?_
          refine RP_call 56 [.int 1] (fun n => rfl) ?_
          show RP 56 _ 0 [(0, .int 1)] [] _
          refine RP_done 15 (fun n => rfl) ?_
          refine Or.inr ⟨1, rfl, ?_⟩
          show RP 71 _ 4 [(0, .ref 0), (1, .int 1), (2, .int i), (3, .int l)] [.int 1] _
          refine RP_step (pc1 := 17) (L1 := [(0, .ref 0), (1, .int 1), (2, .int i), (3, .int l)]) (S1 := [.int (-1), .int 0, .int i]) 9 0 (fun n => rfl) ?_
          refine RP_call 55 [.int i, .int 0, .int (-1)] (fun n => rfl) ?_
          show RP 55 _ 0 [(0, .int i), (1, .int 0), (2, .int (-1))] [] _
          refine RP_step (pc1 := 2) (L1 := [(0, .int i), (1, .int 0), (2, .int (-1))]) (S1 := [.int 0, .int i]) 2 0 (fun n => rfl) ?_
          refine RP_cond (decide (i < 0)) (fun n => rfl) (fun h => absurd (of_decide_eq_true h) (xi_nlt (x := i) (y := 0) (show 0 ≤ i.toInt by omega))) (fun _ => ?_)
          show RP 55 _ 5 [(0, .int i), (1, .int 0), (2, .int (-1))] [] _
          refine RP_step (pc1 := 7) (L1 := [(0, .int i), (1, .int 0), (2, .int (-1))]) (S1 := [.int (-1), .int i]) 2 0 (fun n => rfl) ?_
          refine RP_cond (decide ((-1) < i)) (fun n => rfl) (fun _ => ?_) (fun h => absurd (xi_lt (x := (-1)) (y := i) (show -1 < i.toInt by omega)) (of_decide_eq_false h))
          show RP 55 _ 14 [(0, .int i), (1, .int 0), (2, .int (-1))] [] _
          refine RP_done 4 (fun n => rfl) ?_
          refine Or.inr ⟨0, rfl, ?_⟩
          show RP 71 _ 20 [(0, .ref 0), (1, .int 1), (2, .int i), (3, .int l)] [.int 0] _
          refine RP_done 5 (fun n => rfl) ?_
          exact ⟨rfl, _, rfl⟩
        · obtain rfl : f = 2 := xi_eq e9
          show RP 28 _ 17 [(0, .ref 1), (1, .int 2), (2, .int i)] [.int 2, .ref 2, .int i] _
          refine RP_step (pc1 := 18) (L1 := [(0, .ref 1), (1, .int 2), (2, .int i)]) (S1 := [.int 0, .int i]) 1 0 (fun n => rfl) ?_
          refine RP_cond (decide (0 ≤ i)) (fun n => rfl) (fun _ => ?_) (fun h => absurd (xi_le (x := 0) (y := i) (show 0 ≤ i.toInt by omega)) (of_decide_eq_false h))
          show RP 28 _ 25 [(0, .ref 1), (1, .int 2), (2, .int i)] [] _
          refine RP_done 4 (fun n => rfl) ?_
          refine Or.inr ⟨0, rfl, ?_⟩
          show RP 12 _ 9 [(0, .ref 0), (1, .int 2), (2, .int i), (3, .int l)] [.int 0] _
          refine RP_done 5 (fun n => rfl) ?_
          show RP 71 _ 0 [(0, .ref 0), (1, .int 2), (2, .int i), (3, .int l)] [] _
          refine RP_step (pc1 := 1) (L1 := [(0, .ref 0), (1, .int 2), (2, .int i), (3, .int l)]) (S1 := [.int 2]) 1 0 (fun n => rfl) ?_
          refine RP_call 56 [.int 2] (fun n => rfl) ?_
          show RP 56 _ 0 [(0, .int 2)] [] _
          refine RP_done 15 (fun n => rfl) ?_
          refine Or.inr ⟨1, rfl, ?_⟩
          show RP 71 _ 4 [(0, .ref 0), (1, .int 2), (2, .int i), (3, .int l)] [.int 1] _
          refine RP_step (pc1 := 17) (L1 := [(0, .ref 0), (1, .int 2), (2, .int i), (3, .int l)]) (S1 := [.int (-1), .int 0, .int i]) 9 0 (fun n => rfl) ?_
          refine RP_call 55 [.int i, .int 0, .int (-1)] (fun n => rfl) ?_
          show RP 55 _ 0 [(0, .int i), (1, .int 0), (2, .int (-1))] [] _
          refine RP_step (pc1 := 2) (L1 := [(0, .int i), (1, .int 0), (2, .int (-1))]) (S1 := [.int 0, .int i]) 2 0 (fun n => rfl) ?_
          refine RP_cond (decide (i < 0)) (fun n => rfl) (fun h => absurd (of_decide_eq_true h) (xi_nlt (x := i) (y := 0) (show 0 ≤ i.toInt by omega))) (fun _ => ?_)
          show RP 55 _ 5 [(0, .int i), (1, .int 0), (2, .int (-1))] [] _
          refine RP_step (pc1 := 7) (L1 := [(0, .int i), (1, .int 0), (2, .int (-1))]) (S1 := [.int (-1), .int i]) 2 0 (fun n => rfl) ?_
          refine RP_cond (decide ((-1) < i)) (fun n => rfl) (fun _ => ?_) (fun h => absurd (xi_lt (x := (-1)) (y := i) (show -1 < i.toInt by omega)) (of_decide_eq_false h))
          show RP 55 _ 14 [(0, .int i), (1, .int 0), (2, .int (-1))] [] _
          refine RP_done 4 (fun n => rfl) ?_
          refine Or.inr ⟨0, rfl, ?_⟩
          show RP 71 _ 20 [(0, .ref 0), (1, .int 2), (2, .int i), (3, .int l)] [.int 0] _
          refine RP_done 5 (fun n => rfl) ?_
          exact ⟨rfl, _, rfl⟩
        · obtain rfl : f = 3 := xi_eq e9
          show RP 28 _ 17 [(0, .ref 1), (1, .int 3), (2, .int i)] [.int 3, .ref 2, .int i] _
          refine RP_step (pc1 := 18) (L1 := [(0, .ref 1), (1, .int 3), (2, .int i)]) (S1 := [.int 0, .int i]) 1 0 (fun n => rfl) ?_
          refine RP_cond (decide (0 ≤ i)) (fun n => rfl) (fun _ => ?_) (fun h => absurd (xi_le (x := 0) (y := i) (show 0 ≤ i.toInt by omega)) (of_decide_eq_false h))
          show RP 28 _ 25 [(0, .ref 1), (1, .int 3), (2, .int i)] [] _
          refine RP_done 4 (fun n => rfl) ?_
          refine Or.inr ⟨0, rfl, ?_⟩
          show RP 12 _ 9 [(0, .ref 0), (1, .int 3), (2, .int i), (3, .int l)] [.int 0] _
          refine RP_done 5 (fun n => rfl) ?_
          show RP 71 _ 0 [(0, .ref 0), (1, .int 3), (2, .int i), (3, .int l)] [] _
          refine RP_step (pc1 := 1) (L1 := [(0, .ref 0), (1, .int 3), (2, .int i), (3, .int l)]) (S1 := [.int 3]) 1 0 (fun n => rfl) ?_
          refine RP_call 56 [.int 3] (fun n => rfl) ?_
          show RP 56 _ 0 [(0, .int 3)] [] _
          refine RP_done 15 (fun n => rfl) ?_
          refine Or.inr ⟨1, rfl, ?_⟩
          show RP 71 _ 4 [(0, .ref 0), (1, .int 3), (2, .int i), (3, .int l)] [.int 1] _
          refine RP_step (pc1 := 17) (L1 := [(0, .ref 0), (1, .int 3), (2, .int i), (3, .int l)]) (S1 := [.int (-1), .int 0, .int i]) 9 0 (fun n => rfl) ?_
          refine RP_call 55 [.int i, .int 0, .int (-1)] (fun n => rfl) ?_
          show RP 55 _ 0 [(0, .int i), (1, .int 0), (2, .int (-1))] [] _
          refine RP_step (pc1 := 2) (L1 := [(0, .int i), (1, .int 0), (2, .int (-1))]) (S1 := [.int 0, .int i]) 2 0 (fun n => rfl) ?_
          refine RP_cond (decide (i < 0)) (fun n => rfl) (fun h => absurd (of_decide_eq_true h) (xi_nlt (x := i) (y := 0) (show 0 ≤ i.toInt by omega))) (fun _ => ?_)
          show RP 55 _ 5 [(0, .int i), (1, .int 0), (2, .int (-1))] [] _
          refine RP_step (pc1 := 7) (L1 := [(0, .int i), (1, .int 0), (2, .int (-1))]) (S1 := [.int (-1), .int i]) 2 0 (fun n => rfl) ?_
          refine RP_cond (decide ((-1) < i)) (fun n => rfl) (fun _ => ?_) (fun h => absurd (xi_lt (x := (-1)) (y := i) (show -1 < i.toInt by omega)) (of_decide_eq_false h))
          show RP 55 _ 14 [(0, .int i), (1, .int 0), (2, .int (-1))] [] _
          refine RP_done 4 (fun n => rfl) ?_
          refine Or.inr ⟨0, rfl, ?_⟩
          show RP 71 _ 20 [(0, .ref 0), (1, .int 3), (2, .int i), (3, .int l)] [.int 0] _
          refine RP_done 5 (fun n => rfl) ?_
          exact ⟨rfl, _, rfl⟩
        · obtain rfl : f = 4 := xi_eq e9
          show RP 28 _ 17 [(0, .ref 1), (1, .int 4), (2, .int i)] [.int 4, .ref 2, .int i] _
          refine RP_step (pc1 := 18) (L1 := [(0, .ref 1), (1, .int 4), (2, .int i)]) (S1 := [.int 0, .int i]) 1 0 (fun n => rfl) ?_
          refine RP_cond (decide (0 ≤ i)) (fun n => rfl) (fun _ => ?_) (fun h => absurd (xi_le (x := 0) (y := i) (show 0 ≤ i.toInt by omega)) (of_decide_eq_false h))
          show RP 28 _ 25 [(0, .ref 1), (1, .int 4), (2, .int i)] [] _
          refine RP_done 4 (fun n => rfl) ?_
          refine Or.inr ⟨0, rfl, ?_⟩
          show RP 12 _ 9 [(0, .ref 0), (1, .int 4), (2, .int i), (3, .int l)] [.int 0] _
          refine RP_done 5 (fun n => rfl) ?_
          show RP 71 _ 0 [(0, .ref 0), (1, .int 4), (2, .int i), (3, .int l)] [] _
          refine RP_step (pc1 := 1) (L1 := [(0, .ref 0), (1, .int 4), (2, .int i), (3, .int l)]) (S1 := [.int 4]) 1 0 (fun n => rfl) ?_
          refine RP_call 56 [.int 4] (fun n => rfl) ?_
          show RP 56 _ 0 [(0, .int 4)] [] _
          refine RP_done 15 (fun n => rfl) ?_
          refine Or.inr ⟨1, rfl, ?_⟩
          show RP 71 _ 4 [(0, .ref 0), (1, .int 4), (2, .int i), (3, .int l)] [.int 1] _
          refine RP_step (pc1 := 17) (L1 := [(0, .ref 0), (1, .int 4), (2, .int i), (3, .int l)]) (S1 := [.int (-1), .int 0, .int i]) 9 0 (fun n => rfl) ?_
          refine RP_call 55 [.int i, .int 0, .int (-1)] (fun n => rfl) ?_
          show RP 55 _ 0 [(0, .int i), (1, .int 0), (2, .int (-1))] [] _
          refine RP_step (pc1 := 2) (L1 := [(0, .int i), (1, .int 0), (2, .int (-1))]) (S1 := [.int 0, .int i]) 2 0 (fun n => rfl) ?_
          refine RP_cond (decide (i < 0)) (fun n => rfl) (fun h => absurd (of_decide_eq_true h) (xi_nlt (x := i) (y := 0) (show 0 ≤ i.toInt by omega))) (fun _ => ?_)
          show RP 55 _ 5 [(0, .int i), (1, .int 0), (2, .int (-1))] [] _
          refine RP_step (pc1 := 7) (L1 := [(0, .int i), (1, .int 0), (2, .int (-1))]) (S1 := [.int (-1), .int i]) 2 0 (fun n => rfl) ?_
          refine RP_cond (decide ((-1) < i)) (fun n => rfl) (fun _ => ?_) (fun h => absurd (xi_lt (x := (-1)) (y := i) (show -1 < i.toInt by omega)) (of_decide_eq_false h))
          show RP 55 _ 14 [(0, .int i), (1, .int 0), (2, .int (-1))] [] _
          refine RP_done 4 (fun n => rfl) ?_
          refine Or.inr ⟨0, rfl, ?_⟩
          show RP 71 _ 20 [(0, .ref 0), (1, .int 4), (2, .int i), (3, .int l)] [.int 0] _
          refine RP_done 5 (fun n => rfl) ?_
          exact ⟨rfl, _, rfl⟩
        · obtain rfl : f = 5 := xi_eq e9
          show RP 28 _ 17 [(0, .ref 1), (1, .int 5), (2, .int i)] [.int 5, .ref 2, .int i] _
          refine RP_step (pc1 := 18) (L1 := [(0, .ref 1), (1, .int 5), (2, .int i)]) (S1 := [.int 0, .int i]) 1 0 (fun n => rfl) ?_
          refine RP_cond (decide (0 ≤ i)) (fun n => rfl) (fun _ => ?_) (fun h => absurd (xi_le (x := 0) (y := i) (show 0 ≤ i.toInt by omega)) (of_decide_eq_false h))
          show RP 28 _ 25 [(0, .ref 1), (1, .int 5), (2, .int i)] [] _
          refine RP_done 4 (fun n => rfl) ?_
          refine Or.inr ⟨0, rfl, ?_⟩
          show RP 12 _ 9 [(0, .ref 0), (1, .int 5), (2, .int i), (3, .int l)] [.int 0] _
          refine RP_done 5 (fun n => rfl) ?_
          show RP 71 _ 0 [(0, .ref 0), (1, .int 5), (2, .int i), (3, .int l)] [] _
          refine RP_step (pc1 := 1) (L1 := [(0, .ref 0), (1, .int 5), (2, .int i), (3, .int l)]) (S1 := [.int 5]) 1 0 (fun n => rfl) ?_
          refine RP_call 56 [.int 5] (fun n => rfl) ?_
          show RP 56 _ 0 [(0, .int 5)] [] _
          refine RP_done 15 (fun n => rfl) ?_
          refine Or.inr ⟨1, rfl, ?_⟩
          show RP 71 _ 4 [(0, .ref 0), (1, .int 5), (2, .int i), (3, .int l)] [.int 1] _
          refine RP_step (pc1 := 17) (L1 := [(0, .ref 0), (1, .int 5), (2, .int i), (3, .int l)]) (S1 := [.int (-1), .int 0, .int i]) 9 0 (fun n => rfl) ?_
          refine RP_call 55 [.int i, .int 0, .int (-1)] (fun n => rfl) ?_
          show RP 55 _ 0 [(0, .int i), (1, .int 0), (2, .int (-1))] [] _
          refine RP_step (pc1 := 2) (L1 := [(0, .int i), (1, .int 0), (2, .int (-1))]) (S1 := [.int 0, .int i]) 2 0 (fun n => rfl) ?_
          refine RP_cond (decide (i < 0)) (fun n => rfl) (fun h => absurd (of_decide_eq_true h) (xi_nlt (x := i) (y := 0) (show 0 ≤ i.toInt by omega))) (fun _ => ?_)
          show RP 55 _ 5 [(0, .int i), (1, .int 0), (2, .int (-1))] [] _
          refine RP_step (pc1 := 7) (L1 := [(0, .int i), (1, .int 0), (2, .int (-1))]) (S1 := [.int (-1), .int i]) 2 0 (fun n => rfl) ?_
          refine RP_cond (decide ((-1) < i)) (fun n => rfl) (fun _ => ?_) (fun h => absurd (xi_lt (x := (-1)) (y := i) (show -1 < i.toInt by omega)) (of_decide_eq_false h))
          show RP 55 _ 14 [(0, .int i), (1, .int 0), (2, .int (-1))] [] _
          refine RP_done 4 (fun n => rfl) ?_
          refine Or.inr ⟨0, rfl, ?_⟩
          show RP 71 _ 20 [(0, .ref 0), (1, .int 5), (2, .int i), (3, .int l)] [.int 0] _
          refine RP_done 5 (fun n => rfl) ?_
          exact ⟨rfl, _, rfl⟩

set_option maxHeartbeats 8000000 in
set_option maxRecDepth 1000000 in
theorem sm_15 (f coins : Int32) : Same 15 85 [.int f, .int coins] := by
  refine Same_of ?_
  show RP 15 _ 0 [(0, .ref 0), (1, .int f), (2, .int coins)] [] _
  refine RP_step (pc1 := 1) (L1 := [(0, .ref 0), (1, .int f), (2, .int coins)]) (S1 := [.int f]) 1 0 (fun n => rfl) ?_
  refine RP_call 22 [.int f] (fun n => rfl) ?_
  show RP 22 _ 0 [(0, .int f)] [] _
  refine RP_step (pc1 := 1) (L1 := [(0, .int f)]) (S1 := [.int f]) 1 0 (fun n => rfl) ?_
  refine RP_cond (decide (f < 0)) (fun n => rfl) (fun hh => ?_) (fun hh => ?_)
  · have h1 := of_decide_eq_true hh
    have h2 : f.toInt < 0 := xj_lt h1
    show RP 22 _ 14 [(0, .int f)] [] _
    refine RP_done 4 (fun n => rfl) ?_
    refine Or.inr ⟨0, rfl, ?_⟩
    show RP 15 _ 4 [(0, .ref 0), (1, .int f), (2, .int coins)] [.int 0] _
    refine RP_done 5 (fun n => rfl) ?_
    show RP 85 _ 0 [(0, .ref 0), (1, .int f), (2, .int coins)] [] _
    refine RP_step (pc1 := 1) (L1 := [(0, .ref 0), (1, .int f), (2, .int coins)]) (S1 := [.int f]) 1 0 (fun n => rfl) ?_
    refine RP_call 56 [.int f] (fun n => rfl) ?_
    show RP 56 _ 0 [(0, .int f)] [] _
    refine RP_step (pc1 := 3) (L1 := [(0, .int f)]) (S1 := [.int 5, .int 0, .int f]) 3 0 (fun n => rfl) ?_
    refine RP_call 55 [.int f, .int 0, .int 5] (fun n => rfl) ?_
    show RP 55 _ 0 [(0, .int f), (1, .int 0), (2, .int 5)] [] _
    refine RP_step (pc1 := 2) (L1 := [(0, .int f), (1, .int 0), (2, .int 5)]) (S1 := [.int 0, .int f]) 2 0 (fun n => rfl) ?_
    refine RP_cond (decide (f < 0)) (fun n => rfl) (fun _ => ?_) (fun h => absurd (xi_lt (x := f) (y := 0) (show f.toInt < 0 by omega)) (of_decide_eq_false h))
    show RP 55 _ 14 [(0, .int f), (1, .int 0), (2, .int 5)] [] _
    refine RP_done 4 (fun n => rfl) ?_
    refine Or.inr ⟨0, rfl, ?_⟩
    show RP 56 _ 6 [(0, .int f)] [.int 0] _
    refine RP_done 3 (fun n => rfl) ?_
    refine Or.inr ⟨0, rfl, ?_⟩
    show RP 85 _ 4 [(0, .ref 0), (1, .int f), (2, .int coins)] [.int 0] _
    refine RP_done 5 (fun n => rfl) ?_
    exact ⟨rfl, _, rfl⟩
  · have h3 := of_decide_eq_false hh
    have h4 : 0 ≤ f.toInt := xj_nlt h3
    show RP 22 _ 4 [(0, .int f)] [] _
    refine RP_step (pc1 := 7) (L1 := [(0, .int f)]) (S1 := [.int 6, .int f]) 2 0 (fun n => rfl) ?_
    refine RP_cond (decide (6 ≤ f)) (fun n => rfl) (fun hh => ?_) (fun hh => ?_)
    · have h5 := of_decide_eq_true hh
      have h6 : 6 ≤ f.toInt := xj_le h5
      show RP 22 _ 14 [(0, .int f)] [] _
      refine RP_done 4 (fun n => rfl) ?_
      refine Or.inr ⟨0, rfl, ?_⟩
      show RP 15 _ 4 [(0, .ref 0), (1, .int f), (2, .int coins)] [.int 0] _
      refine RP_done 5 (fun n => rfl) ?_
      show RP 85 _ 0 [(0, .ref 0), (1, .int f), (2, .int coins)] [] _
      refine RP_step (pc1 := 1) (L1 := [(0, .ref 0), (1, .int f), (2, .int coins)]) (S1 := [.int f]) 1 0 (fun n => rfl) ?_
      refine RP_call 56 [.int f] (fun n => rfl) ?_
      show RP 56 _ 0 [(0, .int f)] [] _
      refine RP_step (pc1 := 3) (L1 := [(0, .int f)]) (S1 := [.int 5, .int 0, .int f]) 3 0 (fun n => rfl) ?_
      refine RP_call 55 [.int f, .int 0, .int 5] (fun n => rfl) ?_
      show RP 55 _ 0 [(0, .int f), (1, .int 0), (2, .int 5)] [] _
      refine RP_step (pc1 := 2) (L1 := [(0, .int f), (1, .int 0), (2, .int 5)]) (S1 := [.int 0, .int f]) 2 0 (fun n => rfl) ?_
      refine RP_cond (decide (f < 0)) (fun n => rfl) (fun h => absurd (of_decide_eq_true h) (xi_nlt (x := f) (y := 0) (show 0 ≤ f.toInt by omega))) (fun _ => ?_)
      show RP 55 _ 5 [(0, .int f), (1, .int 0), (2, .int 5)] [] _
      refine RP_step (pc1 := 7) (L1 := [(0, .int f), (1, .int 0), (2, .int 5)]) (S1 := [.int 5, .int f]) 2 0 (fun n => rfl) ?_
      refine RP_cond (decide (5 < f)) (fun n => rfl) (fun _ => ?_) (fun h => absurd (xi_lt (x := 5) (y := f) (show 5 < f.toInt by omega)) (of_decide_eq_false h))
      show RP 55 _ 14 [(0, .int f), (1, .int 0), (2, .int 5)] [] _
      refine RP_done 4 (fun n => rfl) ?_
      refine Or.inr ⟨0, rfl, ?_⟩
      show RP 56 _ 6 [(0, .int f)] [.int 0] _
      refine RP_done 3 (fun n => rfl) ?_
      refine Or.inr ⟨0, rfl, ?_⟩
      show RP 85 _ 4 [(0, .ref 0), (1, .int f), (2, .int coins)] [.int 0] _
      refine RP_done 5 (fun n => rfl) ?_
      exact ⟨rfl, _, rfl⟩
    · have h7 := of_decide_eq_false hh
      have h8 : f.toInt < 6 := xj_nle h7
      show RP 22 _ 10 [(0, .int f)] [] _
      refine RP_done 5 (fun n => rfl) ?_
      refine Or.inr ⟨1, rfl, ?_⟩
      show RP 15 _ 4 [(0, .ref 0), (1, .int f), (2, .int coins)] [.int 1] _
      refine RP_step (pc1 := 9) (L1 := [(0, .ref 0), (1, .int f), (2, .int coins)]) (S1 := [.int 1, .int coins]) 3 0 (fun n => rfl) ?_
      refine RP_cond (decide (coins < 1)) (fun n => rfl) (fun hh => ?_) (fun hh => ?_)
      · have h9 := of_decide_eq_true hh
        have h10 : coins.toInt < 1 := xj_lt h9
        show RP 15 _ 18 [(0, .ref 0), (1, .int f), (2, .int coins)] [] _
        refine RP_done 4 (fun n => rfl) ?_
        show RP 85 _ 0 [(0, .ref 0), (1, .int f), (2, .int coins)] [] _
        refine RP_step (pc1 := 1) (L1 := [(0, .ref 0), (1, .int f), (2, .int coins)]) (S1 := [.int f]) 1 0 (fun n => rfl) ?_
        refine RP_call 56 [.int f] (fun n => rfl) ?_
        show RP 56 _ 0 [(0, .int f)] [] _
        refine RP_step (pc1 := 3) (L1 := [(0, .int f)]) (S1 := [.int 5, .int 0, .int f]) 3 0 (fun n => rfl) ?_
        refine RP_call 55 [.int f, .int 0, .int 5] (fun n => rfl) ?_
        show RP 55 _ 0 [(0, .int f), (1, .int 0), (2, .int 5)] [] _
        refine RP_step (pc1 := 2) (L1 := [(0, .int f), (1, .int 0), (2, .int 5)]) (S1 := [.int 0, .int f]) 2 0 (fun n => rfl) ?_
        refine RP_cond (decide (f < 0)) (fun n => rfl) (fun h => absurd (of_decide_eq_true h) (xi_nlt (x := f) (y := 0) (show 0 ≤ f.toInt by omega))) (fun _ => ?_)
        show RP 55 _ 5 [(0, .int f), (1, .int 0), (2, .int 5)] [] _
        refine RP_step (pc1 := 7) (L1 := [(0, .int f), (1, .int 0), (2, .int 5)]) (S1 := [.int 5, .int f]) 2 0 (fun n => rfl) ?_
        refine RP_cond (decide (5 < f)) (fun n => rfl) (fun h => absurd (of_decide_eq_true h) (xi_nlt (x := 5) (y := f) (show f.toInt ≤ 5 by omega))) (fun _ => ?_)
        show RP 55 _ 10 [(0, .int f), (1, .int 0), (2, .int 5)] [] _
        refine RP_done 5 (fun n => rfl) ?_
        refine Or.inr ⟨1, rfl, ?_⟩
        show RP 56 _ 6 [(0, .int f)] [.int 1] _
        refine RP_done 3 (fun n => rfl) ?_
        refine Or.inr ⟨1, rfl, ?_⟩
        show RP 85 _ 4 [(0, .ref 0), (1, .int f), (2, .int coins)] [.int 1] _
        refine RP_step (pc1 := 11) (L1 := [(0, .ref 0), (1, .int f), (2, .int coins)]) (S1 := [.int 99, .int 1, .int coins]) 4 0 (fun n => rfl) ?_
        refine RP_call 55 [.int coins, .int 1, .int 99] (fun n => rfl) ?_
        show RP 55 _ 0 [(0, .int coins), (1, .int 1), (2, .int 99)] [] _
        refine RP_step (pc1 := 2) (L1 := [(0, .int coins), (1, .int 1), (2, .int 99)]) (S1 := [.int 1, .int coins]) 2 0 (fun n => rfl) ?_
        refine RP_cond (decide (coins < 1)) (fun n => rfl) (fun _ => ?_) (fun h => absurd (xi_lt (x := coins) (y := 1) (show coins.toInt < 1 by omega)) (of_decide_eq_false h))
        show RP 55 _ 14 [(0, .int coins), (1, .int 1), (2, .int 99)] [] _
        refine RP_done 4 (fun n => rfl) ?_
        refine Or.inr ⟨0, rfl, ?_⟩
        show RP 85 _ 14 [(0, .ref 0), (1, .int f), (2, .int coins)] [.int 0] _
        refine RP_done 5 (fun n => rfl) ?_
        exact ⟨rfl, _, rfl⟩
      · have h11 := of_decide_eq_false hh
        have h12 : 1 ≤ coins.toInt := xj_nlt h11
        show RP 15 _ 12 [(0, .ref 0), (1, .int f), (2, .int coins)] [] _
        refine RP_step (pc1 := 15) (L1 := [(0, .ref 0), (1, .int f), (2, .int coins)]) (S1 := [.int 99, .int coins]) 2 0 (fun n => rfl) ?_
        refine RP_cond (decide (coins ≤ 99)) (fun n => rfl) (fun hh => ?_) (fun hh => ?_)
        · have h13 := of_decide_eq_true hh
          have h14 : coins.toInt ≤ 99 := xj_le h13
          show RP 15 _ 20 [(0, .ref 0), (1, .int f), (2, .int coins)] [] _
          refine RP_step (pc1 := 25) (L1 := [(0, .ref 0), (1, .int f), (2, .int coins)]) (S1 := [.int f, .ref 8]) 3 0 (fun n => rfl) ?_
          rcases (show f.toInt = 0 ∨ f.toInt = 1 ∨ f.toInt = 2 ∨ f.toInt = 3 ∨ f.toInt = 4 ∨ f.toInt = 5 by omega) with e9 | e9 | e9 | e9 | e9 | e9
          · obtain rfl : f = 0 := xi_eq e9
            show RP 15 _ 25 [(0, .ref 0), (1, .int 0), (2, .int coins)] [.int 0, .ref 8] _
            refine RP_step (pc1 := 33) (L1 := [(3, .int 1), (0, .ref 0), (1, .int 0), (2, .int coins)]) (S1 := [.int coins, .int 0, .ref 8]) 6 0 (fun n => rfl) ?_
            refine RP_ast (fun n => rfl) rfl (by decide) ?_
            show RP 15 _ 34 [(3, .int 1), (0, .ref 0), (1, .int 0), (2, .int coins)] [] _
            refine RP_done 4 (fun n => rfl) ?_
            show RP 85 _ 0 [(0, .ref 0), (1, .int 0), (2, .int coins)] [] _
            refine RP_step (pc1 := 1) (L1 := [(0, .ref 0), (1, .int 0), (2, .int coins)]) (S1 := [.int 0]) 1 0 (fun n => rfl) ?_
            refine RP_call 56 [.int 0] (fun n => rfl) ?_
            show RP 56 _ 0 [(0, .int 0)] [] _
            refine RP_done 15 (fun n => rfl) ?_
            refine Or.inr ⟨1, rfl, ?_⟩
            show RP 85 _ 4 [(0, .ref 0), (1, .int 0), (2, .int coins)] [.int 1] _
            refine RP_step (pc1 := 11) (L1 := [(0, .ref 0), (1, .int 0), (2, .int coins)]) (S1 := [.int 99, .int 1, .int coins]) 4 0 (fun n => rfl) ?_
            refine RP_call 55 [.int coins, .int 1, .int 99] (fun n => rfl) ?_
            show RP 55 _ 0 [(0, .int coins), (1, .int 1), (2, .int 99)] [] _
            refine RP_step (pc1 := 2) (L1 := [(0, .int coins), (1, .int 1), (2, .int 99)]) (S1 := [.int 1, .int coins]) 2 0 (fun n => rfl) ?_
            refine RP_cond (decide (coins < 1)) (fun n => rfl) (fun h => absurd (of_decide_eq_true h) (xi_nlt (x := coins) (y := 1) (show 1 ≤ coins.toInt by omega))) (fun _ => ?_)
            show RP 55 _ 5 [(0, .int coins), (1, .int 1), (2, .int 99)] [] _
            refine RP_step (pc1 := 7) (L1 := [(0, .int coins), (1, .int 1), (2, .int 99)]) (S1 := [.int 99, .int coins]) 2 0 (fun n => rfl) ?_
            refine RP_cond (decide (99 < coins)) (fun n => rfl) (fun h => absurd (of_decide_eq_true h) (xi_nlt (x := 99) (y := coins) (show coins.toInt ≤ 99 by omega))) (fun _ => ?_)
            show RP 55 _ 10 [(0, .int coins), (1, .int 1), (2, .int 99)] [] _
            refine RP_done 5 (fun n => rfl) ?_
            refine Or.inr ⟨1, rfl, ?_⟩
            show RP 85 _ 14 [(0, .ref 0), (1, .int 0), (2, .int coins)] [.int 1] _
            refine RP_step (pc1 := 32) (L1 := [(3, .int 1), (0, .ref 0), (1, .int 0), (2, .int coins)]) (S1 := [.int coins, .int 0, .ref 3]) 10 0 (fun n => rfl) ?_
            refine RP_ast (fun n => rfl) rfl (by decide) ?_
            show RP 85 _ 33 [(3, .int 1), (0, .ref 0), (1, .int 0), (2, .int coins)] [] _
            refine RP_done 4 (fun n => rfl) ?_
            exact ⟨rfl, _, rfl⟩
          · obtain rfl : f = 1 := xi_eq e9
            show RP 15 _ 25 [(0, .ref 0), (1, .int 1), (2, .int coins)] [.int 1, .ref 8] _
            refine RP_step (pc1 := 33) (L1 := [(3, .int 1), (0, .ref 0), (1, .int 1), (2, .int coins)]) (S1 := [.int coins, .int 1, .ref 8]) 6 0 (fun n => rfl) ?_
            refine RP_ast (fun n => rfl) rfl (by decide) ?_
            show RP 15 _ 34 [(3, .int 1), (0, .ref 0), (1, .int 1), (2, .int coins)] [] _
            refine RP_done 4 (fun n => rfl) ?_
            show RP 85 _ 0 [(0, .ref 0), (1, .int 1), (2, .int coins)] [] _
            refine RP_step (pc1 := 1) (L1 := [(0, .ref 0), (1, .int 1), (2, .int coins)]) (S1 := [.int 1]) 1 0 (fun n => rfl) ?_
            refine RP_call 56 [.int 1] (fun n => rfl) ?_
            show RP 56 _ 0 [(0, .int 1)] [] _
            refine RP_done 15 (fun n => rfl) ?_
            refine Or.inr ⟨1, rfl, ?_⟩
            show RP 85 _ 4 [(0, .ref 0), (1, .int 1), (2, .int coins)] [.int 1] _
            refine RP_step (pc1 := 11) (L1 := [(0, .ref 0), (1, .int 1), (2, .int coins)]) (S1 := [.int 99, .int 1, .int coins]) 4 0 (fun n => rfl) ?_
            refine RP_call 55 [.int coins, .int 1, .int 99] (fun n => rfl) ?_
            show RP 55 _ 0 [(0, .int coins), (1, .int 1), (2, .int 99)] [] _
            refine RP_step (pc1 := 2) (L1 := [(0, .int coins), (1, .int 1), (2, .int 99)]) (S1 := [.int 1, .int coins]) 2 0 (fun n => rfl) ?_
            refine RP_cond (decide (coins < 1)) (fun n => rfl) (fun h => absurd (of_decide_eq_true h) (xi_nlt (x := coins) (y := 1) (show 1 ≤ coins.toInt by omega))) (fun _ => ?_)
            show RP 55 _ 5 [(0, .int coins), (1, .int 1), (2, .int 99)] [] _
            refine RP_step (pc1 := 7) (L1 := [(0, .int coins), (1, .int 1), (2, .int 99)]) (S1 := [.int 99, .int coins]) 2 0 (fun n => rfl) ?_
            refine RP_cond (decide (99 < coins)) (fun n => rfl) (fun h => absurd (of_decide_eq_true h) (xi_nlt (x := 99) (y := coins) (show coins.toInt ≤ 99 by omega))) (fun _ => ?_)
            show RP 55 _ 10 [(0, .int coins), (1, .int 1), (2, .int 99)] [] _
            refine RP_done 5 (fun n => rfl) ?_
            refine Or.inr ⟨1, rfl, ?_⟩
            show RP 85 _ 14 [(0, .ref 0), (1, .int 1), (2, .int coins)] [.int 1] _
            refine RP_step (pc1 := 32) (L1 := [(3, .int 1), (0, .ref 0), (1, .int 1), (2, .int coins)]) (S1 := [.int coins, .int 1, .ref 3]) 10 0 (fun n => rfl) ?_
            refine RP_ast (fun n => rfl) rfl (by decide) ?_
            show RP 85 _ 33 [(3, .int 1), (0, .ref 0), (1, .int 1), (2, .int coins)] [] _
            refine RP_done 4 (fun n => rfl) ?_
            exact ⟨rfl, _, rfl⟩
          · obtain rfl : f = 2 := xi_eq e9
            show RP 15 _ 25 [(0, .ref 0), (1, .int 2), (2, .int coins)] [.int 2, .ref 8] _
            refine RP_step (pc1 := 33) (L1 := [(3, .int 1), (0, .ref 0), (1, .int 2), (2, .int coins)]) (S1 := [.int coins, .int 2, .ref 8]) 6 0 (fun n => rfl) ?_
            refine RP_ast (fun n => rfl) rfl (by decide) ?_
            show RP 15 _ 34 [(3, .int 1), (0, .ref 0), (1, .int 2), (2, .int coins)] [] _
            refine RP_done 4 (fun n => rfl) ?_
            show RP 85 _ 0 [(0, .ref 0), (1, .int 2), (2, .int coins)] [] _
            refine RP_step (pc1 := 1) (L1 := [(0, .ref 0), (1, .int 2), (2, .int coins)]) (S1 := [.int 2]) 1 0 (fun n => rfl) ?_
            refine RP_call 56 [.int 2] (fun n => rfl) ?_
            show RP 56 _ 0 [(0, .int 2)] [] _
            refine RP_done 15 (fun n => rfl) ?_
            refine Or.inr ⟨1, rfl, ?_⟩
            show RP 85 _ 4 [(0, .ref 0), (1, .int 2), (2, .int coins)] [.int 1] _
            refine RP_step (pc1 := 11) (L1 := [(0, .ref 0), (1, .int 2), (2, .int coins)]) (S1 := [.int 99, .int 1, .int coins]) 4 0 (fun n => rfl) ?_
            refine RP_call 55 [.int coins, .int 1, .int 99] (fun n => rfl) ?_
            show RP 55 _ 0 [(0, .int coins), (1, .int 1), (2, .int 99)] [] _
            refine RP_step (pc1 := 2) (L1 := [(0, .int coins), (1, .int 1), (2, .int 99)]) (S1 := [.int 1, .int coins]) 2 0 (fun n => rfl) ?_
            refine RP_cond (decide (coins < 1)) (fun n => rfl) (fun h => absurd (of_decide_eq_true h) (xi_nlt (x := coins) (y := 1) (show 1 ≤ coins.toInt by omega))) (fun _ => ?_)
            show RP 55 _ 5 [(0, .int coins), (1, .int 1), (2, .int 99)] [] _
            refine RP_step (pc1 := 7) (L1 := [(0, .int coins), (1, .int 1), (2, .int 99)]) (S1 := [.int 99, .int coins]) 2 0 (fun n => rfl) ?_
            refine RP_cond (decide (99 < coins)) (fun n => rfl) (fun h => absurd (of_decide_eq_true h) (xi_nlt (x := 99) (y := coins) (show coins.toInt ≤ 99 by omega))) (fun _ => ?_)
            show RP 55 _ 10 [(0, .int coins), (1, .int 1), (2, .int 99)] [] _
            refine RP_done 5 (fun n => rfl) ?_
            refine Or.inr ⟨1, rfl, ?_⟩
            show RP 85 _ 14 [(0, .ref 0), (1, .int 2), (2, .int coins)] [.int 1] _
            refine RP_step (pc1 := 32) (L1 := [(3, .int 1), (0, .ref 0), (1, .int 2), (2, .int coins)]) (S1 := [.int coins, .int 2, .ref 3]) 10 0 (fun n => rfl) ?_
            refine RP_ast (fun n => rfl) rfl (by decide) ?_
            show RP 85 _ 33 [(3, .int 1), (0, .ref 0), (1, .int 2), (2, .int coins)] [] _
            refine RP_done 4 (fun n => rfl) ?_
            exact ⟨rfl, _, rfl⟩
          · obtain rfl : f = 3 := xi_eq e9
            show RP 15 _ 25 [(0, .ref 0), (1, .int 3), (2, .int coins)] [.int 3, .ref 8] _
            refine RP_step (pc1 := 33) (L1 := [(3, .int 1), (0, .ref 0), (1, .int 3), (2, .int coins)]) (S1 := [.int coins, .int 3, .ref 8]) 6 0 (fun n => rfl) ?_
            refine RP_ast (fun n => rfl) rfl (by decide) ?_
            show RP 15 _ 34 [(3, .int 1), (0, .ref 0), (1, .int 3), (2, .int coins)] [] _
            refine RP_done 4 (fun n => rfl) ?_
            show RP 85 _ 0 [(0, .ref 0), (1, .int 3), (2, .int coins)] [] _
            refine RP_step (pc1 := 1) (L1 := [(0, .ref 0), (1, .int 3), (2, .int coins)]) (S1 := [.int 3]) 1 0 (fun n => rfl) ?_
            refine RP_call 56 [.int 3] (fun n => rfl) ?_
            show RP 56 _ 0 [(0, .int 3)] [] _
            refine RP_done 15 (fun n => rfl) ?_
            refine Or.inr ⟨1, rfl, ?_⟩
            show RP 85 _ 4 [(0, .ref 0), (1, .int 3), (2, .int coins)] [.int 1] _
            refine RP_step (pc1 := 11) (L1 := [(0, .ref 0), (1, .int 3), (2, .int coins)]) (S1 := [.int 99, .int 1, .int coins]) 4 0 (fun n => rfl) ?_
            refine RP_call 55 [.int coins, .int 1, .int 99] (fun n => rfl) ?_
            show RP 55 _ 0 [(0, .int coins), (1, .int 1), (2, .int 99)] [] _
            refine RP_step (pc1 := 2) (L1 := [(0, .int coins), (1, .int 1), (2, .int 99)]) (S1 := [.int 1, .int coins]) 2 0 (fun n => rfl) ?_
            refine RP_cond (decide (coins < 1)) (fun n => rfl) (fun h => absurd (of_decide_eq_true h) (xi_nlt (x := coins) (y := 1) (show 1 ≤ coins.toInt by omega))) (fun _ => ?_)
            show RP 55 _ 5 [(0, .int coins), (1, .int 1), (2, .int 99)] [] _
            refine RP_step (pc1 := 7) (L1 := [(0, .int coins), (1, .int 1), (2, .int 99)]) (S1 := [.int 99, .int coins]) 2 0 (fun n => rfl) ?_
            refine RP_cond (decide (99 < coins)) (fun n => rfl) (fun h => absurd (of_decide_eq_true h) (xi_nlt (x := 99) (y := coins) (show coins.toInt ≤ 99 by omega))) (fun _ => ?_)
            show RP 55 _ 10 [(0, .int coins), (1, .int 1), (2, .int 99)] [] _
            refine RP_done 5 (fun n => rfl) ?_
            refine Or.inr ⟨1, rfl, ?_⟩
            show RP 85 _ 14 [(0, .ref 0), (1, .int 3), (2, .int coins)] [.int 1] _
            refine RP_step (pc1 := 32) (L1 := [(3, .int 1), (0, .ref 0), (1, .int 3), (2, .int coins)]) (S1 := [.int coins, .int 3, .ref 3]) 10 0 (fun n => rfl) ?_
            refine RP_ast (fun n => rfl) rfl (by decide) ?_
            show RP 85 _ 33 [(3, .int 1), (0, .ref 0), (1, .int 3), (2, .int coins)] [] _
            refine RP_done 4 (fun n => rfl) ?_
            exact ⟨rfl, _, rfl⟩
          · obtain rfl : f = 4 := xi_eq e9
            show RP 15 _ 25 [(0, .ref 0), (1, .int 4), (2, .int coins)] [.int 4, .ref 8] _
            refine RP_step (pc1 := 33) (L1 := [(3, .int 1), (0, .ref 0), (1, .int 4), (2, .int coins)]) (S1 := [.int coins, .int 4, .ref 8]) 6 0 (fun n => rfl) ?_
            refine RP_ast (fun n => rfl) rfl (by decide) ?_
            show RP 15 _ 34 [(3, .int 1), (0, .ref 0), (1, .int 4), (2, .int coins)] [] _
            refine RP_done 4 (fun n => rfl) ?_
            show RP 85 _ 0 [(0, .ref 0), (1, .int 4), (2, .int coins)] [] _
            refine RP_step (pc1 := 1) (L1 := [(0, .ref 0), (1, .int 4), (2, .int coins)]) (S1 := [.int 4]) 1 0 (fun n => rfl) ?_
            refine RP_call 56 [.int 4] (fun n => rfl) ?_
            show RP 56 _ 0 [(0, .int 4)] [] _
            refine RP_done 15 (fun n => rfl) ?_
            refine Or.inr ⟨1, rfl, ?_⟩
            show RP 85 _ 4 [(0, .ref 0), (1, .int 4), (2, .int coins)] [.int 1] _
            refine RP_step (pc1 := 11) (L1 := [(0, .ref 0), (1, .int 4), (2, .int coins)]) (S1 := [.int 99, .int 1, .int coins]) 4 0 (fun n => rfl) ?_
            refine RP_call 55 [.int coins, .int 1, .int 99] (fun n => rfl) ?_
            show RP 55 _ 0 [(0, .int coins), (1, .int 1), (2, .int 99)] [] _
            refine RP_step (pc1 := 2) (L1 := [(0, .int coins), (1, .int 1), (2, .int 99)]) (S1 := [.int 1, .int coins]) 2 0 (fun n => rfl) ?_
            refine RP_cond (decide (coins < 1)) (fun n => rfl) (fun h => absurd (of_decide_eq_true h) (xi_nlt (x := coins) (y := 1) (show 1 ≤ coins.toInt by omega))) (fun _ => ?_)
            show RP 55 _ 5 [(0, .int coins), (1, .int 1), (2, .int 99)] [] _
            refine RP_step (pc1 := 7) (L1 := [(0, .int coins), (1, .int 1), (2, .int 99)]) (S1 := [.int 99, .int coins]) 2 0 (fun n => rfl) ?_
            refine RP_cond (decide (99 < coins)) (fun n => rfl) (fun h => absurd (of_decide_eq_true h) (xi_nlt (x := 99) (y := coins) (show coins.toInt ≤ 99 by omega))) (fun _ => ?_)
            show RP 55 _ 10 [(0, .int coins), (1, .int 1), (2, .int 99)] [] _
            refine RP_done 5 (fun n => rfl) ?_
            refine Or.inr ⟨1, rfl, ?_⟩
            show RP 85 _ 14 [(0, .ref 0), (1, .int 4), (2, .int coins)] [.int 1] _
            refine RP_step (pc1 := 32) (L1 := [(3, .int 1), (0, .ref 0), (1, .int 4), (2, .int coins)]) (S1 := [.int coins, .int 4, .ref 3]) 10 0 (fun n => rfl) ?_
            refine RP_ast (fun n => rfl) rfl (by decide) ?_
            show RP 85 _ 33 [(3, .int 1), (0, .ref 0), (1, .int 4), (2, .int coins)] [] _
            refine RP_done 4 (fun n => rfl) ?_
            exact ⟨rfl, _, rfl⟩
          · obtain rfl : f = 5 := xi_eq e9
            show RP 15 _ 25 [(0, .ref 0), (1, .int 5), (2, .int coins)] [.int 5, .ref 8] _
            refine RP_step (pc1 := 33) (L1 := [(3, .int 1), (0, .ref 0), (1, .int 5), (2, .int coins)]) (S1 := [.int coins, .int 5, .ref 8]) 6 0 (fun n => rfl) ?_
            refine RP_ast (fun n => rfl) rfl (by decide) ?_
            show RP 15 _ 34 [(3, .int 1), (0, .ref 0), (1, .int 5), (2, .int coins)] [] _
            refine RP_done 4 (fun n => rfl) ?_
            show RP 85 _ 0 [(0, .ref 0), (1, .int 5), (2, .int coins)] [] _
            refine RP_step (pc1 := 1) (L1 := [(0, .ref 0), (1, .int 5), (2, .int coins)]) (S1 := [.int 5]) 1 0 (fun n => rfl) ?_
            refine RP_call 56 [.int 5] (fun n => rfl) ?_
            show RP 56 _ 0 [(0, .int 5)] [] _
            refine RP_done 15 (fun n => rfl) ?_
            refine Or.inr ⟨1, rfl, ?_⟩
            show RP 85 _ 4 [(0, .ref 0), (1, .int 5), (2, .int coins)] [.int 1] _
            refine RP_step (pc1 := 11) (L1 := [(0, .ref 0), (1, .int 5), (2, .int coins)]) (S1 := [.int 99, .int 1, .int coins]) 4 0 (fun n => rfl) ?_
            refine RP_call 55 [.int coins, .int 1, .int 99] (fun n => rfl) ?_
            show RP 55 _ 0 [(0, .int coins), (1, .int 1), (2, .int 99)] [] _
            refine RP_step (pc1 := 2) (L1 := [(0, .int coins), (1, .int 1), (2, .int 99)]) (S1 := [.int 1, .int coins]) 2 0 (fun n => rfl) ?_
            refine RP_cond (decide (coins < 1)) (fun n => rfl) (fun h => absurd (of_decide_eq_true h) (xi_nlt (x := coins) (y := 1) (show 1 ≤ coins.toInt by omega))) (fun _ => ?_)
            show RP 55 _ 5 [(0, .int coins), (1, .int 1), (2, .int 99)] [] _
            refine RP_step (pc1 := 7) (L1 := [(0, .int coins), (1, .int 1), (2, .int 99)]) (S1 := [.int 99, .int coins]) 2 0 (fun n => rfl) ?_
            refine RP_cond (decide (99 < coins)) (fun n => rfl) (fun h => absurd (of_decide_eq_true h) (xi_nlt (x := 99) (y := coins) (show coins.toInt ≤ 99 by omega))) (fun _ => ?_)
            show RP 55 _ 10 [(0, .int coins), (1, .int 1), (2, .int 99)] [] _
            refine RP_done 5 (fun n => rfl) ?_
            refine Or.inr ⟨1, rfl, ?_⟩
            show RP 85 _ 14 [(0, .ref 0), (1, .int 5), (2, .int coins)] [.int 1] _
            refine RP_step (pc1 := 32) (L1 := [(3, .int 1), (0, .ref 0), (1, .int 5), (2, .int coins)]) (S1 := [.int coins, .int 5, .ref 3]) 10 0 (fun n => rfl) ?_
            refine RP_ast (fun n => rfl) rfl (by decide) ?_
            show RP 85 _ 33 [(3, .int 1), (0, .ref 0), (1, .int 5), (2, .int coins)] [] _
            refine RP_done 4 (fun n => rfl) ?_
            exact ⟨rfl, _, rfl⟩
        · have h15 := of_decide_eq_false hh
          have h16 : 99 < coins.toInt := xj_nle h15
          show RP 15 _ 18 [(0, .ref 0), (1, .int f), (2, .int coins)] [] _
          refine RP_done 4 (fun n => rfl) ?_
          show RP 85 _ 0 [(0, .ref 0), (1, .int f), (2, .int coins)] [] _
          refine RP_step (pc1 := 1) (L1 := [(0, .ref 0), (1, .int f), (2, .int coins)]) (S1 := [.int f]) 1 0 (fun n => rfl) ?_
          refine RP_call 56 [.int f] (fun n => rfl) ?_
          show RP 56 _ 0 [(0, .int f)] [] _
          refine RP_step (pc1 := 3) (L1 := [(0, .int f)]) (S1 := [.int 5, .int 0, .int f]) 3 0 (fun n => rfl) ?_
          refine RP_call 55 [.int f, .int 0, .int 5] (fun n => rfl) ?_
          show RP 55 _ 0 [(0, .int f), (1, .int 0), (2, .int 5)] [] _
          refine RP_step (pc1 := 2) (L1 := [(0, .int f), (1, .int 0), (2, .int 5)]) (S1 := [.int 0, .int f]) 2 0 (fun n => rfl) ?_
          refine RP_cond (decide (f < 0)) (fun n => rfl) (fun h => absurd (of_decide_eq_true h) (xi_nlt (x := f) (y := 0) (show 0 ≤ f.toInt by omega))) (fun _ => ?_)
          show RP 55 _ 5 [(0, .int f), (1, .int 0), (2, .int 5)] [] _
          refine RP_step (pc1 := 7) (L1 := [(0, .int f), (1, .int 0), (2, .int 5)]) (S1 := [.int 5, .int f]) 2 0 (fun n => rfl) ?_
          refine RP_cond (decide (5 < f)) (fun n => rfl) (fun h => absurd (of_decide_eq_true h) (xi_nlt (x := 5) (y := f) (show f.toInt ≤ 5 by omega))) (fun _ => ?_)
          show RP 55 _ 10 [(0, .int f), (1, .int 0), (2, .int 5)] [] _
          refine RP_done 5 (fun n => rfl) ?_
          refine Or.inr ⟨1, rfl, ?_⟩
          show RP 56 _ 6 [(0, .int f)] [.int 1] _
          refine RP_done 3 (fun n => rfl) ?_
          refine Or.inr ⟨1, rfl, ?_⟩
          show RP 85 _ 4 [(0, .ref 0), (1, .int f), (2, .int coins)] [.int 1] _
          refine RP_step (pc1 := 11) (L1 := [(0, .ref 0), (1, .int f), (2, .int coins)]) (S1 := [.int 99, .int 1, .int coins]) 4 0 (fun n => rfl) ?_
          refine RP_call 55 [.int coins, .int 1, .int 99] (fun n => rfl) ?_
          show RP 55 _ 0 [(0, .int coins), (1, .int 1), (2, .int 99)] [] _
          refine RP_step (pc1 := 2) (L1 := [(0, .int coins), (1, .int 1), (2, .int 99)]) (S1 := [.int 1, .int coins]) 2 0 (fun n => rfl) ?_
          refine RP_cond (decide (coins < 1)) (fun n => rfl) (fun h => absurd (of_decide_eq_true h) (xi_nlt (x := coins) (y := 1) (show 1 ≤ coins.toInt by omega))) (fun _ => ?_)
          show RP 55 _ 5 [(0, .int coins), (1, .int 1), (2, .int 99)] [] _
          refine RP_step (pc1 := 7) (L1 := [(0, .int coins), (1, .int 1), (2, .int 99)]) (S1 := [.int 99, .int coins]) 2 0 (fun n => rfl) ?_
          refine RP_cond (decide (99 < coins)) (fun n => rfl) (fun _ => ?_) (fun h => absurd (xi_lt (x := 99) (y := coins) (show 99 < coins.toInt by omega)) (of_decide_eq_false h))
          show RP 55 _ 14 [(0, .int coins), (1, .int 1), (2, .int 99)] [] _
          refine RP_done 4 (fun n => rfl) ?_
          refine Or.inr ⟨0, rfl, ?_⟩
          show RP 85 _ 14 [(0, .ref 0), (1, .int f), (2, .int coins)] [.int 0] _
          refine RP_done 5 (fun n => rfl) ?_
          exact ⟨rfl, _, rfl⟩

set_option maxHeartbeats 8000000 in
set_option maxRecDepth 1000000 in
theorem sm_17 (k what : Int32) : Same 17 87 [.int k, .int what] := by
  refine Same_of ?_
  show RP 17 _ 0 [(0, .ref 0), (1, .int k), (2, .int what)] [] _
  refine RP_step (pc1 := 1) (L1 := [(0, .ref 0), (1, .int k), (2, .int what)]) (S1 := [.int k]) 1 0 (fun n => rfl) ?_
  refine RP_cond (decide (k < 0)) (fun n => rfl) (fun hh => ?_) (fun hh => ?_)
  · have h1 := of_decide_eq_true hh
    have h2 : k.toInt < 0 := xj_lt h1
    show RP 17 _ 15 [(0, .ref 0), (1, .int k), (2, .int what)] [] _
    refine RP_done 4 (fun n => rfl) ?_
    show RP 87 _ 0 [(0, .ref 0), (1, .int k), (2, .int what)] [] _
    refine RP_done 7 (fun n => rfl) ?_
    exact ⟨rfl, _, rfl⟩
  · have h3 := of_decide_eq_false hh
    have h4 : 0 ≤ k.toInt := xj_nlt h3
    show RP 17 _ 4 [(0, .ref 0), (1, .int k), (2, .int what)] [] _
    refine RP_step (pc1 := 12) (L1 := [(0, .ref 0), (1, .int k), (2, .int what)]) (S1 := [.int 0, .int k]) 4 0 (fun n => rfl) ?_
    refine RP_cond (decide (k < 0)) (fun n => rfl) (fun h => absurd (of_decide_eq_true h) (xi_nlt (x := k) (y := 0) (show 0 ≤ k.toInt by omega))) (fun _ => ?_)
    show RP 17 _ 15 [(0, .ref 0), (1, .int k), (2, .int what)] [] _
    refine RP_done 4 (fun n => rfl) ?_
    show RP 87 _ 0 [(0, .ref 0), (1, .int k), (2, .int what)] [] _
    refine RP_done 7 (fun n => rfl) ?_
    exact ⟨rfl, _, rfl⟩

set_option maxHeartbeats 8000000 in
set_option maxRecDepth 1000000 in
theorem sm_18 : Same 18 88 [] := by
  refine Same_of ?_
  show RP 18 _ 0 [(0, .ref 0)] [] _
  refine RP_done 7 (fun n => rfl) ?_
  show RP 88 _ 0 [(0, .ref 0)] [] _
  refine RP_done 7 (fun n => rfl) ?_
  exact ⟨rfl, _, rfl⟩

set_option maxHeartbeats 8000000 in
set_option maxRecDepth 1000000 in
theorem sm_19 (what : Int32) : Same 19 89 [.int what] := by
  refine Same_of ?_
  show RP 19 _ 0 [(0, .ref 0), (1, .int what)] [] _
  refine RP_step (pc1 := 1) (L1 := [(0, .ref 0), (1, .int what)]) (S1 := [.int what]) 1 0 (fun n => rfl) ?_
  refine RP_cond (decide (what ≠ 0)) (fun n => rfl) (fun hh => ?_) (fun hh => ?_)
  · have h1 := of_decide_eq_true hh
    show RP 19 _ 9 [(0, .ref 0), (1, .int what)] [] _
    refine RP_step (pc1 := 12) (L1 := [(0, .ref 0), (1, .int what)]) (S1 := [.int 10, .int what]) 2 0 (fun n => rfl) ?_
    refine RP_cond (decide (what < 10)) (fun n => rfl) (fun hh => ?_) (fun hh => ?_)
    · have h2 := of_decide_eq_true hh
      have h3 : what.toInt < 10 := xj_lt h2
      show RP 19 _ 34 [(0, .ref 0), (1, .int what)] [] _
      refine RP_step (pc1 := 37) (L1 := [(0, .ref 0), (1, .int what)]) (S1 := [.int 20, .int what]) 2 0 (fun n => rfl) ?_
      refine RP_cond (decide (what < 20)) (fun n => rfl) (fun _ => ?_) (fun h => absurd (xi_lt (x := what) (y := 20) (show what.toInt < 20 by omega)) (of_decide_eq_false h))
      show RP 19 _ 56 [(0, .ref 0), (1, .int what)] [] _
      refine RP_done 4 (fun n => rfl) ?_
      show RP 89 _ 0 [(0, .ref 0), (1, .int what)] [] _
      refine RP_step (pc1 := 1) (L1 := [(0, .ref 0), (1, .int what)]) (S1 := [.int what]) 1 0 (fun n => rfl) ?_
      refine RP_cond (decide (what ≠ 0)) (fun n => rfl) (fun _ => ?_) (fun h => absurd (by assumption) (of_decide_eq_false h))
      show RP 89 _ 9 [(0, .ref 0), (1, .int what)] [] _
      refine RP_step (pc1 := 14) (L1 := [(0, .ref 0), (1, .int what)]) (S1 := [.int 15, .int 10, .int what]) 3 0 (fun n => rfl) ?_
      refine RP_call 55 [.int what, .int 10, .int 15] (fun n => rfl) ?_
      show RP 55 _ 0 [(0, .int what), (1, .int 10), (2, .int 15)] [] _
      refine RP_step (pc1 := 2) (L1 := [(0, .int what), (1, .int 10), (2, .int 15)]) (S1 := [.int 10, .int what]) 2 0 (fun n => rfl) ?_
      refine RP_cond (decide (what < 10)) (fun n => rfl) (fun _ => ?_) (fun h => absurd (xi_lt (x := what) (y := 10) (show what.toInt < 10 by omega)) (of_decide_eq_false h))
      show RP 55 _ 14 [(0, .int what), (1, .int 10), (2, .int 15)] [] _
      refine RP_done 4 (fun n => rfl) ?_
      refine Or.inr ⟨0, rfl, ?_⟩
      show RP 89 _ 17 [(0, .ref 0), (1, .int what)] [.int 0] _
      refine RP_step (pc1 := 37) (L1 := [(0, .ref 0), (1, .int what)]) (S1 := [.int 25, .int 20, .int what]) 4 0 (fun n => rfl) ?_
      refine RP_call 55 [.int what, .int 20, .int 25] (fun n => rfl) ?_
      show RP 55 _ 0 [(0, .int what), (1, .int 20), (2, .int 25)] [] _
      refine RP_step (pc1 := 2) (L1 := [(0, .int what), (1, .int 20), (2, .int 25)]) (S1 := [.int 20, .int what]) 2 0 (fun n => rfl) ?_
      refine RP_cond (decide (what < 20)) (fun n => rfl) (fun _ => ?_) (fun h => absurd (xi_lt (x := what) (y := 20) (show what.toInt < 20 by omega)) (of_decide_eq_false h))
      show RP 55 _ 14 [(0, .int what), (1, .int 20), (2, .int 25)] [] _
      refine RP_done 4 (fun n => rfl) ?_
      refine Or.inr ⟨0, rfl, ?_⟩
      show RP 89 _ 40 [(0, .ref 0), (1, .int what)] [.int 0] _
      refine RP_done 5 (fun n => rfl) ?_
      exact ⟨rfl, _, rfl⟩
    · have h4 := of_decide_eq_false hh
      have h5 : 10 ≤ what.toInt := xj_nlt h4
      show RP 19 _ 15 [(0, .ref 0), (1, .int what)] [] _
      refine RP_step (pc1 := 18) (L1 := [(0, .ref 0), (1, .int what)]) (S1 := [.int 16, .int what]) 2 0 (fun n => rfl) ?_
      refine RP_cond (decide (16 ≤ what)) (fun n => rfl) (fun hh => ?_) (fun hh => ?_)
      · have h6 := of_decide_eq_true hh
        have h7 : 16 ≤ what.toInt := xj_le h6
        show RP 19 _ 34 [(0, .ref 0), (1, .int what)] [] _
        refine RP_step (pc1 := 37) (L1 := [(0, .ref 0), (1, .int what)]) (S1 := [.int 20, .int what]) 2 0 (fun n => rfl) ?_
        refine RP_cond (decide (what < 20)) (fun n => rfl) (fun hh => ?_) (fun hh => ?_)
        · have h8 := of_decide_eq_true hh
          have h9 : what.toInt < 20 := xj_lt h8
          show RP 19 _ 56 [(0, .ref 0), (1, .int what)] [] _
          refine RP_done 4 (fun n => rfl) ?_
          show RP 89 _ 0 [(0, .ref 0), (1, .int what)] [] _
          refine RP_step (pc1 := 1) (L1 := [(0, .ref 0), (1, .int what)]) (S1 := [.int what]) 1 0 (fun n => rfl) ?_
          refine RP_cond (decide (what ≠ 0)) (fun n => rfl) (fun _ => ?_) (fun h => absurd (by assumption) (of_decide_eq_false h))
          show RP 89 _ 9 [(0, .ref 0), (1, .int what)] [] _
          refine RP_step (pc1 := 14) (L1 := [(0, .ref 0), (1, .int what)]) (S1 := [.int 15, .int 10, .int what]) 3 0 (fun n => rfl) ?_
          refine RP_call 55 [.int what, .int 10, .int 15] (fun n => rfl) ?_
          show RP 55 _ 0 [(0, .int what), (1, .int 10), (2, .int 15)] [] _
          refine RP_step (pc1 := 2) (L1 := [(0, .int what), (1, .int 10), (2, .int 15)]) (S1 := [.int 10, .int what]) 2 0 (fun n => rfl) ?_
          refine RP_cond (decide (what < 10)) (fun n => rfl) (fun h => absurd (of_decide_eq_true h) (xi_nlt (x := what) (y := 10) (show 10 ≤ what.toInt by omega))) (fun _ => ?_)
          show RP 55 _ 5 [(0, .int what), (1, .int 10), (2, .int 15)] [] _
          refine RP_step (pc1 := 7) (L1 := [(0, .int what), (1, .int 10), (2, .int 15)]) (S1 := [.int 15, .int what]) 2 0 (fun n => rfl) ?_
          refine RP_cond (decide (15 < what)) (fun n => rfl) (fun _ => ?_) (fun h => absurd (xi_lt (x := 15) (y := what) (show 15 < what.toInt by omega)) (of_decide_eq_false h))
          show RP 55 _ 14 [(0, .int what), (1, .int 10), (2, .int 15)] [] _
          refine RP_done 4 (fun n => rfl) ?_
          refine Or.inr ⟨0, rfl, ?_⟩
          show RP 89 _ 17 [(0, .ref 0), (1, .int what)] [.int 0] _
          refine RP_step (pc1 := 37) (L1 := [(0, .ref 0), (1, .int what)]) (S1 := [.int 25, .int 20, .int what]) 4 0 (fun n => rfl) ?_
          refine RP_call 55 [.int what, .int 20, .int 25] (fun n => rfl) ?_
          show RP 55 _ 0 [(0, .int what), (1, .int 20), (2, .int 25)] [] _
          refine RP_step (pc1 := 2) (L1 := [(0, .int what), (1, .int 20), (2, .int 25)]) (S1 := [.int 20, .int what]) 2 0 (fun n => rfl) ?_
          refine RP_cond (decide (what < 20)) (fun n => rfl) (fun _ => ?_) (fun h => absurd (xi_lt (x := what) (y := 20) (show what.toInt < 20 by omega)) (of_decide_eq_false h))
          show RP 55 _ 14 [(0, .int what), (1, .int 20), (2, .int 25)] [] _
          refine RP_done 4 (fun n => rfl) ?_
          refine Or.inr ⟨0, rfl, ?_⟩
          show RP 89 _ 40 [(0, .ref 0), (1, .int what)] [.int 0] _
          refine RP_done 5 (fun n => rfl) ?_
          exact ⟨rfl, _, rfl⟩
        · have h10 := of_decide_eq_false hh
          have h11 : 20 ≤ what.toInt := xj_nlt h10
          show RP 19 _ 40 [(0, .ref 0), (1, .int what)] [] _
          refine RP_step (pc1 := 43) (L1 := [(0, .ref 0), (1, .int what)]) (S1 := [.int 26, .int what]) 2 0 (fun n => rfl) ?_
          refine RP_cond (decide (26 ≤ what)) (fun n => rfl) (fun hh => ?_) (fun hh => ?_)
          · have h12 := of_decide_eq_true hh
            have h13 : 26 ≤ what.toInt := xj_le h12
            show RP 19 _ 56 [(0, .ref 0), (1, .int what)] [] _
            refine RP_done 4 (fun n => rfl) ?_
            show RP 89 _ 0 [(0, .ref 0), (1, .int what)] [] _
            refine RP_step (pc1 := 1) (L1 := [(0, .ref 0), (1, .int what)]) (S1 := [.int what]) 1 0 (fun n => rfl) ?_
            refine RP_cond (decide (what ≠ 0)) (fun n => rfl) (fun _ => ?_) (fun h => absurd (by assumption) (of_decide_eq_false h))
            show RP 89 _ 9 [(0, .ref 0), (1, .int what)] [] _
            refine RP_step (pc1 := 14) (L1 := [(0, .ref 0), (1, .int what)]) (S1 := [.int 15, .int 10, .int what]) 3 0 (fun n => rfl) ?_
            refine RP_call 55 [.int what, .int 10, .int 15] (fun n => rfl) ?_
            show RP 55 _ 0 [(0, .int what), (1, .int 10), (2, .int 15)] [] _
            refine RP_step (pc1 := 2) (L1 := [(0, .int what), (1, .int 10), (2, .int 15)]) (S1 := [.int 10, .int what]) 2 0 (fun n => rfl) ?_
            refine RP_cond (decide (what < 10)) (fun n => rfl) (fun h => absurd (of_decide_eq_true h) (xi_nlt (x := what) (y := 10) (show 10 ≤ what.toInt by omega))) (fun _ => ?_)
            show RP 55 _ 5 [(0, .int what), (1, .int 10), (2, .int 15)] [] _
            refine RP_step (pc1 := 7) (L1 := [(0, .int what), (1, .int 10), (2, .int 15)]) (S1 := [.int 15, .int what]) 2 0 (fun n => rfl) ?_
            refine RP_cond (decide (15 < what)) (fun n => rfl) (fun _ => ?_) (fun h => absurd (xi_lt (x := 15) (y := what) (show 15 < what.toInt by omega)) (of_decide_eq_false h))
            show RP 55 _ 14 [(0, .int what), (1, .int 10), (2, .int 15)] [] _
            refine RP_done 4 (fun n => rfl) ?_
            refine Or.inr ⟨0, rfl, ?_⟩
            show RP 89 _ 17 [(0, .ref 0), (1, .int what)] [.int 0] _
            refine RP_step (pc1 := 37) (L1 := [(0, .ref 0), (1, .int what)]) (S1 := [.int 25, .int 20, .int what]) 4 0 (fun n => rfl) ?_
            refine RP_call 55 [.int what, .int 20, .int 25] (fun n => rfl) ?_
            show RP 55 _ 0 [(0, .int what), (1, .int 20), (2, .int 25)] [] _
            refine RP_step (pc1 := 2) (L1 := [(0, .int what), (1, .int 20), (2, .int 25)]) (S1 := [.int 20, .int what]) 2 0 (fun n => rfl) ?_
            refine RP_cond (decide (what < 20)) (fun n => rfl) (fun h => absurd (of_decide_eq_true h) (xi_nlt (x := what) (y := 20) (show 20 ≤ what.toInt by omega))) (fun _ => ?_)
            show RP 55 _ 5 [(0, .int what), (1, .int 20), (2, .int 25)] [] _
            refine RP_step (pc1 := 7) (L1 := [(0, .int what), (1, .int 20), (2, .int 25)]) (S1 := [.int 25, .int what]) 2 0 (fun n => rfl) ?_
            refine RP_cond (decide (25 < what)) (fun n => rfl) (fun _ => ?_) (fun h => absurd (xi_lt (x := 25) (y := what) (show 25 < what.toInt by omega)) (of_decide_eq_false h))
            show RP 55 _ 14 [(0, .int what), (1, .int 20), (2, .int 25)] [] _
            refine RP_done 4 (fun n => rfl) ?_
            refine Or.inr ⟨0, rfl, ?_⟩
            show RP 89 _ 40 [(0, .ref 0), (1, .int what)] [.int 0] _
            refine RP_done 5 (fun n => rfl) ?_
            exact ⟨rfl, _, rfl⟩
          · have h14 := of_decide_eq_false hh
            have h15 : what.toInt < 26 := xj_nle h14
            show RP 19 _ 46 [(0, .ref 0), (1, .int what)] [] _
            refine RP_step (pc1 := 53) (L1 := [(0, .ref 0), (1, .int what)]) (S1 := [.int 20, .int what, .ref 8]) 4 0 (fun n => rfl) ?_
            rcases (show what.toInt = 20 ∨ what.toInt = 21 ∨ what.toInt = 22 ∨ what.toInt = 23 ∨ what.toInt = 24 ∨ what.toInt = 25 by omega) with e9 | e9 | e9 | e9 | e9 | e9
            · obtain rfl : what = 20 := xi_eq e9
              show RP 19 _ 53 [(0, .ref 0), (1, .int 20)] [.int 20, .int 20, .ref 8] _
              refine RP_done 5 (fun n => rfl) ?_
              show RP 89 _ 0 [(0, .ref 0), (1, .int 20)] [] _
              refine RP_done 22 (fun n => rfl) ?_
              exact ⟨rfl, _, rfl⟩
            · obtain rfl : what = 21 := xi_eq e9
              show RP 19 _ 53 [(0, .ref 0), (1, .int 21)] [.int 20, .int 21, .ref 8] _
              refine RP_done 5 (fun n => rfl) ?_
              show RP 89 _ 0 [(0, .ref 0), (1, .int 21)] [] _
              refine RP_done 22 (fun n => rfl) ?_
              exact ⟨rfl, _, rfl⟩
            · obtain rfl : what = 22 := xi_eq e9
              show RP 19 _ 53 [(0, .ref 0), (1, .int 22)] [.int 20, .int 22, .ref 8] _
              refine RP_done 5 (fun n => rfl) ?_
              show RP 89 _ 0 [(0, .ref 0), (1, .int 22)] [] _
              refine RP_done 22 (fun n => rfl) ?_
              exact ⟨rfl, _, rfl⟩
            · obtain rfl : what = 23 := xi_eq e9
              show RP 19 _ 53 [(0, .ref 0), (1, .int 23)] [.int 20, .int 23, .ref 8] _
              refine RP_done 5 (fun n => rfl) ?_
              show RP 89 _ 0 [(0, .ref 0), (1, .int 23)] [] _
              refine RP_done 22 (fun n => rfl) ?_
              exact ⟨rfl, _, rfl⟩
            · obtain rfl : what = 24 := xi_eq e9
              show RP 19 _ 53 [(0, .ref 0), (1, .int 24)] [.int 20, .int 24, .ref 8] _
              refine RP_done 5 (fun n => rfl) ?_
              show RP 89 _ 0 [(0, .ref 0), (1, .int 24)] [] _
              refine RP_done 22 (fun n => rfl) ?_
              exact ⟨rfl, _, rfl⟩
            · obtain rfl : what = 25 := xi_eq e9
              show RP 19 _ 53 [(0, .ref 0), (1, .int 25)] [.int 20, .int 25, .ref 8] _
              refine RP_done 5 (fun n => rfl) ?_
              show RP 89 _ 0 [(0, .ref 0), (1, .int 25)] [] _
              refine RP_done 22 (fun n => rfl) ?_
              exact ⟨rfl, _, rfl⟩
      · have h16 := of_decide_eq_false hh
        have h17 : what.toInt < 16 := xj_nle h16
        show RP 19 _ 21 [(0, .ref 0), (1, .int what)] [] _
        refine RP_step (pc1 := 31) (L1 := [(0, .ref 0), (1, .int what)]) (S1 := [.int 10, .int what, .ref 2]) 5 0 (fun n => rfl) ?_
        rcases (show what.toInt = 10 ∨ what.toInt = 11 ∨ what.toInt = 12 ∨ what.toInt = 13 ∨ what.toInt = 14 ∨ what.toInt = 15 by omega) with e9 | e9 | e9 | e9 | e9 | e9
        · obtain rfl : what = 10 := xi_eq e9
          show RP 19 _ 31 [(0, .ref 0), (1, .int 10)] [.int 10, .int 10, .ref 2] _
          refine RP_done 5 (fun n => rfl) ?_
          show RP 89 _ 0 [(0, .ref 0), (1, .int 10)] [] _
          refine RP_done 17 (fun n => rfl) ?_
          exact ⟨rfl, _, rfl⟩
        · obtain rfl : what = 11 := xi_eq e9
          show RP 19 _ 31 [(0, .ref 0), (1, .int 11)] [.int 10, .int 11, .ref 2] _
          refine RP_done 5 (fun n => rfl) ?_
          show RP 89 _ 0 [(0, .ref 0), (1, .int 11)] [] _
          refine RP_done 17 (fun n => rfl) ?_
          exact ⟨rfl, _, rfl⟩
        · obtain rfl : what = 12 := xi_eq e9
          show RP 19 _ 31 [(0, .ref 0), (1, .int 12)] [.int 10, .int 12, .ref 2] _
          refine RP_done 5 (fun n => rfl) ?_
          show RP 89 _ 0 [(0, .ref 0), (1, .int 12)] [] _
          refine RP_done 17 (fun n => rfl) ?_
          exact ⟨rfl, _, rfl⟩
        · obtain rfl : what = 13 := xi_eq e9
          show RP 19 _ 31 [(0, .ref 0), (1, .int 13)] [.int 10, .int 13, .ref 2] _
          refine RP_done 5 (fun n => rfl) ?_
          show RP 89 _ 0 [(0, .ref 0), (1, .int 13)] [] _
          refine RP_done 17 (fun n => rfl) ?_
          exact ⟨rfl, _, rfl⟩
        · obtain rfl : what = 14 := xi_eq e9
          show RP 19 _ 31 [(0, .ref 0), (1, .int 14)] [.int 10, .int 14, .ref 2] _
          refine RP_done 5 (fun n => rfl) ?_
          show RP 89 _ 0 [(0, .ref 0), (1, .int 14)] [] _
          refine RP_done 17 (fun n => rfl) ?_
          exact ⟨rfl, _, rfl⟩
        · obtain rfl : what = 15 := xi_eq e9
          show RP 19 _ 31 [(0, .ref 0), (1, .int 15)] [.int 10, .int 15, .ref 2] _
          refine RP_done 5 (fun n => rfl) ?_
          show RP 89 _ 0 [(0, .ref 0), (1, .int 15)] [] _
          refine RP_done 17 (fun n => rfl) ?_
          exact ⟨rfl, _, rfl⟩
  · have h18 := of_decide_eq_false hh
    replace h18 := Decidable.of_not_not h18
    clear hh
    subst h18
    show RP 19 _ 4 [(0, .ref 0), (1, .int 0)] [] _
    refine RP_done 5 (fun n => rfl) ?_
    show RP 89 _ 0 [(0, .ref 0), (1, .int 0)] [] _
    refine RP_done 7 (fun n => rfl) ?_
    exact ⟨rfl, _, rfl⟩
