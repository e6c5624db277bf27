/-! numbers -/
theorem xi_lt {x y : Int32} (h : x.toInt < y.toInt) : x < y := Int32.lt_iff_toInt_lt.mpr h
theorem xi_le {x y : Int32} (h : x.toInt ≤ y.toInt) : x ≤ y := Int32.le_iff_toInt_le.mpr h
theorem xj_lt {x y : Int32} (h : x < y) : x.toInt < y.toInt := Int32.lt_iff_toInt_lt.mp h
theorem xj_le {x y : Int32} (h : x ≤ y) : x.toInt ≤ y.toInt := Int32.le_iff_toInt_le.mp h
theorem xi_nlt {x y : Int32} (h : y.toInt ≤ x.toInt) : ¬ x < y := fun g => by have := xj_lt g; omega
theorem xi_nle {x y : Int32} (h : y.toInt < x.toInt) : ¬ x ≤ y := fun g => by have := xj_le g; omega
theorem xj_nlt {x y : Int32} (h : ¬ x < y) : y.toInt ≤ x.toInt := by
  rcases Int.lt_or_le x.toInt y.toInt with g | g
  · exact absurd (xi_lt g) h
  · exact g
theorem xj_nle {x y : Int32} (h : ¬ x ≤ y) : y.toInt < x.toInt := by
  rcases Int.lt_or_le y.toInt x.toInt with g | g
  · exact g
  · exact absurd (xi_le g) h
theorem xi_eq {x y : Int32} (h : x.toInt = y.toInt) : x = y := Int32.toInt_inj.mp h
theorem xi_ne {x y : Int32} (h : ¬ x.toInt = y.toInt) : ¬ x = y := fun g => h (by rw [g])
theorem RP_swo {k : Nat} {C : xC} {pc : Nat} {L : xL} {T : List Value} {x : Int32} {Φ : Option Value → xC → Prop} {dflt lo hi : Int} {offs : Array Int} (h : ∀ n : Nat, xe xMT xmac (n + 1) k C pc L (.int x :: T) = xe_swt pc dflt lo hi offs (.int x :: T) (fun t T => xe xMT xmac n k C t L T)) (hq : x.toInt < lo ∨ hi < x.toInt) {t : Nat} (ht : (pc : Int) + dflt = (t : Int)) (g : RP k C t L T Φ) : RP k C pc L (.int x :: T) Φ := by
  refine RP_step 1 0 (fun n => (h n).trans ?_) g
  unfold xe_swt
  have e : (decide (x.toInt < lo) || decide (hi < x.toInt)) = true := by simpa using hq
  simp only [e, cond_true]
  unfold xe_jmp
  rw [ht]
  exact xe_fn_eq t _
theorem xi_12 (x : Int32) : x = 0 ∨ x = 1 ∨ x = 2 ∨ x = 3 ∨ x = 4 ∨ x = 5 ∨ x = 6 ∨ x = 7 ∨ x = 8 ∨ x = 9 ∨ x = 10 ∨ x = 11 ∨ (x.toInt < 0 ∨ 11 < x.toInt) := by
  by_cases h : x.toInt < 0 ∨ 11 < x.toInt
  · exact Or.inr (Or.inr (Or.inr (Or.inr (Or.inr (Or.inr (Or.inr (Or.inr (Or.inr (Or.inr (Or.inr (Or.inr (h))))))))))))
  · rcases (show x.toInt = 0 ∨ x.toInt = 1 ∨ x.toInt = 2 ∨ x.toInt = 3 ∨ x.toInt = 4 ∨ x.toInt = 5 ∨ x.toInt = 6 ∨ x.toInt = 7 ∨ x.toInt = 8 ∨ x.toInt = 9 ∨ x.toInt = 10 ∨ x.toInt = 11 by omega) with e | e | e | e | e | e | e | e | e | e | e | e
    · exact Or.inl (xi_eq e)
    · exact Or.inr (Or.inl (xi_eq e))
    · exact Or.inr (Or.inr (Or.inl (xi_eq e)))
    · exact Or.inr (Or.inr (Or.inr (Or.inl (xi_eq e))))
    · exact Or.inr (Or.inr (Or.inr (Or.inr (Or.inl (xi_eq e)))))
    · exact Or.inr (Or.inr (Or.inr (Or.inr (Or.inr (Or.inl (xi_eq e))))))
    · exact Or.inr (Or.inr (Or.inr (Or.inr (Or.inr (Or.inr (Or.inl (xi_eq e)))))))
    · exact Or.inr (Or.inr (Or.inr (Or.inr (Or.inr (Or.inr (Or.inr (Or.inl (xi_eq e))))))))
    · exact Or.inr (Or.inr (Or.inr (Or.inr (Or.inr (Or.inr (Or.inr (Or.inr (Or.inl (xi_eq e)))))))))
    · exact Or.inr (Or.inr (Or.inr (Or.inr (Or.inr (Or.inr (Or.inr (Or.inr (Or.inr (Or.inl (xi_eq e))))))))))
    · exact Or.inr (Or.inr (Or.inr (Or.inr (Or.inr (Or.inr (Or.inr (Or.inr (Or.inr (Or.inr (Or.inl (xi_eq e)))))))))))
    · exact Or.inr (Or.inr (Or.inr (Or.inr (Or.inr (Or.inr (Or.inr (Or.inr (Or.inr (Or.inr (Or.inr (Or.inl (xi_eq e))))))))))))
/-- the two answer alike -/
def Same (kx km : Nat) (vs : List Value) : Prop := ∃ v : Int32, (∃ (n : Nat) (C' : xC), xe xMT xmac n kx Cx 0 (lv_args 0 (.ref 0 :: vs)) [] = some (some (.int v), C')) ∧ ∃ (n : Nat) (C' : xC), xe xMT xmac n km Cm 0 (lv_args 0 (.ref 0 :: vs)) [] = some (some (.int v), C')
theorem Same_of {kx km : Nat} {vs : List Value} (h : RP kx Cx 0 (lv_args 0 (.ref 0 :: vs)) [] (fun r _ => RP km Cm 0 (lv_args 0 (.ref 0 :: vs)) [] (fun r' _ => r' = r ∧ ∃ v : Int32, r = some (.int v)))) : Same kx km vs := by
  obtain ⟨m, r, C', h1, m2, r2, C2, h2, e, v, e2⟩ := h
  subst e2; subst e
  exact ⟨v, ⟨_, _, h1 0⟩, ⟨_, _, h2 0⟩⟩
noncomputable def xr (n k : Nat) (C : xC) (vs : List Value) : Option (Option Value) := (xe xMT xmac n k C 0 (lv_args 0 vs) []).map (fun r => r.1)
theorem xr_of {n k : Nat} {C : xC} {vs : List Value} {v : Int32} (h : xr n k C vs = some (some (.int v))) : ∃ (n : Nat) (C' : xC), xe xMT xmac n k C 0 (lv_args 0 vs) [] = some (some (.int v), C') := by
  unfold xr at h
  obtain ⟨q, h1, h2⟩ := Option.map_eq_some_iff.mp h
  exact ⟨n, q.2, by rw [h1, ← h2]⟩

set_option maxHeartbeats 8000000 in
set_option maxRecDepth 1000000 in
theorem sm_told (op a b c d : Int32) (C D : xC) : RP 25 C 0 (lv_args 0 [.int op, .int a, .int b, .int c, .int d]) [] (fun r C' => (r = some (.int 0) ∨ r = some (.int 1)) ∧ C' = C ∧ RP 59 D 0 (lv_args 0 [.int op, .int a, .int b, .int c, .int d]) [] (fun r' D' => r' = r ∧ D' = D)) := by
  rcases xi_12 op with rfl | rfl | rfl | rfl | rfl | rfl | rfl | rfl | rfl | rfl | rfl | rfl | ho
  · skip
    show RP 25 _ 0 [(0, .int 0), (1, .int a), (2, .int b), (3, .int c), (4, .int d)] [] _
    refine RP_step (pc1 := 65) (L1 := [(0, .int 0), (1, .int a), (2, .int b), (3, .int c), (4, .int d)]) (S1 := [.int a]) 3 0 (fun n => rfl) ?_
    refine RP_call 23 [.int a] (fun n => rfl) ?_
    show RP 23 _ 0 [(0, .int a)] [] _
    refine RP_step (pc1 := 1) (L1 := [(0, .int a)]) (S1 := [.int a]) 1 0 (fun n => rfl) ?_
    refine RP_cond (decide (a < 0)) (fun n => rfl) (fun hh => ?_) (fun hh => ?_)
    · have h1 := of_decide_eq_true hh
      have h2 : a.toInt < 0 := xj_lt h1
      show RP 23 _ 14 [(0, .int a)] [] _
      refine RP_done 4 (fun n => rfl) ?_
      refine Or.inr ⟨0, rfl, ?_⟩
      show RP 25 _ 68 [(0, .int 0), (1, .int a), (2, .int b), (3, .int c), (4, .int d)] [.int 0] _
      refine RP_done 5 (fun n => rfl) ?_
      refine ⟨Or.inl rfl, rfl, ?_⟩
      show RP 59 _ 0 [(0, .int 0), (1, .int a), (2, .int b), (3, .int c), (4, .int d)] [] _
      refine RP_step (pc1 := 65) (L1 := [(0, .int 0), (1, .int a), (2, .int b), (3, .int c), (4, .int d)]) (S1 := [.int a]) 3 0 (fun n => rfl) ?_
      refine RP_call 57 [.int a] (fun n => rfl) ?_
      show RP 57 _ 0 [(0, .int a)] [] _
      refine RP_step (pc1 := 4) (L1 := [(0, .int a)]) (S1 := [.int 15, .int 0, .int a]) 3 0 (fun n => rfl) ?_
      refine RP_call 55 [.int a, .int 0, .int 15] (fun n => rfl) ?_
      show RP 55 _ 0 [(0, .int a), (1, .int 0), (2, .int 15)] [] _
      refine RP_step (pc1 := 2) (L1 := [(0, .int a), (1, .int 0), (2, .int 15)]) (S1 := [.int 0, .int a]) 2 0 (fun n => rfl) ?_
      refine RP_cond (decide (a < 0)) (fun n => rfl) (fun _ => ?_) (fun h => absurd (xi_lt (x := a) (y := 0) (show a.toInt < 0 by omega)) (of_decide_eq_false h))
      show RP 55 _ 14 [(0, .int a), (1, .int 0), (2, .int 15)] [] _
      refine RP_done 4 (fun n => rfl) ?_
      refine Or.inr ⟨0, rfl, ?_⟩
      show RP 57 _ 7 [(0, .int a)] [.int 0] _
      refine RP_done 3 (fun n => rfl) ?_
      refine Or.inr ⟨0, rfl, ?_⟩
      show RP 59 _ 68 [(0, .int 0), (1, .int a), (2, .int b), (3, .int c), (4, .int d)] [.int 0] _
      refine RP_done 5 (fun n => rfl) ?_
      exact ⟨rfl, rfl⟩
    · have h3 := of_decide_eq_false hh
      have h4 : 0 ≤ a.toInt := xj_nlt h3
      show RP 23 _ 4 [(0, .int a)] [] _
      refine RP_step (pc1 := 7) (L1 := [(0, .int a)]) (S1 := [.int 16, .int a]) 2 0 (fun n => rfl) ?_
      refine RP_cond (decide (16 ≤ a)) (fun n => rfl) (fun hh => ?_) (fun hh => ?_)
      · have h5 := of_decide_eq_true hh
        have h6 : 16 ≤ a.toInt := xj_le h5
        show RP 23 _ 14 [(0, .int a)] [] _
        refine RP_done 4 (fun n => rfl) ?_
        refine Or.inr ⟨0, rfl, ?_⟩
        show RP 25 _ 68 [(0, .int 0), (1, .int a), (2, .int b), (3, .int c), (4, .int d)] [.int 0] _
        refine RP_done 5 (fun n => rfl) ?_
        refine ⟨Or.inl rfl, rfl, ?_⟩
        show RP 59 _ 0 [(0, .int 0), (1, .int a), (2, .int b), (3, .int c), (4, .int d)] [] _
        refine RP_step (pc1 := 65) (L1 := [(0, .int 0), (1, .int a), (2, .int b), (3, .int c), (4, .int d)]) (S1 := [.int a]) 3 0 (fun n => rfl) ?_
        refine RP_call 57 [.int a] (fun n => rfl) ?_
        show RP 57 _ 0 [(0, .int a)] [] _
        refine RP_step (pc1 := 4) (L1 := [(0, .int a)]) (S1 := [.int 15, .int 0, .int a]) 3 0 (fun n => rfl) ?_
        refine RP_call 55 [.int a, .int 0, .int 15] (fun n => rfl) ?_
        show RP 55 _ 0 [(0, .int a), (1, .int 0), (2, .int 15)] [] _
        refine RP_step (pc1 := 2) (L1 := [(0, .int a), (1, .int 0), (2, .int 15)]) (S1 := [.int 0, .int a]) 2 0 (fun n => rfl) ?_
        refine RP_cond (decide (a < 0)) (fun n => rfl) (fun h => absurd (of_decide_eq_true h) (xi_nlt (x := a) (y := 0) (show 0 ≤ a.toInt by omega))) (fun _ => ?_)
        show RP 55 _ 5 [(0, .int a), (1, .int 0), (2, .int 15)] [] _
        refine RP_step (pc1 := 7) (L1 := [(0, .int a), (1, .int 0), (2, .int 15)]) (S1 := [.int 15, .int a]) 2 0 (fun n => rfl) ?_
        refine RP_cond (decide (15 < a)) (fun n => rfl) (fun _ => ?_) (fun h => absurd (xi_lt (x := 15) (y := a) (show 15 < a.toInt by omega)) (of_decide_eq_false h))
        show RP 55 _ 14 [(0, .int a), (1, .int 0), (2, .int 15)] [] _
        refine RP_done 4 (fun n => rfl) ?_
        refine Or.inr ⟨0, rfl, ?_⟩
        show RP 57 _ 7 [(0, .int a)] [.int 0] _
        refine RP_done 3 (fun n => rfl) ?_
        refine Or.inr ⟨0, rfl, ?_⟩
        show RP 59 _ 68 [(0, .int 0), (1, .int a), (2, .int b), (3, .int c), (4, .int d)] [.int 0] _
        refine RP_done 5 (fun n => rfl) ?_
        exact ⟨rfl, rfl⟩
      · have h7 := of_decide_eq_false hh
        have h8 : a.toInt < 16 := xj_nle h7
        show RP 23 _ 10 [(0, .int a)] [] _
        refine RP_done 5 (fun n => rfl) ?_
        refine Or.inr ⟨1, rfl, ?_⟩
        show RP 25 _ 68 [(0, .int 0), (1, .int a), (2, .int b), (3, .int c), (4, .int d)] [.int 1] _
        refine RP_step (pc1 := 72) (L1 := [(0, .int 0), (1, .int a), (2, .int b), (3, .int c), (4, .int d)]) (S1 := [.int b]) 2 0 (fun n => rfl) ?_
        refine RP_cond (decide (b < 0)) (fun n => rfl) (fun hh => ?_) (fun hh => ?_)
        · have h9 := of_decide_eq_true hh
          have h10 : b.toInt < 0 := xj_lt h9
          show RP 25 _ 95 [(0, .int 0), (1, .int a), (2, .int b), (3, .int c), (4, .int d)] [] _
          refine RP_done 4 (fun n => rfl) ?_
          refine ⟨Or.inl rfl, rfl, ?_⟩
          show RP 59 _ 0 [(0, .int 0), (1, .int a), (2, .int b), (3, .int c), (4, .int d)] [] _
          refine RP_step (pc1 := 65) (L1 := [(0, .int 0), (1, .int a), (2, .int b), (3, .int c), (4, .int d)]) (S1 := [.int a]) 3 0 (fun n => rfl) ?_
          refine RP_call 57 [.int a] (fun n => rfl) ?_
          show RP 57 _ 0 [(0, .int a)] [] _
          refine RP_step (pc1 := 4) (L1 := [(0, .int a)]) (S1 := [.int 15, .int 0, .int a]) 3 0 (fun n => rfl) ?_
          refine RP_call 55 [.int a, .int 0, .int 15] (fun n => rfl) ?_
          show RP 55 _ 0 [(0, .int a), (1, .int 0), (2, .int 15)] [] _
          refine RP_step (pc1 := 2) (L1 := [(0, .int a), (1, .int 0), (2, .int 15)]) (S1 := [.int 0, .int a]) 2 0 (fun n => rfl) ?_
          refine RP_cond (decide (a < 0)) (fun n => rfl) (fun h => absurd (of_decide_eq_true h) (xi_nlt (x := a) (y := 0) (show 0 ≤ a.toInt by omega))) (fun _ => ?_)
          show RP 55 _ 5 [(0, .int a), (1, .int 0), (2, .int 15)] [] _
          refine RP_step (pc1 := 7) (L1 := [(0, .int a), (1, .int 0), (2, .int 15)]) (S1 := [.int 15, .int a]) 2 0 (fun n => rfl) ?_
          refine RP_cond (decide (15 < a)) (fun n => rfl) (fun h => absurd (of_decide_eq_true h) (xi_nlt (x := 15) (y := a) (show a.toInt ≤ 15 by omega))) (fun _ => ?_)
          show RP 55 _ 10 [(0, .int a), (1, .int 0), (2, .int 15)] [] _
          refine RP_done 5 (fun n => rfl) ?_
          refine Or.inr ⟨1, rfl, ?_⟩
          show RP 57 _ 7 [(0, .int a)] [.int 1] _
          refine RP_done 3 (fun n => rfl) ?_
          refine Or.inr ⟨1, rfl, ?_⟩
          show RP 59 _ 68 [(0, .int 0), (1, .int a), (2, .int b), (3, .int c), (4, .int d)] [.int 1] _
          refine RP_step (pc1 := 76) (L1 := [(0, .int 0), (1, .int a), (2, .int b), (3, .int c), (4, .int d)]) (S1 := [.int 255, .int 0, .int b]) 4 0 (fun n => rfl) ?_
          refine RP_call 55 [.int b, .int 0, .int 255] (fun n => rfl) ?_
          show RP 55 _ 0 [(0, .int b), (1, .int 0), (2, .int 255)] [] _
          refine RP_step (pc1 := 2) (L1 := [(0, .int b), (1, .int 0), (2, .int 255)]) (S1 := [.int 0, .int b]) 2 0 (fun n => rfl) ?_
          refine RP_cond (decide (b < 0)) (fun n => rfl) (fun _ => ?_) (fun h => absurd (xi_lt (x := b) (y := 0) (show b.toInt < 0 by omega)) (of_decide_eq_false h))
          show RP 55 _ 14 [(0, .int b), (1, .int 0), (2, .int 255)] [] _
          refine RP_done 4 (fun n => rfl) ?_
          refine Or.inr ⟨0, rfl, ?_⟩
          show RP 59 _ 79 [(0, .int 0), (1, .int a), (2, .int b), (3, .int c), (4, .int d)] [.int 0] _
          refine RP_done 5 (fun n => rfl) ?_
          exact ⟨rfl, rfl⟩
        · have h11 := of_decide_eq_false hh
          have h12 : 0 ≤ b.toInt := xj_nlt h11
          show RP 25 _ 75 [(0, .int 0), (1, .int a), (2, .int b), (3, .int c), (4, .int d)] [] _
          refine RP_step (pc1 := 79) (L1 := [(0, .int 0), (1, .int a), (2, .int b), (3, .int c), (4, .int d)]) (S1 := [.int 255, .int b]) 2 0 (fun n => rfl) ?_
          refine RP_cond (decide (255 < b)) (fun n => rfl) (fun hh => ?_) (fun hh => ?_)
          · have h13 := of_decide_eq_true hh
            have h14 : 255 < b.toInt := xj_lt h13
            show RP 25 _ 95 [(0, .int 0), (1, .int a), (2, .int b), (3, .int c), (4, .int d)] [] _
            refine RP_done 4 (fun n => rfl) ?_
            refine ⟨Or.inl rfl, rfl, ?_⟩
            show RP 59 _ 0 [(0, .int 0), (1, .int a), (2, .int b), (3, .int c), (4, .int d)] [] _
            refine RP_step (pc1 := 65) (L1 := [(0, .int 0), (1, .int a), (2, .int b), (3, .int c), (4, .int d)]) (S1 := [.int a]) 3 0 (fun n => rfl) ?_
            refine RP_call 57 [.int a] (fun n => rfl) ?_
            show RP 57 _ 0 [(0, .int a)] [] _
            refine RP_step (pc1 := 4) (L1 := [(0, .int a)]) (S1 := [.int 15, .int 0, .int a]) 3 0 (fun n => rfl) ?_
            refine RP_call 55 [.int a, .int 0, .int 15] (fun n => rfl) ?_
            show RP 55 _ 0 [(0, .int a), (1, .int 0), (2, .int 15)] [] _
            refine RP_step (pc1 := 2) (L1 := [(0, .int a), (1, .int 0), (2, .int 15)]) (S1 := [.int 0, .int a]) 2 0 (fun n => rfl) ?_
            refine RP_cond (decide (a < 0)) (fun n => rfl) (fun h => absurd (of_decide_eq_true h) (xi_nlt (x := a) (y := 0) (show 0 ≤ a.toInt by omega))) (fun _ => ?_)
            show RP 55 _ 5 [(0, .int a), (1, .int 0), (2, .int 15)] [] _
            refine RP_step (pc1 := 7) (L1 := [(0, .int a), (1, .int 0), (2, .int 15)]) (S1 := [.int 15, .int a]) 2 0 (fun n => rfl) ?_
            refine RP_cond (decide (15 < a)) (fun n => rfl) (fun h => absurd (of_decide_eq_true h) (xi_nlt (x := 15) (y := a) (show a.toInt ≤ 15 by omega))) (fun _ => ?_)
            show RP 55 _ 10 [(0, .int a), (1, .int 0), (2, .int 15)] [] _
            refine RP_done 5 (fun n => rfl) ?_
            refine Or.inr ⟨1, rfl, ?_⟩
            show RP 57 _ 7 [(0, .int a)] [.int 1] _
            refine RP_done 3 (fun n => rfl) ?_
            refine Or.inr ⟨1, rfl, ?_⟩
            show RP 59 _ 68 [(0, .int 0), (1, .int a), (2, .int b), (3, .int c), (4, .int d)] [.int 1] _
            refine RP_step (pc1 := 76) (L1 := [(0, .int 0), (1, .int a), (2, .int b), (3, .int c), (4, .int d)]) (S1 := [.int 255, .int 0, .int b]) 4 0 (fun n => rfl) ?_
            refine RP_call 55 [.int b, .int 0, .int 255] (fun n => rfl) ?_
            show RP 55 _ 0 [(0, .int b), (1, .int 0), (2, .int 255)] [] _
            refine RP_step (pc1 := 2) (L1 := [(0, .int b), (1, .int 0), (2, .int 255)]) (S1 := [.int 0, .int b]) 2 0 (fun n => rfl) ?_
            refine RP_cond (decide (b < 0)) (fun n => rfl) (fun h => absurd (of_decide_eq_true h) (xi_nlt (x := b) (y := 0) (show 0 ≤ b.toInt by omega))) (fun _ => ?_)
            show RP 55 _ 5 [(0, .int b), (1, .int 0), (2, .int 255)] [] _
            refine RP_step (pc1 := 7) (L1 := [(0, .int b), (1, .int 0), (2, .int 255)]) (S1 := [.int 255, .int b]) 2 0 (fun n => rfl) ?_
            refine RP_cond (decide (255 < b)) (fun n => rfl) (fun _ => ?_) (fun h => absurd (xi_lt (x := 255) (y := b) (show 255 < b.toInt by omega)) (of_decide_eq_false h))
            show RP 55 _ 14 [(0, .int b), (1, .int 0), (2, .int 255)] [] _
            refine RP_done 4 (fun n => rfl) ?_
            refine Or.inr ⟨0, rfl, ?_⟩
            show RP 59 _ 79 [(0, .int 0), (1, .int a), (2, .int b), (3, .int c), (4, .int d)] [.int 0] _
            refine RP_done 5 (fun n => rfl) ?_
            exact ⟨rfl, rfl⟩
          · have h15 := of_decide_eq_false hh
            have h16 : b.toInt ≤ 255 := xj_nlt h15
            show RP 25 _ 82 [(0, .int 0), (1, .int a), (2, .int b), (3, .int c), (4, .int d)] [] _
            refine RP_step (pc1 := 83) (L1 := [(0, .int 0), (1, .int a), (2, .int b), (3, .int c), (4, .int d)]) (S1 := [.int c]) 1 0 (fun n => rfl) ?_
            refine RP_cond (decide (c ≠ 0)) (fun n => rfl) (fun hh => ?_) (fun hh => ?_)
            · have h17 := of_decide_eq_true hh
              show RP 25 _ 95 [(0, .int 0), (1, .int a), (2, .int b), (3, .int c), (4, .int d)] [] _
              refine RP_done 4 (fun n => rfl) ?_
              refine ⟨Or.inl rfl, rfl, ?_⟩
              show RP 59 _ 0 [(0, .int 0), (1, .int a), (2, .int b), (3, .int c), (4, .int d)] [] _
              refine RP_step (pc1 := 65) (L1 := [(0, .int 0), (1, .int a), (2, .int b), (3, .int c), (4, .int d)]) (S1 := [.int a]) 3 0 (fun n => rfl) ?_
              refine RP_call 57 [.int a] (fun n => rfl) ?_
              show RP 57 _ 0 [(0, .int a)] [] _
              refine RP_step (pc1 := 4) (L1 := [(0, .int a)]) (S1 := [.int 15, .int 0, .int a]) 3 0 (fun n => rfl) ?_
              refine RP_call 55 [.int a, .int 0, .int 15] (fun n => rfl) ?_
              show RP 55 _ 0 [(0, .int a), (1, .int 0), (2, .int 15)] [] _
              refine RP_step (pc1 := 2) (L1 := [(0, .int a), (1, .int 0), (2, .int 15)]) (S1 := [.int 0, .int a]) 2 0 (fun n => rfl) ?_
              refine RP_cond (decide (a < 0)) (fun n => rfl) (fun h => absurd (of_decide_eq_true h) (xi_nlt (x := a) (y := 0) (show 0 ≤ a.toInt by omega))) (fun _ => ?_)
              show RP 55 _ 5 [(0, .int a), (1, .int 0), (2, .int 15)] [] _
              refine RP_step (pc1 := 7) (L1 := [(0, .int a), (1, .int 0), (2, .int 15)]) (S1 := [.int 15, .int a]) 2 0 (fun n => rfl) ?_
              refine RP_cond (decide (15 < a)) (fun n => rfl) (fun h => absurd (of_decide_eq_true h) (xi_nlt (x := 15) (y := a) (show a.toInt ≤ 15 by omega))) (fun _ => ?_)
              show RP 55 _ 10 [(0, .int a), (1, .int 0), (2, .int 15)] [] _
              refine RP_done 5 (fun n => rfl) ?_
              refine Or.inr ⟨1, rfl, ?_⟩
              show RP 57 _ 7 [(0, .int a)] [.int 1] _
              refine RP_done 3 (fun n => rfl) ?_
              refine Or.inr ⟨1, rfl, ?_⟩
              show RP 59 _ 68 [(0, .int 0), (1, .int a), (2, .int b), (3, .int c), (4, .int d)] [.int 1] _
              refine RP_step (pc1 := 76) (L1 := [(0, .int 0), (1, .int a), (2, .int b), (3, .int c), (4, .int d)]) (S1 := [.int 255, .int 0, .int b]) 4 0 (fun n => rfl) ?_
              refine RP_call 55 [.int b, .int 0, .int 255] (fun n => rfl) ?_
              show RP 55 _ 0 [(0, .int b), (1, .int 0), (2, .int 255)] [] _
              refine RP_step (pc1 := 2) (L1 := [(0, .int b), (1, .int 0), (2, .int 255)]) (S1 := [.int 0, .int b]) 2 0 (fun n => rfl) ?_
              refine RP_cond (decide (b < 0)) (fun n => rfl) (fun h => absurd (of_decide_eq_true h) (xi_nlt (x := b) (y := 0) (show 0 ≤ b.toInt by omega))) (fun _ => ?_)
              show RP 55 _ 5 [(0, .int b), (1, .int 0), (2, .int 255)] [] _
              refine RP_step (pc1 := 7) (L1 := [(0, .int b), (1, .int 0), (2, .int 255)]) (S1 := [.int 255, .int b]) 2 0 (fun n => rfl) ?_
              refine RP_cond (decide (255 < b)) (fun n => rfl) (fun h => absurd (of_decide_eq_true h) (xi_nlt (x := 255) (y := b) (show b.toInt ≤ 255 by omega))) (fun _ => ?_)
              show RP 55 _ 10 [(0, .int b), (1, .int 0), (2, .int 255)] [] _
              refine RP_done 5 (fun n => rfl) ?_
              refine Or.inr ⟨1, rfl, ?_⟩
              show RP 59 _ 79 [(0, .int 0), (1, .int a), (2, .int b), (3, .int c), (4, .int d)] [.int 1] _
              refine RP_step (pc1 := 83) (L1 := [(0, .int 0), (1, .int a), (2, .int b), (3, .int c), (4, .int d)]) (S1 := [.int c]) 2 0 (fun n => rfl) ?_
              refine RP_cond (decide (c ≠ 0)) (fun n => rfl) (fun _ => ?_) (fun h => absurd (by assumption) (of_decide_eq_false h))
              show RP 59 _ 95 [(0, .int 0), (1, .int a), (2, .int b), (3, .int c), (4, .int d)] [] _
              refine RP_done 4 (fun n => rfl) ?_
              exact ⟨rfl, rfl⟩
            · have h18 := of_decide_eq_false hh
              replace h18 := Decidable.of_not_not h18
              clear hh
              subst h18
              show RP 25 _ 86 [(0, .int 0), (1, .int a), (2, .int b), (3, .int 0), (4, .int d)] [] _
              refine RP_step (pc1 := 88) (L1 := [(0, .int 0), (1, .int a), (2, .int b), (3, .int 0), (4, .int d)]) (S1 := [.int d]) 1 0 (fun n => rfl) ?_
              refine RP_cond (decide (d ≠ 0)) (fun n => rfl) (fun hh => ?_) (fun hh => ?_)
              · have h19 := of_decide_eq_true hh
                show RP 25 _ 95 [(0, .int 0), (1, .int a), (2, .int b), (3, .int 0), (4, .int d)] [] _
                refine RP_done 4 (fun n => rfl) ?_
                refine ⟨Or.inl rfl, rfl, ?_⟩
                show RP 59 _ 0 [(0, .int 0), (1, .int a), (2, .int b), (3, .int 0), (4, .int d)] [] _
                refine RP_step (pc1 := 65) (L1 := [(0, .int 0), (1, .int a), (2, .int b), (3, .int 0), (4, .int d)]) (S1 := [.int a]) 3 0 (fun n => rfl) ?_
                refine RP_call 57 [.int a] (fun n => rfl) ?_
                show RP 57 _ 0 [(0, .int a)] [] _
                refine RP_step (pc1 := 4) (L1 := [(0, .int a)]) (S1 := [.int 15, .int 0, .int a]) 3 0 (fun n => rfl) ?_
                refine RP_call 55 [.int a, .int 0, .int 15] (fun n => rfl) ?_
                show RP 55 _ 0 [(0, .int a), (1, .int 0), (2, .int 15)] [] _
                refine RP_step (pc1 := 2) (L1 := [(0, .int a), (1, .int 0), (2, .int 15)]) (S1 := [.int 0, .int a]) 2 0 (fun n => rfl) ?_
                refine RP_cond (decide (a < 0)) (fun n => rfl) (fun h => absurd (of_decide_eq_true h) (xi_nlt (x := a) (y := 0) (show 0 ≤ a.toInt by omega))) (fun _ => ?_)
                show RP 55 _ 5 [(0, .int a), (1, .int 0), (2, .int 15)] [] _
                refine RP_step (pc1 := 7) (L1 := [(0, .int a), (1, .int 0), (2, .int 15)]) (S1 := [.int 15, .int a]) 2 0 (fun n => rfl) ?_
                refine RP_cond (decide (15 < a)) (fun n => rfl) (fun h => absurd (of_decide_eq_true h) (xi_nlt (x := 15) (y := a) (show a.toInt ≤ 15 by omega))) (fun _ => ?_)
                show RP 55 _ 10 [(0, .int a), (1, .int 0), (2, .int 15)] [] _
                refine RP_done 5 (fun n => rfl) ?_
                refine Or.inr ⟨1, rfl, ?_⟩
                show RP 57 _ 7 [(0, .int a)] [.int 1] _
                refine RP_done 3 (fun n => rfl) ?_
                refine Or.inr ⟨1, rfl, ?_⟩
                show RP 59 _ 68 [(0, .int 0), (1, .int a), (2, .int b), (3, .int 0), (4, .int d)] [.int 1] _
                refine RP_step (pc1 := 76) (L1 := [(0, .int 0), (1, .int a), (2, .int b), (3, .int 0), (4, .int d)]) (S1 := [.int 255, .int 0, .int b]) 4 0 (fun n => rfl) ?_
                refine RP_call 55 [.int b, .int 0, .int 255] (fun n => rfl) ?_
                show RP 55 _ 0 [(0, .int b), (1, .int 0), (2, .int 255)] [] _
                refine RP_step (pc1 := 2) (L1 := [(0, .int b), (1, .int 0), (2, .int 255)]) (S1 := [.int 0, .int b]) 2 0 (fun n => rfl) ?_
                refine RP_cond (decide (b < 0)) (fun n => rfl) (fun h => absurd (of_decide_eq_true h) (xi_nlt (x := b) (y := 0) (show 0 ≤ b.toInt by omega))) (fun _ => ?_)
                show RP 55 _ 5 [(0, .int b), (1, .int 0), (2, .int 255)] [] _
                refine RP_step (pc1 := 7) (L1 := [(0, .int b), (1, .int 0), (2, .int 255)]) (S1 := [.int 255, .int b]) 2 0 (fun n => rfl) ?_
                refine RP_cond (decide (255 < b)) (fun n => rfl) (fun h => absurd (of_decide_eq_true h) (xi_nlt (x := 255) (y := b) (show b.toInt ≤ 255 by omega))) (fun _ => ?_)
                show RP 55 _ 10 [(0, .int b), (1, .int 0), (2, .int 255)] [] _
                refine RP_done 5 (fun n => rfl) ?_
                refine Or.inr ⟨1, rfl, ?_⟩
                show RP 59 _ 79 [(0, .int 0), (1, .int a), (2, .int b), (3, .int 0), (4, .int d)] [.int 1] _
                refine RP_step (pc1 := 88) (L1 := [(0, .int 0), (1, .int a), (2, .int b), (3, .int 0), (4, .int d)]) (S1 := [.int d]) 4 0 (fun n => rfl) ?_
                refine RP_cond (decide (d ≠ 0)) (fun n => rfl) (fun _ => ?_) (fun h => absurd (by assumption) (of_decide_eq_false h))
                show RP 59 _ 95 [(0, .int 0), (1, .int a), (2, .int b), (3, .int 0), (4, .int d)] [] _
                refine RP_done 4 (fun n => rfl) ?_
                exact ⟨rfl, rfl⟩
              · have h20 := of_decide_eq_false hh
                replace h20 := Decidable.of_not_not h20
                clear hh
                subst h20
                show RP 25 _ 91 [(0, .int 0), (1, .int a), (2, .int b), (3, .int 0), (4, .int 0)] [] _
                refine RP_done 5 (fun n => rfl) ?_
                refine ⟨Or.inr rfl, rfl, ?_⟩
                show RP 59 _ 0 [(0, .int 0), (1, .int a), (2, .int b), (3, .int 0), (4, .int 0)] [] _
                refine RP_step (pc1 := 65) (L1 := [(0, .int 0), (1, .int a), (2, .int b), (3, .int 0), (4, .int 0)]) (S1 := [.int a]) 3 0 (fun n => rfl) ?_
                refine RP_call 57 [.int a] (fun n => rfl) ?_
                show RP 57 _ 0 [(0, .int a)] [] _
                refine RP_step (pc1 := 4) (L1 := [(0, .int a)]) (S1 := [.int 15, .int 0, .int a]) 3 0 (fun n => rfl) ?_
                refine RP_call 55 [.int a, .int 0, .int 15] (fun n => rfl) ?_
                show RP 55 _ 0 [(0, .int a), (1, .int 0), (2, .int 15)] [] _
                refine RP_step (pc1 := 2) (L1 := [(0, .int a), (1, .int 0), (2, .int 15)]) (S1 := [.int 0, .int a]) 2 0 (fun n => rfl) ?_
                refine RP_cond (decide (a < 0)) (fun n => rfl) (fun h => absurd (of_decide_eq_true h) (xi_nlt (x := a) (y := 0) (show 0 ≤ a.toInt by omega))) (fun _ => ?_)
                show RP 55 _ 5 [(0, .int a), (1, .int 0), (2, .int 15)] [] _
                refine RP_step (pc1 := 7) (L1 := [(0, .int a), (1, .int 0), (2, .int 15)]) (S1 := [.int 15, .int a]) 2 0 (fun n => rfl) ?_
                refine RP_cond (decide (15 < a)) (fun n => rfl) (fun h => absurd (of_decide_eq_true h) (xi_nlt (x := 15) (y := a) (show a.toInt ≤ 15 by omega))) (fun _ => ?_)
                show RP 55 _ 10 [(0, .int a), (1, .int 0), (2, .int 15)] [] _
                refine RP_done 5 (fun n => rfl) ?_
                refine Or.inr ⟨1, rfl, ?_⟩
                show RP 57 _ 7 [(0, .int a)] [.int 1] _
                refine RP_done 3 (fun n => rfl) ?_
                refine Or.inr ⟨1, rfl, ?_⟩
                show RP 59 _ 68 [(0, .int 0), (1, .int a), (2, .int b), (3, .int 0), (4, .int 0)] [.int 1] _
                refine RP_step (pc1 := 76) (L1 := [(0, .int 0), (1, .int a), (2, .int b), (3, .int 0), (4, .int 0)]) (S1 := [.int 255, .int 0, .int b]) 4 0 (fun n => rfl) ?_
                refine RP_call 55 [.int b, .int 0, .int 255] (fun n => rfl) ?_
                show RP 55 _ 0 [(0, .int b), (1, .int 0), (2, .int 255)] [] _
                refine RP_step (pc1 := 2) (L1 := [(0, .int b), (1, .int 0), (2, .int 255)]) (S1 := [.int 0, .int b]) 2 0 (fun n => rfl) ?_
                refine RP_cond (decide (b < 0)) (fun n => rfl) (fun h => absurd (of_decide_eq_true h) (xi_nlt (x := b) (y := 0) (show 0 ≤ b.toInt by omega))) (fun _ => ?_)
                show RP 55 _ 5 [(0, .int b), (1, .int 0), (2, .int 255)] [] _
                refine RP_step (pc1 := 7) (L1 := [(0, .int b), (1, .int 0), (2, .int 255)]) (S1 := [.int 255, .int b]) 2 0 (fun n => rfl) ?_
                refine RP_cond (decide (255 < b)) (fun n => rfl) (fun h => absurd (of_decide_eq_true h) (xi_nlt (x := 255) (y := b) (show b.toInt ≤ 255 by omega))) (fun _ => ?_)
                show RP 55 _ 10 [(0, .int b), (1, .int 0), (2, .int 255)] [] _
                refine RP_done 5 (fun n => rfl) ?_
                refine Or.inr ⟨1, rfl, ?_⟩
                show RP 59 _ 79 [(0, .int 0), (1, .int a), (2, .int b), (3, .int 0), (4, .int 0)] [.int 1] _
                refine RP_done 10 (fun n => rfl) ?_
                exact ⟨rfl, rfl⟩
  · skip
    show RP 25 _ 0 [(0, .int 1), (1, .int a), (2, .int b), (3, .int c), (4, .int d)] [] _
    refine RP_step (pc1 := 99) (L1 := [(0, .int 1), (1, .int a), (2, .int b), (3, .int c), (4, .int d)]) (S1 := [.int c, .int a]) 4 0 (fun n => rfl) ?_
    refine RP_call 24 [.int a, .int c] (fun n => rfl) ?_
    show RP 24 _ 0 [(0, .int a), (1, .int c)] [] _
    refine RP_step (pc1 := 1) (L1 := [(0, .int a), (1, .int c)]) (S1 := [.int a]) 1 0 (fun n => rfl) ?_
    refine RP_call 23 [.int a] (fun n => rfl) ?_
    show RP 23 _ 0 [(0, .int a)] [] _
    refine RP_step (pc1 := 1) (L1 := [(0, .int a)]) (S1 := [.int a]) 1 0 (fun n => rfl) ?_
    refine RP_cond (decide (a < 0)) (fun n => rfl) (fun hh => ?_) (fun hh => ?_)
    · have h21 := of_decide_eq_true hh
      have h22 : a.toInt < 0 := xj_lt h21
      show RP 23 _ 14 [(0, .int a)] [] _
      refine RP_done 4 (fun n => rfl) ?_
      refine Or.inr ⟨0, rfl, ?_⟩
      show RP 24 _ 4 [(0, .int a), (1, .int c)] [.int 0] _
      refine RP_done 5 (fun n => rfl) ?_
      refine Or.inr ⟨0, rfl, ?_⟩
      show RP 25 _ 102 [(0, .int 1), (1, .int a), (2, .int b), (3, .int c), (4, .int d)] [.int 0] _
      refine RP_done 5 (fun n => rfl) ?_
      refine ⟨Or.inl rfl, rfl, ?_⟩
      show RP 59 _ 0 [(0, .int 1), (1, .int a), (2, .int b), (3, .int c), (4, .int d)] [] _
      refine RP_step (pc1 := 99) (L1 := [(0, .int 1), (1, .int a), (2, .int b), (3, .int c), (4, .int d)]) (S1 := [.int c, .int a]) 4 0 (fun n => rfl) ?_
      refine RP_call 58 [.int a, .int c] (fun n => rfl) ?_
      show RP 58 _ 0 [(0, .int a), (1, .int c)] [] _
      refine RP_step (pc1 := 1) (L1 := [(0, .int a), (1, .int c)]) (S1 := [.int a]) 1 0 (fun n => rfl) ?_
      refine RP_call 57 [.int a] (fun n => rfl) ?_
      show RP 57 _ 0 [(0, .int a)] [] _
      refine RP_step (pc1 := 4) (L1 := [(0, .int a)]) (S1 := [.int 15, .int 0, .int a]) 3 0 (fun n => rfl) ?_
      refine RP_call 55 [.int a, .int 0, .int 15] (fun n => rfl) ?_
      show RP 55 _ 0 [(0, .int a), (1, .int 0), (2, .int 15)] [] _
      refine RP_step (pc1 := 2) (L1 := [(0, .int a), (1, .int 0), (2, .int 15)]) (S1 := [.int 0, .int a]) 2 0 (fun n => rfl) ?_
      refine RP_cond (decide (a < 0)) (fun n => rfl) (fun _ => ?_) (fun h => absurd (xi_lt (x := a) (y := 0) (show a.toInt < 0 by omega)) (of_decide_eq_false h))
      show RP 55 _ 14 [(0, .int a), (1, .int 0), (2, .int 15)] [] _
      refine RP_done 4 (fun n => rfl) ?_
      refine Or.inr ⟨0, rfl, ?_⟩
      show RP 57 _ 7 [(0, .int a)] [.int 0] _
      refine RP_done 3 (fun n => rfl) ?_
      refine Or.inr ⟨0, rfl, ?_⟩
      show RP 58 _ 4 [(0, .int a), (1, .int c)] [.int 0] _
      refine RP_done 5 (fun n => rfl) ?_
      refine Or.inr ⟨0, rfl, ?_⟩
      show RP 59 _ 102 [(0, .int 1), (1, .int a), (2, .int b), (3, .int c), (4, .int d)] [.int 0] _
      refine RP_done 5 (fun n => rfl) ?_
      exact ⟨rfl, rfl⟩
    · have h23 := of_decide_eq_false hh
      have h24 : 0 ≤ a.toInt := xj_nlt h23
      show RP 23 _ 4 [(0, .int a)] [] _
      refine RP_step (pc1 := 7) (L1 := [(0, .int a)]) (S1 := [.int 16, .int a]) 2 0 (fun n => rfl) ?_
      refine RP_cond (decide (16 ≤ a)) (fun n => rfl) (fun hh => ?_) (fun hh => ?_)
      · have h25 := of_decide_eq_true hh
        have h26 : 16 ≤ a.toInt := xj_le h25
        show RP 23 _ 14 [(0, .int a)] [] _
        refine RP_done 4 (fun n => rfl) ?_
        refine Or.inr ⟨0, rfl, ?_⟩
        show RP 24 _ 4 [(0, .int a), (1, .int c)] [.int 0] _
        refine RP_done 5 (fun n => rfl) ?_
        refine Or.inr ⟨0, rfl, ?_⟩
        show RP 25 _ 102 [(0, .int 1), (1, .int a), (2, .int b), (3, .int c), (4, .int d)] [.int 0] _
        refine RP_done 5 (fun n => rfl) ?_
        refine ⟨Or.inl rfl, rfl, ?_⟩
        show RP 59 _ 0 [(0, .int 1), (1, .int a), (2, .int b), (3, .int c), (4, .int d)] [] _
        refine RP_step (pc1 := 99) (L1 := [(0, .int 1), (1, .int a), (2, .int b), (3, .int c), (4, .int d)]) (S1 := [.int c, .int a]) 4 0 (fun n => rfl) ?_
        refine RP_call 58 [.int a, .int c] (fun n => rfl) ?_
        show RP 58 _ 0 [(0, .int a), (1, .int c)] [] _
        refine RP_step (pc1 := 1) (L1 := [(0, .int a), (1, .int c)]) (S1 := [.int a]) 1 0 (fun n => rfl) ?_
        refine RP_call 57 [.int a] (fun n => rfl) ?_
        show RP 57 _ 0 [(0, .int a)] [] _
        refine RP_step (pc1 := 4) (L1 := [(0, .int a)]) (S1 := [.int 15, .int 0, .int a]) 3 0 (fun n => rfl) ?_
        refine RP_call 55 [.int a, .int 0, .int 15] (fun n => rfl) ?_
        show RP 55 _ 0 [(0, .int a), (1, .int 0), (2, .int 15)] [] _
        refine RP_step (pc1 := 2) (L1 := [(0, .int a), (1, .int 0), (2, .int 15)]) (S1 := [.int 0, .int a]) 2 0 (fun n => rfl) ?_
        refine RP_cond (decide (a < 0)) (fun n => rfl) (fun h => absurd (of_decide_eq_true h) (xi_nlt (x := a) (y := 0) (show 0 ≤ a.toInt by omega))) (fun _ => ?_)
        show RP 55 _ 5 [(0, .int a), (1, .int 0), (2, .int 15)] [] _
        refine RP_step (pc1 := 7) (L1 := [(0, .int a), (1, .int 0), (2, .int 15)]) (S1 := [.int 15, .int a]) 2 0 (fun n => rfl) ?_
        refine RP_cond (decide (15 < a)) (fun n => rfl) (fun _ => ?_) (fun h => absurd (xi_lt (x := 15) (y := a) (show 15 < a.toInt by omega)) (of_decide_eq_false h))
        show RP 55 _ 14 [(0, .int a), (1, .int 0), (2, .int 15)] [] _
        refine RP_done 4 (fun n => rfl) ?_
        refine Or.inr ⟨0, rfl, ?_⟩
        show RP 57 _ 7 [(0, .int a)] [.int 0] _
        refine RP_done 3 (fun n => rfl) ?_
        refine Or.inr ⟨0, rfl, ?_⟩
        show RP 58 _ 4 [(0, .int a), (1, .int c)] [.int 0] _
        refine RP_done 5 (fun n => rfl) ?_
        refine Or.inr ⟨0, rfl, ?_⟩
        show RP 59 _ 102 [(0, .int 1), (1, .int a), (2, .int b), (3, .int c), (4, .int d)] [.int 0] _
        refine RP_done 5 (fun n => rfl) ?_
        exact ⟨rfl, rfl⟩
      · have h27 := of_decide_eq_false hh
        have h28 : a.toInt < 16 := xj_nle h27
        show RP 23 _ 10 [(0, .int a)] [] _
        refine RP_done 5 (fun n => rfl) ?_
        refine Or.inr ⟨1, rfl, ?_⟩
        show RP 24 _ 4 [(0, .int a), (1, .int c)] [.int 1] _
        refine RP_step (pc1 := 9) (L1 := [(0, .int a), (1, .int c)]) (S1 := [.int 1, .int c]) 3 0 (fun n => rfl) ?_
        refine RP_cond (decide (c < 1)) (fun n => rfl) (fun hh => ?_) (fun hh => ?_)
        · have h29 := of_decide_eq_true hh
          have h30 : c.toInt < 1 := xj_lt h29
          show RP 24 _ 30 [(0, .int a), (1, .int c)] [] _
          refine RP_done 4 (fun n => rfl) ?_
          refine Or.inr ⟨0, rfl, ?_⟩
          show RP 25 _ 102 [(0, .int 1), (1, .int a), (2, .int b), (3, .int c), (4, .int d)] [.int 0] _
          refine RP_done 5 (fun n => rfl) ?_
          refine ⟨Or.inl rfl, rfl, ?_⟩
          show RP 59 _ 0 [(0, .int 1), (1, .int a), (2, .int b), (3, .int c), (4, .int d)] [] _
          refine RP_step (pc1 := 99) (L1 := [(0, .int 1), (1, .int a), (2, .int b), (3, .int c), (4, .int d)]) (S1 := [.int c, .int a]) 4 0 (fun n => rfl) ?_
          refine RP_call 58 [.int a, .int c] (fun n => rfl) ?_
          show RP 58 _ 0 [(0, .int a), (1, .int c)] [] _
          refine RP_step (pc1 := 1) (L1 := [(0, .int a), (1, .int c)]) (S1 := [.int a]) 1 0 (fun n => rfl) ?_
          refine RP_call 57 [.int a] (fun n => rfl) ?_
          show RP 57 _ 0 [(0, .int a)] [] _
          refine RP_step (pc1 := 4) (L1 := [(0, .int a)]) (S1 := [.int 15, .int 0, .int a]) 3 0 (fun n => rfl) ?_
          refine RP_call 55 [.int a, .int 0, .int 15] (fun n => rfl) ?_
          show RP 55 _ 0 [(0, .int a), (1, .int 0), (2, .int 15)] [] _
          refine RP_step (pc1 := 2) (L1 := [(0, .int a), (1, .int 0), (2, .int 15)]) (S1 := [.int 0, .int a]) 2 0 (fun n => rfl) ?_
          refine RP_cond (decide (a < 0)) (fun n => rfl) (fun h => absurd (of_decide_eq_true h) (xi_nlt (x := a) (y := 0) (show 0 ≤ a.toInt by omega))) (fun _ => ?_)
          show RP 55 _ 5 [(0, .int a), (1, .int 0), (2, .int 15)] [] _
          refine RP_step (pc1 := 7) (L1 := [(0, .int a), (1, .int 0), (2, .int 15)]) (S1 := [.int 15, .int a]) 2 0 (fun n => rfl) ?_
          refine RP_cond (decide (15 < a)) (fun n => rfl) (fun h => absurd (of_decide_eq_true h) (xi_nlt (x := 15) (y := a) (show a.toInt ≤ 15 by omega))) (fun _ => ?_)
          show RP 55 _ 10 [(0, .int a), (1, .int 0), (2, .int 15)] [] _
          refine RP_done 5 (fun n => rfl) ?_
          refine Or.inr ⟨1, rfl, ?_⟩
          show RP 57 _ 7 [(0, .int a)] [.int 1] _
          refine RP_done 3 (fun n => rfl) ?_
          refine Or.inr ⟨1, rfl, ?_⟩
          show RP 58 _ 4 [(0, .int a), (1, .int c)] [.int 1] _
          refine RP_step (pc1 := 11) (L1 := [(0, .int a), (1, .int c)]) (S1 := [.int 8, .int 1, .int c]) 4 0 (fun n => rfl) ?_
          refine RP_call 55 [.int c, .int 1, .int 8] (fun n => rfl) ?_
          show RP 55 _ 0 [(0, .int c), (1, .int 1), (2, .int 8)] [] _
          refine RP_step (pc1 := 2) (L1 := [(0, .int c), (1, .int 1), (2, .int 8)]) (S1 := [.int 1, .int c]) 2 0 (fun n => rfl) ?_
          refine RP_cond (decide (c < 1)) (fun n => rfl) (fun _ => ?_) (fun h => absurd (xi_lt (x := c) (y := 1) (show c.toInt < 1 by omega)) (of_decide_eq_false h))
          show RP 55 _ 14 [(0, .int c), (1, .int 1), (2, .int 8)] [] _
          refine RP_done 4 (fun n => rfl) ?_
          refine Or.inr ⟨0, rfl, ?_⟩
          show RP 58 _ 14 [(0, .int a), (1, .int c)] [.int 0] _
          refine RP_done 5 (fun n => rfl) ?_
          refine Or.inr ⟨0, rfl, ?_⟩
          show RP 59 _ 102 [(0, .int 1), (1, .int a), (2, .int b), (3, .int c), (4, .int d)] [.int 0] _
          refine RP_done 5 (fun n => rfl) ?_
          exact ⟨rfl, rfl⟩
        · have h31 := of_decide_eq_false hh
          have h32 : 1 ≤ c.toInt := xj_nlt h31
          show RP 24 _ 12 [(0, .int a), (1, .int c)] [] _
          refine RP_step (pc1 := 15) (L1 := [(0, .int a), (1, .int c)]) (S1 := [.int 8, .int c]) 2 0 (fun n => rfl) ?_
          refine RP_cond (decide (8 < c)) (fun n => rfl) (fun hh => ?_) (fun hh => ?_)
          · have h33 := of_decide_eq_true hh
            have h34 : 8 < c.toInt := xj_lt h33
            show RP 24 _ 30 [(0, .int a), (1, .int c)] [] _
            refine RP_done 4 (fun n => rfl) ?_
            refine Or.inr ⟨0, rfl, ?_⟩
            show RP 25 _ 102 [(0, .int 1), (1, .int a), (2, .int b), (3, .int c), (4, .int d)] [.int 0] _
            refine RP_done 5 (fun n => rfl) ?_
            refine ⟨Or.inl rfl, rfl, ?_⟩
            show RP 59 _ 0 [(0, .int 1), (1, .int a), (2, .int b), (3, .int c), (4, .int d)] [] _
            refine RP_step (pc1 := 99) (L1 := [(0, .int 1), (1, .int a), (2, .int b), (3, .int c), (4, .int d)]) (S1 := [.int c, .int a]) 4 0 (fun n => rfl) ?_
            refine RP_call 58 [.int a, .int c] (fun n => rfl) ?_
            show RP 58 _ 0 [(0, .int a), (1, .int c)] [] _
            refine RP_step (pc1 := 1) (L1 := [(0, .int a), (1, .int c)]) (S1 := [.int a]) 1 0 (fun n => rfl) ?_
            refine RP_call 57 [.int a] (fun n => rfl) ?_
            show RP 57 _ 0 [(0, .int a)] [] _
            refine RP_step (pc1 := 4) (L1 := [(0, .int a)]) (S1 := [.int 15, .int 0, .int a]) 3 0 (fun n => rfl) ?_
            refine RP_call 55 [.int a, .int 0, .int 15] (fun n => rfl) ?_
            show RP 55 _ 0 [(0, .int a), (1, .int 0), (2, .int 15)] [] _
            refine RP_step (pc1 := 2) (L1 := [(0, .int a), (1, .int 0), (2, .int 15)]) (S1 := [.int 0, .int a]) 2 0 (fun n => rfl) ?_
            refine RP_cond (decide (a < 0)) (fun n => rfl) (fun h => absurd (of_decide_eq_true h) (xi_nlt (x := a) (y := 0) (show 0 ≤ a.toInt by omega))) (fun _ => ?_)
            show RP 55 _ 5 [(0, .int a), (1, .int 0), (2, .int 15)] [] _
            refine RP_step (pc1 := 7) (L1 := [(0, .int a), (1, .int 0), (2, .int 15)]) (S1 := [.int 15, .int a]) 2 0 (fun n => rfl) ?_
            refine RP_cond (decide (15 < a)) (fun n => rfl) (fun h => absurd (of_decide_eq_true h) (xi_nlt (x := 15) (y := a) (show a.toInt ≤ 15 by omega))) (fun _ => ?_)
            show RP 55 _ 10 [(0, .int a), (1, .int 0), (2, .int 15)] [] _
            refine RP_done 5 (fun n => rfl) ?_
            refine Or.inr ⟨1, rfl, ?_⟩
            show RP 57 _ 7 [(0, .int a)] [.int 1] _
            refine RP_done 3 (fun n => rfl) ?_
            refine Or.inr ⟨1, rfl, ?_⟩
            show RP 58 _ 4 [(0, .int a), (1, .int c)] [.int 1] _
            refine RP_step (pc1 := 11) (L1 := [(0, .int a), (1, .int c)]) (S1 := [.int 8, .int 1, .int c]) 4 0 (fun n => rfl) ?_
            refine RP_call 55 [.int c, .int 1, .int 8] (fun n => rfl) ?_
            show RP 55 _ 0 [(0, .int c), (1, .int 1), (2, .int 8)] [] _
            refine RP_step (pc1 := 2) (L1 := [(0, .int c), (1, .int 1), (2, .int 8)]) (S1 := [.int 1, .int c]) 2 0 (fun n => rfl) ?_
            refine RP_cond (decide (c < 1)) (fun n => rfl) (fun h => absurd (of_decide_eq_true h) (xi_nlt (x := c) (y := 1) (show 1 ≤ c.toInt by omega))) (fun _ => ?_)
            show RP 55 _ 5 [(0, .int c), (1, .int 1), (2, .int 8)] [] _
            refine RP_step (pc1 := 7) (L1 := [(0, .int c), (1, .int 1), (2, .int 8)]) (S1 := [.int 8, .int c]) 2 0 (fun n => rfl) ?_
            refine RP_cond (decide (8 < c)) (fun n => rfl) (fun _ => ?_) (fun h => absurd (xi_lt (x := 8) (y := c) (show 8 < c.toInt by omega)) (of_decide_eq_false h))
            show RP 55 _ 14 [(0, .int c), (1, .int 1), (2, .int 8)] [] _
            refine RP_done 4 (fun n => rfl) ?_
            refine Or.inr ⟨0, rfl, ?_⟩
            show RP 58 _ 14 [(0, .int a), (1, .int c)] [.int 0] _
            refine RP_done 5 (fun n => rfl) ?_
            refine Or.inr ⟨0, rfl, ?_⟩
            show RP 59 _ 102 [(0, .int 1), (1, .int a), (2, .int b), (3, .int c), (4, .int d)] [.int 0] _
            refine RP_done 5 (fun n => rfl) ?_
            exact ⟨rfl, rfl⟩
          · have h35 := of_decide_eq_false hh
            have h36 : c.toInt ≤ 8 := xj_nlt h35
            show RP 24 _ 18 [(0, .int a), (1, .int c)] [] _
            refine RP_step (pc1 := 20) (L1 := [(0, .int a), (1, .int c)]) (S1 := [.int c, .int a]) 2 0 (fun n => rfl) ?_
            refine RP_bin (fun x y => x + y) (fun n => rfl) ?_
            show RP 24 _ 21 [(0, .int a), (1, .int c)] [.int (a + c)] _
            refine RP_step (pc1 := 23) (L1 := [(0, .int a), (1, .int c)]) (S1 := [.int 16, .int (a + c)]) 1 0 (fun n => rfl) ?_
            refine RP_cond (decide (16 < (a + c))) (fun n => rfl) (fun hh => ?_) (fun hh => ?_)
            · have h37 := of_decide_eq_true hh
              have h38 : 16 < (a + c).toInt := xj_lt h37
              show RP 24 _ 30 [(0, .int a), (1, .int c)] [] _
              refine RP_done 4 (fun n => rfl) ?_
              refine Or.inr ⟨0, rfl, ?_⟩
              show RP 25 _ 102 [(0, .int 1), (1, .int a), (2, .int b), (3, .int c), (4, .int d)] [.int 0] _
              refine RP_done 5 (fun n => rfl) ?_
              refine ⟨Or.inl rfl, rfl, ?_⟩
              show RP 59 _ 0 [(0, .int 1), (1, .int a), (2, .int b), (3, .int c), (4, .int d)] [] _
              refine RP_step (pc1 := 99) (L1 := [(0, .int 1), (1, .int a), (2, .int b), (3, .int c), (4, .int d)]) (S1 := [.int c, .int a]) 4 0 (fun n => rfl) ?_
              refine RP_call 58 [.int a, .int c] (fun n => rfl) ?_
              show RP 58 _ 0 [(0, .int a), (1, .int c)] [] _
              refine RP_step (pc1 := 1) (L1 := [(0, .int a), (1, .int c)]) (S1 := [.int a]) 1 0 (fun n => rfl) ?_
              refine RP_call 57 [.int a] (fun n => rfl) ?_
              show RP 57 _ 0 [(0, .int a)] [] _
              refine RP_step (pc1 := 4) (L1 := [(0, .int a)]) (S1 := [.int 15, .int 0, .int a]) 3 0 (fun n => rfl) ?_
              refine RP_call 55 [.int a, .int 0, .int 15] (fun n => rfl) ?_
              show RP 55 _ 0 [(0, .int a), (1, .int 0), (2, .int 15)] [] _
              refine RP_step (pc1 := 2) (L1 := [(0, .int a), (1, .int 0), (2, .int 15)]) (S1 := [.int 0, .int a]) 2 0 (fun n => rfl) ?_
              refine RP_cond (decide (a < 0)) (fun n => rfl) (fun h => absurd (of_decide_eq_true h) (xi_nlt (x := a) (y := 0) (show 0 ≤ a.toInt by omega))) (fun _ => ?_)
              show RP 55 _ 5 [(0, .int a), (1, .int 0), (2, .int 15)] [] _
              refine RP_step (pc1 := 7) (L1 := [(0, .int a), (1, .int 0), (2, .int 15)]) (S1 := [.int 15, .int a]) 2 0 (fun n => rfl) ?_
              refine RP_cond (decide (15 < a)) (fun n => rfl) (fun h => absurd (of_decide_eq_true h) (xi_nlt (x := 15) (y := a) (show a.toInt ≤ 15 by omega))) (fun _ => ?_)
              show RP 55 _ 10 [(0, .int a), (1, .int 0), (2, .int 15)] [] _
              refine RP_done 5 (fun n => rfl) ?_
              refine Or.inr ⟨1, rfl, ?_⟩
              show RP 57 _ 7 [(0, .int a)] [.int 1] _
              refine RP_done 3 (fun n => rfl) ?_
              refine Or.inr ⟨1, rfl, ?_⟩
              show RP 58 _ 4 [(0, .int a), (1, .int c)] [.int 1] _
              refine RP_step (pc1 := 11) (L1 := [(0, .int a), (1, .int c)]) (S1 := [.int 8, .int 1, .int c]) 4 0 (fun n => rfl) ?_
              refine RP_call 55 [.int c, .int 1, .int 8] (fun n => rfl) ?_
              show RP 55 _ 0 [(0, .int c), (1, .int 1), (2, .int 8)] [] _
              refine RP_step (pc1 := 2) (L1 := [(0, .int c), (1, .int 1), (2, .int 8)]) (S1 := [.int 1, .int c]) 2 0 (fun n => rfl) ?_
              refine RP_cond (decide (c < 1)) (fun n => rfl) (fun h => absurd (of_decide_eq_true h) (xi_nlt (x := c) (y := 1) (show 1 ≤ c.toInt by omega))) (fun _ => ?_)
              show RP 55 _ 5 [(0, .int c), (1, .int 1), (2, .int 8)] [] _
              refine RP_step (pc1 := 7) (L1 := [(0, .int c), (1, .int 1), (2, .int 8)]) (S1 := [.int 8, .int c]) 2 0 (fun n => rfl) ?_
              refine RP_cond (decide (8 < c)) (fun n => rfl) (fun h => absurd (of_decide_eq_true h) (xi_nlt (x := 8) (y := c) (show c.toInt ≤ 8 by omega))) (fun _ => ?_)
              show RP 55 _ 10 [(0, .int c), (1, .int 1), (2, .int 8)] [] _
              refine RP_done 5 (fun n => rfl) ?_
              refine Or.inr ⟨1, rfl, ?_⟩
              show RP 58 _ 14 [(0, .int a), (1, .int c)] [.int 1] _
              refine RP_step (pc1 := 19) (L1 := [(0, .int a), (1, .int c)]) (S1 := [.int c, .int a]) 3 0 (fun n => rfl) ?_
              refine RP_bin (fun x y => x + y) (fun n => rfl) ?_
              show RP 58 _ 20 [(0, .int a), (1, .int c)] [.int (a + c)] _
              refine RP_step (pc1 := 22) (L1 := [(0, .int a), (1, .int c)]) (S1 := [.int 16, .int (a + c)]) 1 0 (fun n => rfl) ?_
              refine RP_cond (decide (16 < (a + c))) (fun n => rfl) (fun _ => ?_) (fun h => absurd (xi_lt (x := 16) (y := (a + c)) (show 16 < (a + c).toInt by omega)) (of_decide_eq_false h))
              show RP 58 _ 29 [(0, .int a), (1, .int c)] [] _
              refine RP_done 4 (fun n => rfl) ?_
              refine Or.inr ⟨0, rfl, ?_⟩
              show RP 59 _ 102 [(0, .int 1), (1, .int a), (2, .int b), (3, .int c), (4, .int d)] [.int 0] _
              refine RP_done 5 (fun n => rfl) ?_
              exact ⟨rfl, rfl⟩
            · have h39 := of_decide_eq_false hh
              have h40 : (a + c).toInt ≤ 16 := xj_nlt h39
              show RP 24 _ 26 [(0, .int a), (1, .int c)] [] _
              refine RP_done 5 (fun n => rfl) ?_
              refine Or.inr ⟨1, rfl, ?_⟩
              show RP 25 _ 102 [(0, .int 1), (1, .int a), (2, .int b), (3, .int c), (4, .int d)] [.int 1] _
              refine RP_step (pc1 := 107) (L1 := [(0, .int 1), (1, .int a), (2, .int b), (3, .int c), (4, .int d)]) (S1 := [.int c, .int b]) 3 0 (fun n => rfl) ?_
              refine RP_call 24 [.int b, .int c] (fun n => rfl) ?_
              show RP 24 _ 0 [(0, .int b), (1, .int c)] [] _
              refine RP_step (pc1 := 1) (L1 := [(0, .int b), (1, .int c)]) (S1 := [.int b]) 1 0 (fun n => rfl) ?_
              refine RP_call 23 [.int b] (fun n => rfl) ?_
              show RP 23 _ 0 [(0, .int b)] [] _
              refine RP_step (pc1 := 1) (L1 := [(0, .int b)]) (S1 := [.int b]) 1 0 (fun n => rfl) ?_
              refine RP_cond (decide (b < 0)) (fun n => rfl) (fun hh => ?_) (fun hh => ?_)
              · have h41 := of_decide_eq_true hh
                have h42 : b.toInt < 0 := xj_lt h41
                show RP 23 _ 14 [(0, .int b)] [] _
                refine RP_done 4 (fun n => rfl) ?_
                refine Or.inr ⟨0, rfl, ?_⟩
                show RP 24 _ 4 [(0, .int b), (1, .int c)] [.int 0] _
                refine RP_done 5 (fun n => rfl) ?_
                refine Or.inr ⟨0, rfl, ?_⟩
                show RP 25 _ 110 [(0, .int 1), (1, .int a), (2, .int b), (3, .int c), (4, .int d)] [.int 0] _
                refine RP_done 5 (fun n => rfl) ?_
                refine ⟨Or.inl rfl, rfl, ?_⟩
                show RP 59 _ 0 [(0, .int 1), (1, .int a), (2, .int b), (3, .int c), (4, .int d)] [] _
                refine RP_step (pc1 := 99) (L1 := [(0, .int 1), (1, .int a), (2, .int b), (3, .int c), (4, .int d)]) (S1 := [.int c, .int a]) 4 0 (fun n => rfl) ?_
                refine RP_call 58 [.int a, .int c] (fun n => rfl) ?_
                show RP 58 _ 0 [(0, .int a), (1, .int c)] [] _
                refine RP_step (pc1 := 1) (L1 := [(0, .int a), (1, .int c)]) (S1 := [.int a]) 1 0 (fun n => rfl) ?_
                refine RP_call 57 [.int a] (fun n => rfl) ?_
                show RP 57 _ 0 [(0, .int a)] [] _
                refine RP_step (pc1 := 4) (L1 := [(0, .int a)]) (S1 := [.int 15, .int 0, .int a]) 3 0 (fun n => rfl) ?_
                refine RP_call 55 [.int a, .int 0, .int 15] (fun n => rfl) ?_
                show RP 55 _ 0 [(0, .int a), (1, .int 0), (2, .int 15)] [] _
                refine RP_step (pc1 := 2) (L1 := [(0, .int a), (1, .int 0), (2, .int 15)]) (S1 := [.int 0, .int a]) 2 0 (fun n => rfl) ?_
                refine RP_cond (decide (a < 0)) (fun n => rfl) (fun h => absurd (of_decide_eq_true h) (xi_nlt (x := a) (y := 0) (show 0 ≤ a.toInt by omega))) (fun _ => ?_)
                show RP 55 _ 5 [(0, .int a), (1, .int 0), (2, .int 15)] [] _
                refine RP_step (pc1 := 7) (L1 := [(0, .int a), (1, .int 0), (2, .int 15)]) (S1 := [.int 15, .int a]) 2 0 (fun n => rfl) ?_
                refine RP_cond (decide (15 < a)) (fun n => rfl) (fun h => absurd (of_decide_eq_true h) (xi_nlt (x := 15) (y := a) (show a.toInt ≤ 15 by omega))) (fun _ => ?_)
                show RP 55 _ 10 [(0, .int a), (1, .int 0), (2, .int 15)] [] _
                refine RP_done 5 (fun n => rfl) ?_
                refine Or.inr ⟨1, rfl, ?_⟩
                show RP 57 _ 7 [(0, .int a)] [.int 1] _
                refine RP_done 3 (fun n => rfl) ?_
                refine Or.inr ⟨1, rfl, ?_⟩
                show RP 58 _ 4 [(0, .int a), (1, .int c)] [.int 1] _
                refine RP_step (pc1 := 11) (L1 := [(0, .int a), (1, .int c)]) (S1 := [.int 8, .int 1, .int c]) 4 0 (fun n => rfl) ?_
                refine RP_call 55 [.int c, .int 1, .int 8] (fun n => rfl) ?_
                show RP 55 _ 0 [(0, .int c), (1, .int 1), (2, .int 8)] [] _
                refine RP_step (pc1 := 2) (L1 := [(0, .int c), (1, .int 1), (2, .int 8)]) (S1 := [.int 1, .int c]) 2 0 (fun n => rfl) ?_
                refine RP_cond (decide (c < 1)) (fun n => rfl) (fun h => absurd (of_decide_eq_true h) (xi_nlt (x := c) (y := 1) (show 1 ≤ c.toInt by omega))) (fun _ => ?_)
                show RP 55 _ 5 [(0, .int c), (1, .int 1), (2, .int 8)] [] _
                refine RP_step (pc1 := 7) (L1 := [(0, .int c), (1, .int 1), (2, .int 8)]) (S1 := [.int 8, .int c]) 2 0 (fun n => rfl) ?_
                refine RP_cond (decide (8 < c)) (fun n => rfl) (fun h => absurd (of_decide_eq_true h) (xi_nlt (x := 8) (y := c) (show c.toInt ≤ 8 by omega))) (fun _ => ?_)
                show RP 55 _ 10 [(0, .int c), (1, .int 1), (2, .int 8)] [] _
                refine RP_done 5 (fun n => rfl) ?_
                refine Or.inr ⟨1, rfl, ?_⟩
                show RP 58 _ 14 [(0, .int a), (1, .int c)] [.int 1] _
                refine RP_step (pc1 := 19) (L1 := [(0, .int a), (1, .int c)]) (S1 := [.int c, .int a]) 3 0 (fun n => rfl) ?_
                refine RP_bin (fun x y => x + y) (fun n => rfl) ?_
                show RP 58 _ 20 [(0, .int a), (1, .int c)] [.int (a + c)] _
                refine RP_step (pc1 := 22) (L1 := [(0, .int a), (1, .int c)]) (S1 := [.int 16, .int (a + c)]) 1 0 (fun n => rfl) ?_
                refine RP_cond (decide (16 < (a + c))) (fun n => rfl) (fun h => absurd (of_decide_eq_true h) (xi_nlt (x := 16) (y := (a + c)) (show (a + c).toInt ≤ 16 by omega))) (fun _ => ?_)
                show RP 58 _ 25 [(0, .int a), (1, .int c)] [] _
                refine RP_done 5 (fun n => rfl) ?_
                refine Or.inr ⟨1, rfl, ?_⟩
                show RP 59 _ 102 [(0, .int 1), (1, .int a), (2, .int b), (3, .int c), (4, .int d)] [.int 1] _
                refine RP_step (pc1 := 107) (L1 := [(0, .int 1), (1, .int a), (2, .int b), (3, .int c), (4, .int d)]) (S1 := [.int c, .int b]) 3 0 (fun n => rfl) ?_
                refine RP_call 58 [.int b, .int c] (fun n => rfl) ?_
                show RP 58 _ 0 [(0, .int b), (1, .int c)] [] _
                refine RP_step (pc1 := 1) (L1 := [(0, .int b), (1, .int c)]) (S1 := [.int b]) 1 0 (fun n => rfl) ?_
                refine RP_call 57 [.int b] (fun n => rfl) ?_
                show RP 57 _ 0 [(0, .int b)] [] _
                refine RP_step (pc1 := 4) (L1 := [(0, .int b)]) (S1 := [.int 15, .int 0, .int b]) 3 0 (fun n => rfl) ?_
                refine RP_call 55 [.int b, .int 0, .int 15] (fun n => rfl) ?_
                show RP 55 _ 0 [(0, .int b), (1, .int 0), (2, .int 15)] [] _
                refine RP_step (pc1 := 2) (L1 := [(0, .int b), (1, .int 0), (2, .int 15)]) (S1 := [.int 0, .int b]) 2 0 (fun n => rfl) ?_
                refine RP_cond (decide (b < 0)) (fun n => rfl) (fun _ => ?_) (fun h => absurd (xi_lt (x := b) (y := 0) (show b.toInt < 0 by omega)) (of_decide_eq_false h))
                show RP 55 _ 14 [(0, .int b), (1, .int 0), (2, .int 15)] [] _
                refine RP_done 4 (fun n => rfl) ?_
                refine Or.inr ⟨0, rfl, ?_⟩
                show RP 57 _ 7 [(0, .int b)] [.int 0] _
                refine RP_done 3 (fun n => rfl) ?_
                refine Or.inr ⟨0, rfl, ?_⟩
                show RP 58 _ 4 [(0, .int b), (1, .int c)] [.int 0] _
                refine RP_done 5 (fun n => rfl) ?_
                refine Or.inr ⟨0, rfl, ?_⟩
                show RP 59 _ 110 [(0, .int 1), (1, .int a), (2, .int b), (3, .int c), (4, .int d)] [.int 0] _
                refine RP_done 5 (fun n => rfl) ?_
                exact ⟨rfl, rfl⟩
              · have h43 := of_decide_eq_false hh
                have h44 : 0 ≤ b.toInt := xj_nlt h43
                show RP 23 _ 4 [(0, .int b)] [] _
                refine RP_step (pc1 := 7) (L1 := [(0, .int b)]) (S1 := [.int 16, .int b]) 2 0 (fun n => rfl) ?_
                refine RP_cond (decide (16 ≤ b)) (fun n => rfl) (fun hh => ?_) (fun hh => ?_)
                · have h45 := of_decide_eq_true hh
                  have h46 : 16 ≤ b.toInt := xj_le h45
                  show RP 23 _ 14 [(0, .int b)] [] _
                  refine RP_done 4 (fun n => rfl) ?_
                  refine Or.inr ⟨0, rfl, ?_⟩
                  show RP 24 _ 4 [(0, .int b), (1, .int c)] [.int 0] _
                  refine RP_done 5 (fun n => rfl) ?_
                  refine Or.inr ⟨0, rfl, ?_⟩
                  show RP 25 _ 110 [(0, .int 1), (1, .int a), (2, .int b), (3, .int c), (4, .int d)] [.int 0] _
                  refine RP_done 5 (fun n => rfl) ?_
                  refine ⟨Or.inl rfl, rfl, ?_⟩
                  show RP 59 _ 0 [(0, .int 1), (1, .int a), (2, .int b), (3, .int c), (4, .int d)] [] _
                  refine RP_step (pc1 := 99) (L1 := [(0, .int 1), (1, .int a), (2, .int b), (3, .int c), (4, .int d)]) (S1 := [.int c, .int a]) 4 0 (fun n => rfl) ?_
                  refine RP_call 58 [.int a, .int c] (fun n => rfl) ?_
                  show RP 58 _ 0 [(0, .int a), (1, .int c)] [] _
                  refine RP_step (pc1 := 1) (L1 := [(0, .int a), (1, .int c)]) (S1 := [.int a]) 1 0 (fun n => rfl) ?_
                  refine RP_call 57 [.int a] (fun n => rfl) ?_
                  show RP 57 _ 0 [(0, .int a)] [] _
                  refine RP_step (pc1 := 4) (L1 := [(0, .int a)]) (S1 := [.int 15, .int 0, .int a]) 3 0 (fun n => rfl) ?_
                  refine RP_call 55 [.int a, .int 0, .int 15] (fun n => rfl) ?_
                  show RP 55 _ 0 [(0, .int a), (1, .int 0), (2, .int 15)] [] _
                  refine RP_step (pc1 := 2) (L1 := [(0, .int a), (1, .int 0), (2, .int 15)]) (S1 := [.int 0, .int a]) 2 0 (fun n => rfl) ?_
                  refine RP_cond (decide (a < 0)) (fun n => rfl) (fun h => absurd (of_decide_eq_true h) (xi_nlt (x := a) (y := 0) (show 0 ≤ a.toInt by omega))) (fun _ => ?_)
                  show RP 55 _ 5 [(0, .int a), (1, .int 0), (2, .int 15)] [] _
                  refine RP_step (pc1 := 7) (L1 := [(0, .int a), (1, .int 0), (2, .int 15)]) (S1 := [.int 15, .int a]) 2 0 (fun n => rfl) ?_
                  refine RP_cond (decide (15 < a)) (fun n => rfl) (fun h => absurd (of_decide_eq_true h) (xi_nlt (x := 15) (y := a) (show a.toInt ≤ 15 by omega))) (fun _ => ?_)
                  show RP 55 _ 10 [(0, .int a), (1, .int 0), (2, .int 15)] [] _
                  refine RP_done 5 (fun n => rfl) ?_
                  refine Or.inr ⟨1, rfl, ?_⟩
                  show RP 57 _ 7 [(0, .int a)] [.int 1] _
                  refine RP_done 3 (fun n => rfl) ?_
                  refine Or.inr ⟨1, rfl, ?_⟩
                  show RP 58 _ 4 [(0, .int a), (1, .int c)] [.int 1] _
                  refine RP_step (pc1 := 11) (L1 := [(0, .int a), (1, .int c)]) (S1 := [.int 8, .int 1, .int c]) 4 0 (fun n => rfl) ?_
                  refine RP_call 55 [.int c, .int 1, .int 8] (fun n => rfl) ?_
                  show RP 55 _ 0 [(0, .int c), (1, .int 1), (2, .int 8)] [] _
                  refine RP_step (pc1 := 2) (L1 := [(0, .int c), (1, .int 1), (2, .int 8)]) (S1 := [.int 1, .int c]) 2 0 (fun n => rfl) ?_
                  refine RP_cond (decide (c < 1)) (fun n => rfl) (fun h => absurd (of_decide_eq_true h) (xi_nlt (x := c) (y := 1) (show 1 ≤ c.toInt by omega))) (fun _ => ?_)
                  show RP 55 _ 5 [(0, .int c), (1, .int 1), (2, .int 8)] [] _
                  refine RP_step (pc1 := 7) (L1 := [(0, .int c), (1, .int 1), (2, .int 8)]) (S1 := [.int 8, .int c]) 2 0 (fun n => rfl) ?_
                  refine RP_cond (decide (8 < c)) (fun n => rfl) (fun h => absurd (of_decide_eq_true h) (xi_nlt (x := 8) (y := c) (show c.toInt ≤ 8 by omega))) (fun _ => ?_)
                  show RP 55 _ 10 [(0, .int c), (1, .int 1), (2, .int 8)] [] _
                  refine RP_done 5 (fun n => rfl) ?_
                  refine Or.inr ⟨1, rfl, ?_⟩
                  show RP 58 _ 14 [(0, .int a), (1, .int c)] [.int 1] _
                  refine RP_step (pc1 := 19) (L1 := [(0, .int a), (1, .int c)]) (S1 := [.int c, .int a]) 3 0 (fun n => rfl) ?_
                  refine RP_bin (fun x y => x + y) (fun n => rfl) ?_
                  show RP 58 _ 20 [(0, .int a), (1, .int c)] [.int (a + c)] _
                  refine RP_step (pc1 := 22) (L1 := [(0, .int a), (1, .int c)]) (S1 := [.int 16, .int (a + c)]) 1 0 (fun n => rfl) ?_
                  refine RP_cond (decide (16 < (a + c))) (fun n => rfl) (fun h => absurd (of_decide_eq_true h) (xi_nlt (x := 16) (y := (a + c)) (show (a + c).toInt ≤ 16 by omega))) (fun _ => ?_)
                  show RP 58 _ 25 [(0, .int a), (1, .int c)] [] _
                  refine RP_done 5 (fun n => rfl) ?_
                  refine Or.inr ⟨1, rfl, ?_⟩
                  show RP 59 _ 102 [(0, .int 1), (1, .int a), (2, .int b), (3, .int c), (4, .int d)] [.int 1] _
                  refine RP_step (pc1 := 107) (L1 := [(0, .int 1), (1, .int a), (2, .int b), (3, .int c), (4, .int d)]) (S1 := [.int c, .int b]) 3 0 (fun n => rfl) ?_
                  refine RP_call 58 [.int b, .int c] (fun n => rfl) ?_
                  show RP 58 _ 0 [(0, .int b), (1, .int c)] [] _
                  refine RP_step (pc1 := 1) (L1 := [(0, .int b), (1, .int c)]) (S1 := [.int b]) 1 0 (fun n => rfl) ?_
                  refine RP_call 57 [.int b] (fun n => rfl) ?_
                  show RP 57 _ 0 [(0, .int b)] [] _
                  refine RP_step (pc1 := 4) (L1 := [(0, .int b)]) (S1 := [.int 15, .int 0, .int b]) 3 0 (fun n => rfl) ?_
                  refine RP_call 55 [.int b, .int 0, .int 15] (fun n => rfl) ?_
                  show RP 55 _ 0 [(0, .int b), (1, .int 0), (2, .int 15)] [] _
                  refine RP_step (pc1 := 2) (L1 := [(0, .int b), (1, .int 0), (2, .int 15)]) (S1 := [.int 0, .int b]) 2 0 (fun n => rfl) ?_
                  refine RP_cond (decide (b < 0)) (fun n => rfl) (fun h => absurd (of_decide_eq_true h) (xi_nlt (x := b) (y := 0) (show 0 ≤ b.toInt by omega))) (fun _ => ?_)
                  show RP 55 _ 5 [(0, .int b), (1, .int 0), (2, .int 15)] [] _
                  refine RP_step (pc1 := 7) (L1 := [(0, .int b), (1, .int 0), (2, .int 15)]) (S1 := [.int 15, .int b]) 2 0 (fun n => rfl) ?_
                  refine RP_cond (decide (15 < b)) (fun n => rfl) (fun _ => ?_) (fun h => absurd (xi_lt (x := 15) (y := b) (show 15 < b.toInt by omega)) (of_decide_eq_false h))
                  show RP 55 _ 14 [(0, .int b), (1, .int 0), (2, .int 15)] [] _
                  refine RP_done 4 (fun n => rfl) ?_
                  refine Or.inr ⟨0, rfl, ?_⟩
                  show RP 57 _ 7 [(0, .int b)] [.int 0] _
                  refine RP_done 3 (fun n => rfl) ?_
                  refine Or.inr ⟨0, rfl, ?_⟩
                  show RP 58 _ 4 [(0, .int b), (1, .int c)] [.int 0] _
                  refine RP_done 5 (fun n => rfl) ?_
                  refine Or.inr ⟨0, rfl, ?_⟩
                  show RP 59 _ 110 [(0, .int 1), (1, .int a), (2, .int b), (3, .int c), (4, .int d)] [.int 0] _
                  refine RP_done 5 (fun n => rfl) ?_
                  exact ⟨rfl, rfl⟩
                · have h47 := of_decide_eq_false hh
                  have h48 : b.toInt < 16 := xj_nle h47
                  show RP 23 _ 10 [(0, .int b)] [] _
                  refine RP_done 5 (fun n => rfl) ?_
                  refine Or.inr ⟨1, rfl, ?_⟩
                  show RP 24 _ 4 [(0, .int b), (1, .int c)] [.int 1] _
                  refine RP_step (pc1 := 9) (L1 := [(0, .int b), (1, .int c)]) (S1 := [.int 1, .int c]) 3 0 (fun n => rfl) ?_
                  refine RP_cond (decide (c < 1)) (fun n => rfl) (fun h => absurd (of_decide_eq_true h) (xi_nlt (x := c) (y := 1) (show 1 ≤ c.toInt by omega))) (fun _ => ?_)
                  show RP 24 _ 12 [(0, .int b), (1, .int c)] [] _
                  refine RP_step (pc1 := 15) (L1 := [(0, .int b), (1, .int c)]) (S1 := [.int 8, .int c]) 2 0 (fun n => rfl) ?_
                  refine RP_cond (decide (8 < c)) (fun n => rfl) (fun h => absurd (of_decide_eq_true h) (xi_nlt (x := 8) (y := c) (show c.toInt ≤ 8 by omega))) (fun _ => ?_)
                  show RP 24 _ 18 [(0, .int b), (1, .int c)] [] _
                  refine RP_step (pc1 := 20) (L1 := [(0, .int b), (1, .int c)]) (S1 := [.int c, .int b]) 2 0 (fun n => rfl) ?_
                  refine RP_bin (fun x y => x + y) (fun n => rfl) ?_
                  show RP 24 _ 21 [(0, .int b), (1, .int c)] [.int (b + c)] _
                  refine RP_step (pc1 := 23) (L1 := [(0, .int b), (1, .int c)]) (S1 := [.int 16, .int (b + c)]) 1 0 (fun n => rfl) ?_
                  refine RP_cond (decide (16 < (b + c))) (fun n => rfl) (fun hh => ?_) (fun hh => ?_)
                  · have h49 := of_decide_eq_true hh
                    have h50 : 16 < (b + c).toInt := xj_lt h49
                    show RP 24 _ 30 [(0, .int b), (1, .int c)] [] _
                    refine RP_done 4 (fun n => rfl) ?_
                    refine Or.inr ⟨0, rfl, ?_⟩
                    show RP 25 _ 110 [(0, .int 1), (1, .int a), (2, .int b), (3, .int c), (4, .int d)] [.int 0] _
                    refine RP_done 5 (fun n => rfl) ?_
                    refine ⟨Or.inl rfl, rfl, ?_⟩
                    show RP 59 _ 0 [(0, .int 1), (1, .int a), (2, .int b), (3, .int c), (4, .int d)] [] _
                    refine RP_step (pc1 := 99) (L1 := [(0, .int 1), (1, .int a), (2, .int b), (3, .int c), (4, .int d)]) (S1 := [.int c, .int a]) 4 0 (fun n => rfl) ?_
                    refine RP_call 58 [.int a, .int c] (fun n => rfl) ?_
                    show RP 58 _ 0 [(0, .int a), (1, .int c)] [] _
                    refine RP_step (pc1 := 1) (L1 := [(0, .int a), (1, .int c)]) (S1 := [.int a]) 1 0 (fun n => rfl) ?_
                    refine RP_call 57 [.int a] (fun n => rfl) ?_
                    show RP 57 _ 0 [(0, .int a)] [] _
                    refine RP_step (pc1 := 4) (L1 := [(0, .int a)]) (S1 := [.int 15, .int 0, .int a]) 3 0 (fun n => rfl) ?_
                    refine RP_call 55 [.int a, .int 0, .int 15] (fun n => rfl) ?_
                    show RP 55 _ 0 [(0, .int a), (1, .int 0), (2, .int 15)] [] _
                    refine RP_step (pc1 := 2) (L1 := [(0, .int a), (1, .int 0), (2, .int 15)]) (S1 := [.int 0, .int a]) 2 0 (fun n => rfl) ?_
                    refine RP_cond (decide (a < 0)) (fun n => rfl) (fun h => absurd (of_decide_eq_true h) (xi_nlt (x := a) (y := 0) (show 0 ≤ a.toInt by omega))) (fun _ => ?_)
                    show RP 55 _ 5 [(0, .int a), (1, .int 0), (2, .int 15)] [] _
                    refine RP_step (pc1 := 7) (L1 := [(0, .int a), (1, .int 0), (2, .int 15)]) (S1 := [.int 15, .int a]) 2 0 (fun n => rfl) ?_
                    refine RP_cond (decide (15 < a)) (fun n => rfl) (fun h => absurd (of_decide_eq_true h) (xi_nlt (x := 15) (y := a) (show a.toInt ≤ 15 by omega))) (fun _ => ?_)
                    show RP 55 _ 10 [(0, .int a), (1, .int 0), (2, .int 15)] [] _
                    refine RP_done 5 (fun n => rfl) ?_
                    refine Or.inr ⟨1, rfl, ?_⟩
                    show RP 57 _ 7 [(0, .int a)] [.int 1] _
                    refine RP_done 3 (fun n => rfl) ?_
                    refine Or.inr ⟨1, rfl, ?_⟩
                    show RP 58 _ 4 [(0, .int a), (1, .int c)] [.int 1] _
                    refine RP_step (pc1 := 11) (L1 := [(0, .int a), (1, .int c)]) (S1 := [.int 8, .int 1, .int c]) 4 0 (fun n => rfl) ?_
                    refine RP_call 55 [.int c, .int 1, .int 8] (fun n => rfl) ?_
                    show RP 55 _ 0 [(0, .int c), (1, .int 1), (2, .int 8)] [] _
                    refine RP_step (pc1 := 2) (L1 := [(0, .int c), (1, .int 1), (2, .int 8)]) (S1 := [.int 1, .int c]) 2 0 (fun n => rfl) ?_
                    refine RP_cond (decide (c < 1)) (fun n => rfl) (fun h => absurd (of_decide_eq_true h) (xi_nlt (x := c) (y := 1) (show 1 ≤ c.toInt by omega))) (fun _ => ?_)
                    show RP 55 _ 5 [(0, .int c), (1, .int 1), (2, .int 8)] [] _
                    refine RP_step (pc1 := 7) (L1 := [(0, .int c), (1, .int 1), (2, .int 8)]) (S1 := [.int 8, .int c]) 2 0 (fun n => rfl) ?_
                    refine RP_cond (decide (8 < c)) (fun n => rfl) (fun h => absurd (of_decide_eq_true h) (xi_nlt (x := 8) (y := c) (show c.toInt ≤ 8 by omega))) (fun _ => ?_)
                    show RP 55 _ 10 [(0, .int c), (1, .int 1), (2, .int 8)] [] _
                    refine RP_done 5 (fun n => rfl) ?_
                    refine Or.inr ⟨1, rfl, ?_⟩
                    show RP 58 _ 14 [(0, .int a), (1, .int c)] [.int 1] _
                    refine RP_step (pc1 := 19) (L1 := [(0, .int a), (1, .int c)]) (S1 := [.int c, .int a]) 3 0 (fun n => rfl) ?_
                    refine RP_bin (fun x y => x + y) (fun n => rfl) ?_
                    show RP 58 _ 20 [(0, .int a), (1, .int c)] [.int (a + c)] _
                    refine RP_step (pc1 := 22) (L1 := [(0, .int a), (1, .int c)]) (S1 := [.int 16, .int (a + c)]) 1 0 (fun n => rfl) ?_
                    refine RP_cond (decide (16 < (a + c))) (fun n => rfl) (fun h => absurd (of_decide_eq_true h) (xi_nlt (x := 16) (y := (a + c)) (show (a + c).toInt ≤ 16 by omega))) (fun _ => ?_)
                    show RP 58 _ 25 [(0, .int a), (1, .int c)] [] _
                    refine RP_done 5 (fun n => rfl) ?_
                    refine Or.inr ⟨1, rfl, ?_⟩
                    show RP 59 _ 102 [(0, .int 1), (1, .int a), (2, .int b), (3, .int c), (4, .int d)] [.int 1] _
                    refine RP_step (pc1 := 107) (L1 := [(0, .int 1), (1, .int a), (2, .int b), (3, .int c), (4, .int d)]) (S1 := [.int c, .int b]) 3 0 (fun n => rfl) ?_
                    refine RP_call 58 [.int b, .int c] (fun n => rfl) ?_
                    show RP 58 _ 0 [(0, .int b), (1, .int c)] [] _
                    refine RP_step (pc1 := 1) (L1 := [(0, .int b), (1, .int c)]) (S1 := [.int b]) 1 0 (fun n => rfl) ?_
                    refine RP_call 57 [.int b] (fun n => rfl) ?_
                    show RP 57 _ 0 [(0, .int b)] [] _
                    refine RP_step (pc1 := 4) (L1 := [(0, .int b)]) (S1 := [.int 15, .int 0, .int b]) 3 0 (fun n => rfl) ?_
                    refine RP_call 55 [.int b, .int 0, .int 15] (fun n => rfl) ?_
                    show RP 55 _ 0 [(0, .int b), (1, .int 0), (2, .int 15)] [] _
                    refine RP_step (pc1 := 2) (L1 := [(0, .int b), (1, .int 0), (2, .int 15)]) (S1 := [.int 0, .int b]) 2 0 (fun n => rfl) ?_
                    refine RP_cond (decide (b < 0)) (fun n => rfl) (fun h => absurd (of_decide_eq_true h) (xi_nlt (x := b) (y := 0) (show 0 ≤ b.toInt by omega))) (fun _ => ?_)
                    show RP 55 _ 5 [(0, .int b), (1, .int 0), (2, .int 15)] [] _
                    refine RP_step (pc1 := 7) (L1 := [(0, .int b), (1, .int 0), (2, .int 15)]) (S1 := [.int 15, .int b]) 2 0 (fun n => rfl) ?_
                    refine RP_cond (decide (15 < b)) (fun n => rfl) (fun h => absurd (of_decide_eq_true h) (xi_nlt (x := 15) (y := b) (show b.toInt ≤ 15 by omega))) (fun _ => ?_)
                    show RP 55 _ 10 [(0, .int b), (1, .int 0), (2, .int 15)] [] _
                    refine RP_done 5 (fun n => rfl) ?_
                    refine Or.inr ⟨1, rfl, ?_⟩
                    show RP 57 _ 7 [(0, .int b)] [.int 1] _
                    refine RP_done 3 (fun n => rfl) ?_
                    refine Or.inr ⟨1, rfl, ?_⟩
                    show RP 58 _ 4 [(0, .int b), (1, .int c)] [.int 1] _
                    refine RP_step (pc1 := 11) (L1 := [(0, .int b), (1, .int c)]) (S1 := [.int 8, .int 1, .int c]) 4 0 (fun n => rfl) ?_
                    refine RP_call 55 [.int c, .int 1, .int 8] (fun n => rfl) ?_
                    show RP 55 _ 0 [(0, .int c), (1, .int 1), (2, .int 8)] [] _
                    refine RP_step (pc1 := 2) (L1 := [(0, .int c), (1, .int 1), (2, .int 8)]) (S1 := [.int 1, .int c]) 2 0 (fun n => rfl) ?_
                    refine RP_cond (decide (c < 1)) (fun n => rfl) (fun h => absurd (of_decide_eq_true h) (xi_nlt (x := c) (y := 1) (show 1 ≤ c.toInt by omega))) (fun _ => ?_)
                    show RP 55 _ 5 [(0, .int c), (1, .int 1), (2, .int 8)] [] _
                    refine RP_step (pc1 := 7) (L1 := [(0, .int c), (1, .int 1), (2, .int 8)]) (S1 := [.int 8, .int c]) 2 0 (fun n => rfl) ?_
                    refine RP_cond (decide (8 < c)) (fun n => rfl) (fun h => absurd (of_decide_eq_true h) (xi_nlt (x := 8) (y := c) (show c.toInt ≤ 8 by omega))) (fun _ => ?_)
                    show RP 55 _ 10 [(0, .int c), (1, .int 1), (2, .int 8)] [] _
                    refine RP_done 5 (fun n => rfl) ?_
                    refine Or.inr ⟨1, rfl, ?_⟩
                    show RP 58 _ 14 [(0, .int b), (1, .int c)] [.int 1] _
                    refine RP_step (pc1 := 19) (L1 := [(0, .int b), (1, .int c)]) (S1 := [.int c, .int b]) 3 0 (fun n => rfl) ?_
                    refine RP_bin (fun x y => x + y) (fun n => rfl) ?_
                    show RP 58 _ 20 [(0, .int b), (1, .int c)] [.int (b + c)] _
                    refine RP_step (pc1 := 22) (L1 := [(0, .int b), (1, .int c)]) (S1 := [.int 16, .int (b + c)]) 1 0 (fun n => rfl) ?_
                    refine RP_cond (decide (16 < (b + c))) (fun n => rfl) (fun _ => ?_) (fun h => absurd (xi_lt (x := 16) (y := (b + c)) (show 16 < (b + c).toInt by omega)) (of_decide_eq_false h))
                    show RP 58 _ 29 [(0, .int b), (1, .int c)] [] _
                    refine RP_done 4 (fun n => rfl) ?_
                    refine Or.inr ⟨0, rfl, ?_⟩
                    show RP 59 _ 110 [(0, .int 1), (1, .int a), (2, .int b), (3, .int c), (4, .int d)] [.int 0] _
                    refine RP_done 5 (fun n => rfl) ?_
                    exact ⟨rfl, rfl⟩
                  · have h51 := of_decide_eq_false hh
                    have h52 : (b + c).toInt ≤ 16 := xj_nlt h51
                    show RP 24 _ 26 [(0, .int b), (1, .int c)] [] _
                    refine RP_done 5 (fun n => rfl) ?_
                    refine Or.inr ⟨1, rfl, ?_⟩
                    show RP 25 _ 110 [(0, .int 1), (1, .int a), (2, .int b), (3, .int c), (4, .int d)] [.int 1] _
                    refine RP_step (pc1 := 115) (L1 := [(0, .int 1), (1, .int a), (2, .int b), (3, .int c), (4, .int d)]) (S1 := [.int d]) 2 0 (fun n => rfl) ?_
                    refine RP_cond (decide (d ≠ 0)) (fun n => rfl) (fun hh => ?_) (fun hh => ?_)
                    · have h53 := of_decide_eq_true hh
                      show RP 25 _ 122 [(0, .int 1), (1, .int a), (2, .int b), (3, .int c), (4, .int d)] [] _
                      refine RP_done 4 (fun n => rfl) ?_
                      refine ⟨Or.inl rfl, rfl, ?_⟩
                      show RP 59 _ 0 [(0, .int 1), (1, .int a), (2, .int b), (3, .int c), (4, .int d)] [] _
                      refine RP_step (pc1 := 99) (L1 := [(0, .int 1), (1, .int a), (2, .int b), (3, .int c), (4, .int d)]) (S1 := [.int c, .int a]) 4 0 (fun n => rfl) ?_
                      refine RP_call 58 [.int a, .int c] (fun n => rfl) ?_
                      show RP 58 _ 0 [(0, .int a), (1, .int c)] [] _
                      refine RP_step (pc1 := 1) (L1 := [(0, .int a), (1, .int c)]) (S1 := [.int a]) 1 0 (fun n => rfl) ?_
                      refine RP_call 57 [.int a] (fun n => rfl) ?_
                      show RP 57 _ 0 [(0, .int a)] [] _
                      refine RP_step (pc1 := 4) (L1 := [(0, .int a)]) (S1 := [.int 15, .int 0, .int a]) 3 0 (fun n => rfl) ?_
                      refine RP_call 55 [.int a, .int 0, .int 15] (fun n => rfl) ?_
                      show RP 55 _ 0 [(0, .int a), (1, .int 0), (2, .int 15)] [] _
                      refine RP_step (pc1 := 2) (L1 := [(0, .int a), (1, .int 0), (2, .int 15)]) (S1 := [.int 0, .int a]) 2 0 (fun n => rfl) ?_
                      refine RP_cond (decide (a < 0)) (fun n => rfl) (fun h => absurd (of_decide_eq_true h) (xi_nlt (x := a) (y := 0) (show 0 ≤ a.toInt by omega))) (fun _ => ?_)
                      show RP 55 _ 5 [(0, .int a), (1, .int 0), (2, .int 15)] [] _
                      refine RP_step (pc1 := 7) (L1 := [(0, .int a), (1, .int 0), (2, .int 15)]) (S1 := [.int 15, .int a]) 2 0 (fun n => rfl) ?_
                      refine RP_cond (decide (15 < a)) (fun n => rfl) (fun h => absurd (of_decide_eq_true h) (xi_nlt (x := 15) (y := a) (show a.toInt ≤ 15 by omega))) (fun _ => ?_)
                      show RP 55 _ 10 [(0, .int a), (1, .int 0), (2, .int 15)] [] _
                      refine RP_done 5 (fun n => rfl) ?_
                      refine Or.inr ⟨1, rfl, ?_⟩
                      show RP 57 _ 7 [(0, .int a)] [.int 1] _
                      refine RP_done 3 (fun n => rfl) ?_
                      refine Or.inr ⟨1, rfl, ?_⟩
                      show RP 58 _ 4 [(0, .int a), (1, .int c)] [.int 1] _
                      refine RP_step (pc1 := 11) (L1 := [(0, .int a), (1, .int c)]) (S1 := [.int 8, .int 1, .int c]) 4 0 (fun n => rfl) ?_
                      refine RP_call 55 [.int c, .int 1, .int 8] (fun n => rfl) ?_
                      show RP 55 _ 0 [(0, .int c), (1, .int 1), (2, .int 8)] [] _
                      refine RP_step (pc1 := 2) (L1 := [(0, .int c), (1, .int 1), (2, .int 8)]) (S1 := [.int 1, .int c]) 2 0 (fun n => rfl) ?_
                      refine RP_cond (decide (c < 1)) (fun n => rfl) (fun h => absurd (of_decide_eq_true h) (xi_nlt (x := c) (y := 1) (show 1 ≤ c.toInt by omega))) (fun _ => ?_)
                      show RP 55 _ 5 [(0, .int c), (1, .int 1), (2, .int 8)] [] _
                      refine RP_step (pc1 := 7) (L1 := [(0, .int c), (1, .int 1), (2, .int 8)]) (S1 := [.int 8, .int c]) 2 0 (fun n => rfl) ?_
                      refine RP_cond (decide (8 < c)) (fun n => rfl) (fun h => absurd (of_decide_eq_true h) (xi_nlt (x := 8) (y := c) (show c.toInt ≤ 8 by omega))) (fun _ => ?_)
                      show RP 55 _ 10 [(0, .int c), (1, .int 1), (2, .int 8)] [] _
                      refine RP_done 5 (fun n => rfl) ?_
                      refine Or.inr ⟨1, rfl, ?_⟩
                      show RP 58 _ 14 [(0, .int a), (1, .int c)] [.int 1] _
                      refine RP_step (pc1 := 19) (L1 := [(0, .int a), (1, .int c)]) (S1 := [.int c, .int a]) 3 0 (fun n => rfl) ?_
                      refine RP_bin (fun x y => x + y) (fun n => rfl) ?_
                      show RP 58 _ 20 [(0, .int a), (1, .int c)] [.int (a + c)] _
                      refine RP_step (pc1 := 22) (L1 := [(0, .int a), (1, .int c)]) (S1 := [.int 16, .int (a + c)]) 1 0 (fun n => rfl) ?_
                      refine RP_cond (decide (16 < (a + c))) (fun n => rfl) (fun h => absurd (of_decide_eq_true h) (xi_nlt (x := 16) (y := (a + c)) (show (a + c).toInt ≤ 16 by omega))) (fun _ => ?_)
                      show RP 58 _ 25 [(0, .int a), (1, .int c)] [] _
                      refine RP_done 5 (fun n => rfl) ?_
                      refine Or.inr ⟨1, rfl, ?_⟩
                      show RP 59 _ 102 [(0, .int 1), (1, .int a), (2, .int b), (3, .int c), (4, .int d)] [.int 1] _
                      refine RP_step (pc1 := 107) (L1 := [(0, .int 1), (1, .int a), (2, .int b), (3, .int c), (4, .int d)]) (S1 := [.int c, .int b]) 3 0 (fun n => rfl) ?_
                      refine RP_call 58 [.int b, .int c] (fun n => rfl) ?_
                      show RP 58 _ 0 [(0, .int b), (1, .int c)] [] _
                      refine RP_step (pc1 := 1) (L1 := [(0, .int b), (1, .int c)]) (S1 := [.int b]) 1 0 (fun n => rfl) ?_
                      refine RP_call 57 [.int b] (fun n => rfl) ?_
                      show RP 57 _ 0 [(0, .int b)] [] _
                      refine RP_step (pc1 := 4) (L1 := [(0, .int b)]) (S1 := [.int 15, .int 0, .int b]) 3 0 (fun n => rfl) ?_
                      refine RP_call 55 [.int b, .int 0, .int 15] (fun n => rfl) ?_
                      show RP 55 _ 0 [(0, .int b), (1, .int 0), (2, .int 15)] [] _
                      refine RP_step (pc1 := 2) (L1 := [(0, .int b), (1, .int 0), (2, .int 15)]) (S1 := [.int 0, .int b]) 2 0 (fun n => rfl) ?_
                      refine RP_cond (decide (b < 0)) (fun n => rfl) (fun h => absurd (of_decide_eq_true h) (xi_nlt (x := b) (y := 0) (show 0 ≤ b.toInt by omega))) (fun _ => ?_)
                      show RP 55 _ 5 [(0, .int b), (1, .int 0), (2, .int 15)] [] _
                      refine RP_step (pc1 := 7) (L1 := [(0, .int b), (1, .int 0), (2, .int 15)]) (S1 := [.int 15, .int b]) 2 0 (fun n => rfl) ?_
                      refine RP_cond (decide (15 < b)) (fun n => rfl) (fun h => absurd (of_decide_eq_true h) (xi_nlt (x := 15) (y := b) (show b.toInt ≤ 15 by omega))) (fun _ => ?_)
                      show RP 55 _ 10 [(0, .int b), (1, .int 0), (2, .int 15)] [] _
                      refine RP_done 5 (fun n => rfl) ?_
                      refine Or.inr ⟨1, rfl, ?_⟩
                      show RP 57 _ 7 [(0, .int b)] [.int 1] _
                      refine RP_done 3 (fun n => rfl) ?_
                      refine Or.inr ⟨1, rfl, ?_⟩
                      show RP 58 _ 4 [(0, .int b), (1, .int c)] [.int 1] _
                      refine RP_step (pc1 := 11) (L1 := [(0, .int b), (1, .int c)]) (S1 := [.int 8, .int 1, .int c]) 4 0 (fun n => rfl) ?_
                      refine RP_call 55 [.int c, .int 1, .int 8] (fun n => rfl) ?_
                      show RP 55 _ 0 [(0, .int c), (1, .int 1), (2, .int 8)] [] _
                      refine RP_step (pc1 := 2) (L1 := [(0, .int c), (1, .int 1), (2, .int 8)]) (S1 := [.int 1, .int c]) 2 0 (fun n => rfl) ?_
                      refine RP_cond (decide (c < 1)) (fun n => rfl) (fun h => absurd (of_decide_eq_true h) (xi_nlt (x := c) (y := 1) (show 1 ≤ c.toInt by omega))) (fun _ => ?_)
                      show RP 55 _ 5 [(0, .int c), (1, .int 1), (2, .int 8)] [] _
                      refine RP_step (pc1 := 7) (L1 := [(0, .int c), (1, .int 1), (2, .int 8)]) (S1 := [.int 8, .int c]) 2 0 (fun n => rfl) ?_
                      refine RP_cond (decide (8 < c)) (fun n => rfl) (fun h => absurd (of_decide_eq_true h) (xi_nlt (x := 8) (y := c) (show c.toInt ≤ 8 by omega))) (fun _ => ?_)
                      show RP 55 _ 10 [(0, .int c), (1, .int 1), (2, .int 8)] [] _
                      refine RP_done 5 (fun n => rfl) ?_
                      refine Or.inr ⟨1, rfl, ?_⟩
                      show RP 58 _ 14 [(0, .int b), (1, .int c)] [.int 1] _
                      refine RP_step (pc1 := 19) (L1 := [(0, .int b), (1, .int c)]) (S1 := [.int c, .int b]) 3 0 (fun n => rfl) ?_
                      refine RP_bin (fun x y => x + y) (fun n => rfl) ?_
                      show RP 58 _ 20 [(0, .int b), (1, .int c)] [.int (b + c)] _
                      refine RP_step (pc1 := 22) (L1 := [(0, .int b), (1, .int c)]) (S1 := [.int 16, .int (b + c)]) 1 0 (fun n => rfl) ?_
                      refine RP_cond (decide (16 < (b + c))) (fun n => rfl) (fun h => absurd (of_decide_eq_true h) (xi_nlt (x := 16) (y := (b + c)) (show (b + c).toInt ≤ 16 by omega))) (fun _ => ?_)
                      show RP 58 _ 25 [(0, .int b), (1, .int c)] [] _
                      refine RP_done 5 (fun n => rfl) ?_
                      refine Or.inr ⟨1, rfl, ?_⟩
                      show RP 59 _ 110 [(0, .int 1), (1, .int a), (2, .int b), (3, .int c), (4, .int d)] [.int 1] _
                      refine RP_step (pc1 := 115) (L1 := [(0, .int 1), (1, .int a), (2, .int b), (3, .int c), (4, .int d)]) (S1 := [.int d]) 2 0 (fun n => rfl) ?_
                      refine RP_cond (decide (d ≠ 0)) (fun n => rfl) (fun _ => ?_) (fun h => absurd (by assumption) (of_decide_eq_false h))
                      show RP 59 _ 122 [(0, .int 1), (1, .int a), (2, .int b), (3, .int c), (4, .int d)] [] _
                      refine RP_done 4 (fun n => rfl) ?_
                      exact ⟨rfl, rfl⟩
                    · have h54 := of_decide_eq_false hh
                      replace h54 := Decidable.of_not_not h54
                      clear hh
                      subst h54
                      show RP 25 _ 118 [(0, .int 1), (1, .int a), (2, .int b), (3, .int c), (4, .int 0)] [] _
                      refine RP_done 5 (fun n => rfl) ?_
                      refine ⟨Or.inr rfl, rfl, ?_⟩
                      show RP 59 _ 0 [(0, .int 1), (1, .int a), (2, .int b), (3, .int c), (4, .int 0)] [] _
                      refine RP_step (pc1 := 99) (L1 := [(0, .int 1), (1, .int a), (2, .int b), (3, .int c), (4, .int 0)]) (S1 := [.int c, .int a]) 4 0 (fun n => rfl) ?_
                      refine RP_call 58 [.int a, .int c] (fun n => rfl) ?_
                      show RP 58 _ 0 [(0, .int a), (1, .int c)] [] _
                      refine RP_step (pc1 := 1) (L1 := [(0, .int a), (1, .int c)]) (S1 := [.int a]) 1 0 (fun n => rfl) ?_
                      refine RP_call 57 [.int a] (fun n => rfl) ?_
                      show RP 57 _ 0 [(0, .int a)] [] _
                      refine RP_step (pc1 := 4) (L1 := [(0, .int a)]) (S1 := [.int 15, .int 0, .int a]) 3 0 (fun n => rfl) ?_
                      refine RP_call 55 [.int a, .int 0, .int 15] (fun n => rfl) ?_
                      show RP 55 _ 0 [(0, .int a), (1, .int 0), (2, .int 15)] [] _
                      refine RP_step (pc1 := 2) (L1 := [(0, .int a), (1, .int 0), (2, .int 15)]) (S1 := [.int 0, .int a]) 2 0 (fun n => rfl) ?_
                      refine RP_cond (decide (a < 0)) (fun n => rfl) (fun h => absurd (of_decide_eq_true h) (xi_nlt (x := a) (y := 0) (show 0 ≤ a.toInt by omega))) (fun _ => ?_)
                      show RP 55 _ 5 [(0, .int a), (1, .int 0), (2, .int 15)] [] _
                      refine RP_step (pc1 := 7) (L1 := [(0, .int a), (1, .int 0), (2, .int 15)]) (S1 := [.int 15, .int a]) 2 0 (fun n => rfl) ?_
                      refine RP_cond (decide (15 < a)) (fun n => rfl) (fun h => absurd (of_decide_eq_true h) (xi_nlt (x := 15) (y := a) (show a.toInt ≤ 15 by omega))) (fun _ => ?_)
                      show RP 55 _ 10 [(0, .int a), (1, .int 0), (2, .int 15)] [] _
                      refine RP_done 5 (fun n => rfl) ?_
                      refine Or.inr ⟨1, rfl, ?_⟩
                      show RP 57 _ 7 [(0, .int a)] [.int 1] _
                      refine RP_done 3 (fun n => rfl) ?_
                      refine Or.inr ⟨1, rfl, ?_⟩
                      show RP 58 _ 4 [(0, .int a), (1, .int c)] [.int 1] _
                      refine RP_step (pc1 := 11) (L1 := [(0, .int a), (1, .int c)]) (S1 := [.int 8, .int 1, .int c]) 4 0 (fun n => rfl) ?_
                      refine RP_call 55 [.int c, .int 1, .int 8] (fun n => rfl) ?_
                      show RP 55 _ 0 [(0, .int c), (1, .int 1), (2, .int 8)] [] _
                      refine RP_step (pc1 := 2) (L1 := [(0, .int c), (1, .int 1), (2, .int 8)]) (S1 := [.int 1, .int c]) 2 0 (fun n => rfl) ?_
                      refine RP_cond (decide (c < 1)) (fun n => rfl) (fun h => absurd (of_decide_eq_true h) (xi_nlt (x := c) (y := 1) (show 1 ≤ c.toInt by omega))) (fun _ => ?_)
                      show RP 55 _ 5 [(0, .int c), (1, .int 1), (2, .int 8)] [] _
                      refine RP_step (pc1 := 7) (L1 := [(0, .int c), (1, .int 1), (2, .int 8)]) (S1 := [.int 8, .int c]) 2 0 (fun n => rfl) ?_
                      refine RP_cond (decide (8 < c)) (fun n => rfl) (fun h => absurd (of_decide_eq_true h) (xi_nlt (x := 8) (y := c) (show c.toInt ≤ 8 by omega))) (fun _ => ?_)
                      show RP 55 _ 10 [(0, .int c), (1, .int 1), (2, .int 8)] [] _
                      refine RP_done 5 (fun n => rfl) ?_
                      refine Or.inr ⟨1, rfl, ?_⟩
                      show RP 58 _ 14 [(0, .int a), (1, .int c)] [.int 1] _
                      refine RP_step (pc1 := 19) (L1 := [(0, .int a), (1, .int c)]) (S1 := [.int c, .int a]) 3 0 (fun n => rfl) ?_
                      refine RP_bin (fun x y => x + y) (fun n => rfl) ?_
                      show RP 58 _ 20 [(0, .int a), (1, .int c)] [.int (a + c)] _
                      refine RP_step (pc1 := 22) (L1 := [(0, .int a), (1, .int c)]) (S1 := [.int 16, .int (a + c)]) 1 0 (fun n => rfl) ?_
                      refine RP_cond (decide (16 < (a + c))) (fun n => rfl) (fun h => absurd (of_decide_eq_true h) (xi_nlt (x := 16) (y := (a + c)) (show (a + c).toInt ≤ 16 by omega))) (fun _ => ?_)
                      show RP 58 _ 25 [(0, .int a), (1, .int c)] [] _
                      refine RP_done 5 (fun n => rfl) ?_
                      refine Or.inr ⟨1, rfl, ?_⟩
                      show RP 59 _ 102 [(0, .int 1), (1, .int a), (2, .int b), (3, .int c), (4, .int 0)] [.int 1] _
                      refine RP_step (pc1 := 107) (L1 := [(0, .int 1), (1, .int a), (2, .int b), (3, .int c), (4, .int 0)]) (S1 := [.int c, .int b]) 3 0 (fun n => rfl) ?_
                      refine RP_call 58 [.int b, .int c] (fun n => rfl) ?_
                      show RP 58 _ 0 [(0, .int b), (1, .int c)] [] _
                      refine RP_step (pc1 := 1) (L1 := [(0, .int b), (1, .int c)]) (S1 := [.int b]) 1 0 (fun n => rfl) ?_
                      refine RP_call 57 [.int b] (fun n => rfl) ?_
                      show RP 57 _ 0 [(0, .int b)] [] _
                      refine RP_step (pc1 := 4) (L1 := [(0, .int b)]) (S1 := [.int 15, .int 0, .int b]) 3 0 (fun n => rfl) ?_
                      refine RP_call 55 [.int b, .int 0, .int 15] (fun n => rfl) ?_
                      show RP 55 _ 0 [(0, .int b), (1, .int 0), (2, .int 15)] [] _
                      refine RP_step (pc1 := 2) (L1 := [(0, .int b), (1, .int 0), (2, .int 15)]) (S1 := [.int 0, .int b]) 2 0 (fun n => rfl) ?_
                      refine RP_cond (decide (b < 0)) (fun n => rfl) (fun h => absurd (of_decide_eq_true h) (xi_nlt (x := b) (y := 0) (show 0 ≤ b.toInt by omega))) (fun _ => ?_)
                      show RP 55 _ 5 [(0, .int b), (1, .int 0), (2, .int 15)] [] _
                      refine RP_step (pc1 := 7) (L1 := [(0, .int b), (1, .int 0), (2, .int 15)]) (S1 := [.int 15, .int b]) 2 0 (fun n => rfl) ?_
                      refine RP_cond (decide (15 < b)) (fun n => rfl) (fun h => absurd (of_decide_eq_true h) (xi_nlt (x := 15) (y := b) (show b.toInt ≤ 15 by omega))) (fun _ => ?_)
                      show RP 55 _ 10 [(0, .int b), (1, .int 0), (2, .int 15)] [] _
                      refine RP_done 5 (fun n => rfl) ?_
                      refine Or.inr ⟨1, rfl, ?_⟩
                      show RP 57 _ 7 [(0, .int b)] [.int 1] _
                      refine RP_done 3 (fun n => rfl) ?_
                      refine Or.inr ⟨1, rfl, ?_⟩
                      show RP 58 _ 4 [(0, .int b), (1, .int c)] [.int 1] _
                      refine RP_step (pc1 := 11) (L1 := [(0, .int b), (1, .int c)]) (S1 := [.int 8, .int 1, .int c]) 4 0 (fun n => rfl) ?_
                      refine RP_call 55 [.int c, .int 1, .int 8] (fun n => rfl) ?_
                      show RP 55 _ 0 [(0, .int c), (1, .int 1), (2, .int 8)] [] _
                      refine RP_step (pc1 := 2) (L1 := [(0, .int c), (1, .int 1), (2, .int 8)]) (S1 := [.int 1, .int c]) 2 0 (fun n => rfl) ?_
                      refine RP_cond (decide (c < 1)) (fun n => rfl) (fun h => absurd (of_decide_eq_true h) (xi_nlt (x := c) (y := 1) (show 1 ≤ c.toInt by omega))) (fun _ => ?_)
                      show RP 55 _ 5 [(0, .int c), (1, .int 1), (2, .int 8)] [] _
                      refine RP_step (pc1 := 7) (L1 := [(0, .int c), (1, .int 1), (2, .int 8)]) (S1 := [.int 8, .int c]) 2 0 (fun n => rfl) ?_
                      refine RP_cond (decide (8 < c)) (fun n => rfl) (fun h => absurd (of_decide_eq_true h) (xi_nlt (x := 8) (y := c) (show c.toInt ≤ 8 by omega))) (fun _ => ?_)
                      show RP 55 _ 10 [(0, .int c), (1, .int 1), (2, .int 8)] [] _
                      refine RP_done 5 (fun n => rfl) ?_
                      refine Or.inr ⟨1, rfl, ?_⟩
                      show RP 58 _ 14 [(0, .int b), (1, .int c)] [.int 1] _
                      refine RP_step (pc1 := 19) (L1 := [(0, .int b), (1, .int c)]) (S1 := [.int c, .int b]) 3 0 (fun n => rfl) ?_
                      refine RP_bin (fun x y => x + y) (fun n => rfl) ?_
                      show RP 58 _ 20 [(0, .int b), (1, .int c)] [.int (b + c)] _
                      refine RP_step (pc1 := 22) (L1 := [(0, .int b), (1, .int c)]) (S1 := [.int 16, .int (b + c)]) 1 0 (fun n => rfl) ?_
                      refine RP_cond (decide (16 < (b + c))) (fun n => rfl) (fun h => absurd (of_decide_eq_true h) (xi_nlt (x := 16) (y := (b + c)) (show (b + c).toInt ≤ 16 by omega))) (fun _ => ?_)
                      show RP 58 _ 25 [(0, .int b), (1, .int c)] [] _
                      refine RP_done 5 (fun n => rfl) ?_
                      refine Or.inr ⟨1, rfl, ?_⟩
                      show RP 59 _ 110 [(0, .int 1), (1, .int a), (2, .int b), (3, .int c), (4, .int 0)] [.int 1] _
                      refine RP_done 8 (fun n => rfl) ?_
                      exact ⟨rfl, rfl⟩
  · skip
    show RP 25 _ 0 [(0, .int 2), (1, .int a), (2, .int b), (3, .int c), (4, .int d)] [] _
    refine RP_step (pc1 := 125) (L1 := [(0, .int 2), (1, .int a), (2, .int b), (3, .int c), (4, .int d)]) (S1 := [.int a]) 3 0 (fun n => rfl) ?_
    refine RP_call 23 [.int a] (fun n => rfl) ?_
    show RP 23 _ 0 [(0, .int a)] [] _
    refine RP_step (pc1 := 1) (L1 := [(0, .int a)]) (S1 := [.int a]) 1 0 (fun n => rfl) ?_
    refine RP_cond (decide (a < 0)) (fun n => rfl) (fun hh => ?_) (fun hh => ?_)
    · have h55 := of_decide_eq_true hh
      have h56 : a.toInt < 0 := xj_lt h55
      show RP 23 _ 14 [(0, .int a)] [] _
      refine RP_done 4 (fun n => rfl) ?_
      refine Or.inr ⟨0, rfl, ?_⟩
      show RP 25 _ 128 [(0, .int 2), (1, .int a), (2, .int b), (3, .int c), (4, .int d)] [.int 0] _
      refine RP_done 5 (fun n => rfl) ?_
      refine ⟨Or.inl rfl, rfl, ?_⟩
      show RP 59 _ 0 [(0, .int 2), (1, .int a), (2, .int b), (3, .int c), (4, .int d)] [] _
      refine RP_step (pc1 := 125) (L1 := [(0, .int 2), (1, .int a), (2, .int b), (3, .int c), (4, .int d)]) (S1 := [.int a]) 3 0 (fun n => rfl) ?_
      refine RP_call 57 [.int a] (fun n => rfl) ?_
      show RP 57 _ 0 [(0, .int a)] [] _
      refine RP_step (pc1 := 4) (L1 := [(0, .int a)]) (S1 := [.int 15, .int 0, .int a]) 3 0 (fun n => rfl) ?_
      refine RP_call 55 [.int a, .int 0, .int 15] (fun n => rfl) ?_
      show RP 55 _ 0 [(0, .int a), (1, .int 0), (2, .int 15)] [] _
      refine RP_step (pc1 := 2) (L1 := [(0, .int a), (1, .int 0), (2, .int 15)]) (S1 := [.int 0, .int a]) 2 0 (fun n => rfl) ?_
      refine RP_cond (decide (a < 0)) (fun n => rfl) (fun _ => ?_) (fun h => absurd (xi_lt (x := a) (y := 0) (show a.toInt < 0 by omega)) (of_decide_eq_false h))
      show RP 55 _ 14 [(0, .int a), (1, .int 0), (2, .int 15)] [] _
      refine RP_done 4 (fun n => rfl) ?_
      refine Or.inr ⟨0, rfl, ?_⟩
      show RP 57 _ 7 [(0, .int a)] [.int 0] _
      refine RP_done 3 (fun n => rfl) ?_
      refine Or.inr ⟨0, rfl, ?_⟩
      show RP 59 _ 128 [(0, .int 2), (1, .int a), (2, .int b), (3, .int c), (4, .int d)] [.int 0] _
      refine RP_done 5 (fun n => rfl) ?_
      exact ⟨rfl, rfl⟩
    · have h57 := of_decide_eq_false hh
      have h58 : 0 ≤ a.toInt := xj_nlt h57
      show RP 23 _ 4 [(0, .int a)] [] _
      refine RP_step (pc1 := 7) (L1 := [(0, .int a)]) (S1 := [.int 16, .int a]) 2 0 (fun n => rfl) ?_
      refine RP_cond (decide (16 ≤ a)) (fun n => rfl) (fun hh => ?_) (fun hh => ?_)
      · have h59 := of_decide_eq_true hh
        have h60 : 16 ≤ a.toInt := xj_le h59
        show RP 23 _ 14 [(0, .int a)] [] _
        refine RP_done 4 (fun n => rfl) ?_
        refine Or.inr ⟨0, rfl, ?_⟩
        show RP 25 _ 128 [(0, .int 2), (1, .int a), (2, .int b), (3, .int c), (4, .int d)] [.int 0] _
        refine RP_done 5 (fun n => rfl) ?_
        refine ⟨Or.inl rfl, rfl, ?_⟩
        show RP 59 _ 0 [(0, .int 2), (1, .int a), (2, .int b), (3, .int c), (4, .int d)] [] _
        refine RP_step (pc1 := 125) (L1 := [(0, .int 2), (1, .int a), (2, .int b), (3, .int c), (4, .int d)]) (S1 := [.int a]) 3 0 (fun n => rfl) ?_
        refine RP_call 57 [.int a] (fun n => rfl) ?_
        show RP 57 _ 0 [(0, .int a)] [] _
        refine RP_step (pc1 := 4) (L1 := [(0, .int a)]) (S1 := [.int 15, .int 0, .int a]) 3 0 (fun n => rfl) ?_
        refine RP_call 55 [.int a, .int 0, .int 15] (fun n => rfl) ?_
        show RP 55 _ 0 [(0, .int a), (1, .int 0), (2, .int 15)] [] _
        refine RP_step (pc1 := 2) (L1 := [(0, .int a), (1, .int 0), (2, .int 15)]) (S1 := [.int 0, .int a]) 2 0 (fun n => rfl) ?_
        refine RP_cond (decide (a < 0)) (fun n => rfl) (fun h => absurd (of_decide_eq_true h) (xi_nlt (x := a) (y := 0) (show 0 ≤ a.toInt by omega))) (fun _ => ?_)
        show RP 55 _ 5 [(0, .int a), (1, .int 0), (2, .int 15)] [] _
        refine RP_step (pc1 := 7) (L1 := [(0, .int a), (1, .int 0), (2, .int 15)]) (S1 := [.int 15, .int a]) 2 0 (fun n => rfl) ?_
        refine RP_cond (decide (15 < a)) (fun n => rfl) (fun _ => ?_) (fun h => absurd (xi_lt (x := 15) (y := a) (show 15 < a.toInt by omega)) (of_decide_eq_false h))
        show RP 55 _ 14 [(0, .int a), (1, .int 0), (2, .int 15)] [] _
        refine RP_done 4 (fun n => rfl) ?_
        refine Or.inr ⟨0, rfl, ?_⟩
        show RP 57 _ 7 [(0, .int a)] [.int 0] _
        refine RP_done 3 (fun n => rfl) ?_
        refine Or.inr ⟨0, rfl, ?_⟩
        show RP 59 _ 128 [(0, .int 2), (1, .int a), (2, .int b), (3, .int c), (4, .int d)] [.int 0] _
        refine RP_done 5 (fun n => rfl) ?_
        exact ⟨rfl, rfl⟩
      · have h61 := of_decide_eq_false hh
        have h62 : a.toInt < 16 := xj_nle h61
        show RP 23 _ 10 [(0, .int a)] [] _
        refine RP_done 5 (fun n => rfl) ?_
        refine Or.inr ⟨1, rfl, ?_⟩
        show RP 25 _ 128 [(0, .int 2), (1, .int a), (2, .int b), (3, .int c), (4, .int d)] [.int 1] _
        refine RP_step (pc1 := 132) (L1 := [(0, .int 2), (1, .int a), (2, .int b), (3, .int c), (4, .int d)]) (S1 := [.int b]) 2 0 (fun n => rfl) ?_
        refine RP_call 23 [.int b] (fun n => rfl) ?_
        show RP 23 _ 0 [(0, .int b)] [] _
        refine RP_step (pc1 := 1) (L1 := [(0, .int b)]) (S1 := [.int b]) 1 0 (fun n => rfl) ?_
        refine RP_cond (decide (b < 0)) (fun n => rfl) (fun hh => ?_) (fun hh => ?_)
        · have h63 := of_decide_eq_true hh
          have h64 : b.toInt < 0 := xj_lt h63
          show RP 23 _ 14 [(0, .int b)] [] _
          refine RP_done 4 (fun n => rfl) ?_
          refine Or.inr ⟨0, rfl, ?_⟩
          show RP 25 _ 135 [(0, .int 2), (1, .int a), (2, .int b), (3, .int c), (4, .int d)] [.int 0] _
          refine RP_done 5 (fun n => rfl) ?_
          refine ⟨Or.inl rfl, rfl, ?_⟩
          show RP 59 _ 0 [(0, .int 2), (1, .int a), (2, .int b), (3, .int c), (4, .int d)] [] _
          refine RP_step (pc1 := 125) (L1 := [(0, .int 2), (1, .int a), (2, .int b), (3, .int c), (4, .int d)]) (S1 := [.int a]) 3 0 (fun n => rfl) ?_
          refine RP_call 57 [.int a] (fun n => rfl) ?_
          show RP 57 _ 0 [(0, .int a)] [] _
          refine RP_step (pc1 := 4) (L1 := [(0, .int a)]) (S1 := [.int 15, .int 0, .int a]) 3 0 (fun n => rfl) ?_
          refine RP_call 55 [.int a, .int 0, .int 15] (fun n => rfl) ?_
          show RP 55 _ 0 [(0, .int a), (1, .int 0), (2, .int 15)] [] _
          refine RP_step (pc1 := 2) (L1 := [(0, .int a), (1, .int 0), (2, .int 15)]) (S1 := [.int 0, .int a]) 2 0 (fun n => rfl) ?_
          refine RP_cond (decide (a < 0)) (fun n => rfl) (fun h => absurd (of_decide_eq_true h) (xi_nlt (x := a) (y := 0) (show 0 ≤ a.toInt by omega))) (fun _ => ?_)
          show RP 55 _ 5 [(0, .int a), (1, .int 0), (2, .int 15)] [] _
          refine RP_step (pc1 := 7) (L1 := [(0, .int a), (1, .int 0), (2, .int 15)]) (S1 := [.int 15, .int a]) 2 0 (fun n => rfl) ?_
          refine RP_cond (decide (15 < a)) (fun n => rfl) (fun h => absurd (of_decide_eq_true h) (xi_nlt (x := 15) (y := a) (show a.toInt ≤ 15 by omega))) (fun _ => ?_)
          show RP 55 _ 10 [(0, .int a), (1, .int 0), (2, .int 15)] [] _
          refine RP_done 5 (fun n => rfl) ?_
          refine Or.inr ⟨1, rfl, ?_⟩
          show RP 57 _ 7 [(0, .int a)] [.int 1] _
          refine RP_done 3 (fun n => rfl) ?_
          refine Or.inr ⟨1, rfl, ?_⟩
          show RP 59 _ 128 [(0, .int 2), (1, .int a), (2, .int b), (3, .int c), (4, .int d)] [.int 1] _
          refine RP_step (pc1 := 132) (L1 := [(0, .int 2), (1, .int a), (2, .int b), (3, .int c), (4, .int d)]) (S1 := [.int b]) 2 0 (fun n => rfl) ?_
          refine RP_call 57 [.int b] (fun n => rfl) ?_
          show RP 57 _ 0 [(0, .int b)] [] _
          refine RP_step (pc1 := 4) (L1 := [(0, .int b)]) (S1 := [.int 15, .int 0, .int b]) 3 0 (fun n => rfl) ?_
          refine RP_call 55 [.int b, .int 0, .int 15] (fun n => rfl) ?_
          show RP 55 _ 0 [(0, .int b), (1, .int 0), (2, .int 15)] [] _
          refine RP_step (pc1 := 2) (L1 := [(0, .int b), (1, .int 0), (2, .int 15)]) (S1 := [.int 0, .int b]) 2 0 (fun n => rfl) ?_
          refine RP_cond (decide (b < 0)) (fun n => rfl) (fun _ => ?_) (fun h => absurd (xi_lt (x := b) (y := 0) (show b.toInt < 0 by omega)) (of_decide_eq_false h))
          show RP 55 _ 14 [(0, .int b), (1, .int 0), (2, .int 15)] [] _
          refine RP_done 4 (fun n => rfl) ?_
          refine Or.inr ⟨0, rfl, ?_⟩
          show RP 57 _ 7 [(0, .int b)] [.int 0] _
          refine RP_done 3 (fun n => rfl) ?_
          refine Or.inr ⟨0, rfl, ?_⟩
          show RP 59 _ 135 [(0, .int 2), (1, .int a), (2, .int b), (3, .int c), (4, .int d)] [.int 0] _
          refine RP_done 5 (fun n => rfl) ?_
          exact ⟨rfl, rfl⟩
        · have h65 := of_decide_eq_false hh
          have h66 : 0 ≤ b.toInt := xj_nlt h65
          show RP 23 _ 4 [(0, .int b)] [] _
          refine RP_step (pc1 := 7) (L1 := [(0, .int b)]) (S1 := [.int 16, .int b]) 2 0 (fun n => rfl) ?_
          refine RP_cond (decide (16 ≤ b)) (fun n => rfl) (fun hh => ?_) (fun hh => ?_)
          · have h67 := of_decide_eq_true hh
            have h68 : 16 ≤ b.toInt := xj_le h67
            show RP 23 _ 14 [(0, .int b)] [] _
            refine RP_done 4 (fun n => rfl) ?_
            refine Or.inr ⟨0, rfl, ?_⟩
            show RP 25 _ 135 [(0, .int 2), (1, .int a), (2, .int b), (3, .int c), (4, .int d)] [.int 0] _
            refine RP_done 5 (fun n => rfl) ?_
            refine ⟨Or.inl rfl, rfl, ?_⟩
            show RP 59 _ 0 [(0, .int 2), (1, .int a), (2, .int b), (3, .int c), (4, .int d)] [] _
            refine RP_step (pc1 := 125) (L1 := [(0, .int 2), (1, .int a), (2, .int b), (3, .int c), (4, .int d)]) (S1 := [.int a]) 3 0 (fun n => rfl) ?_
            refine RP_call 57 [.int a] (fun n => rfl) ?_
            show RP 57 _ 0 [(0, .int a)] [] _
            refine RP_step (pc1 := 4) (L1 := [(0, .int a)]) (S1 := [.int 15, .int 0, .int a]) 3 0 (fun n => rfl) ?_
            refine RP_call 55 [.int a, .int 0, .int 15] (fun n => rfl) ?_
            show RP 55 _ 0 [(0, .int a), (1, .int 0), (2, .int 15)] [] _
            refine RP_step (pc1 := 2) (L1 := [(0, .int a), (1, .int 0), (2, .int 15)]) (S1 := [.int 0, .int a]) 2 0 (fun n => rfl) ?_
            refine RP_cond (decide (a < 0)) (fun n => rfl) (fun h => absurd (of_decide_eq_true h) (xi_nlt (x := a) (y := 0) (show 0 ≤ a.toInt by omega))) (fun _ => ?_)
            show RP 55 _ 5 [(0, .int a), (1, .int 0), (2, .int 15)] [] _
            refine RP_step (pc1 := 7) (L1 := [(0, .int a), (1, .int 0), (2, .int 15)]) (S1 := [.int 15, .int a]) 2 0 (fun n => rfl) ?_
            refine RP_cond (decide (15 < a)) (fun n => rfl) (fun h => absurd (of_decide_eq_true h) (xi_nlt (x := 15) (y := a) (show a.toInt ≤ 15 by omega))) (fun _ => ?_)
            show RP 55 _ 10 [(0, .int a), (1, .int 0), (2, .int 15)] [] _
            refine RP_done 5 (fun n => rfl) ?_
            refine Or.inr ⟨1, rfl, ?_⟩
            show RP 57 _ 7 [(0, .int a)] [.int 1] _
            refine RP_done 3 (fun n => rfl) ?_
            refine Or.inr ⟨1, rfl, ?_⟩
            show RP 59 _ 128 [(0, .int 2), (1, .int a), (2, .int b), (3, .int c), (4, .int d)] [.int 1] _
            refine RP_step (pc1 := 132) (L1 := [(0, .int 2), (1, .int a), (2, .int b), (3, .int c), (4, .int d)]) (S1 := [.int b]) 2 0 (fun n => rfl) ?_
            refine RP_call 57 [.int b] (fun n => rfl) ?_
            show RP 57 _ 0 [(0, .int b)] [] _
            refine RP_step (pc1 := 4) (L1 := [(0, .int b)]) (S1 := [.int 15, .int 0, .int b]) 3 0 (fun n => rfl) ?_
            refine RP_call 55 [.int b, .int 0, .int 15] (fun n => rfl) ?_
            show RP 55 _ 0 [(0, .int b), (1, .int 0), (2, .int 15)] [] _
            refine RP_step (pc1 := 2) (L1 := [(0, .int b), (1, .int 0), (2, .int 15)]) (S1 := [.int 0, .int b]) 2 0 (fun n => rfl) ?_
            refine RP_cond (decide (b < 0)) (fun n => rfl) (fun h => absurd (of_decide_eq_true h) (xi_nlt (x := b) (y := 0) (show 0 ≤ b.toInt by omega))) (fun _ => ?_)
            show RP 55 _ 5 [(0, .int b), (1, .int 0), (2, .int 15)] [] _
            refine RP_step (pc1 := 7) (L1 := [(0, .int b), (1, .int 0), (2, .int 15)]) (S1 := [.int 15, .int b]) 2 0 (fun n => rfl) ?_
            refine RP_cond (decide (15 < b)) (fun n => rfl) (fun _ => ?_) (fun h => absurd (xi_lt (x := 15) (y := b) (show 15 < b.toInt by omega)) (of_decide_eq_false h))
            show RP 55 _ 14 [(0, .int b), (1, .int 0), (2, .int 15)] [] _
            refine RP_done 4 (fun n => rfl) ?_
            refine Or.inr ⟨0, rfl, ?_⟩
            show RP 57 _ 7 [(0, .int b)] [.int 0] _
            refine RP_done 3 (fun n => rfl) ?_
            refine Or.inr ⟨0, rfl, ?_⟩
            show RP 59 _ 135 [(0, .int 2), (1, .int a), (2, .int b), (3, .int c), (4, .int d)] [.int 0] _
            refine RP_done 5 (fun n => rfl) ?_
            exact ⟨rfl, rfl⟩
          · have h69 := of_decide_eq_false hh
            have h70 : b.toInt < 16 := xj_nle h69
            show RP 23 _ 10 [(0, .int b)] [] _
            refine RP_done 5 (fun n => rfl) ?_
            refine Or.inr ⟨1, rfl, ?_⟩
            show RP 25 _ 135 [(0, .int 2), (1, .int a), (2, .int b), (3, .int c), (4, .int d)] [.int 1] _
            refine RP_step (pc1 := 139) (L1 := [(0, .int 2), (1, .int a), (2, .int b), (3, .int c), (4, .int d)]) (S1 := [.int c]) 2 0 (fun n => rfl) ?_
            refine RP_cond (decide (c ≠ 0)) (fun n => rfl) (fun hh => ?_) (fun hh => ?_)
            · have h71 := of_decide_eq_true hh
              show RP 25 _ 151 [(0, .int 2), (1, .int a), (2, .int b), (3, .int c), (4, .int d)] [] _
              refine RP_done 4 (fun n => rfl) ?_
              refine ⟨Or.inl rfl, rfl, ?_⟩
              show RP 59 _ 0 [(0, .int 2), (1, .int a), (2, .int b), (3, .int c), (4, .int d)] [] _
              refine RP_step (pc1 := 125) (L1 := [(0, .int 2), (1, .int a), (2, .int b), (3, .int c), (4, .int d)]) (S1 := [.int a]) 3 0 (fun n => rfl) ?_
              refine RP_call 57 [.int a] (fun n => rfl) ?_
              show RP 57 _ 0 [(0, .int a)] [] _
              refine RP_step (pc1 := 4) (L1 := [(0, .int a)]) (S1 := [.int 15, .int 0, .int a]) 3 0 (fun n => rfl) ?_
              refine RP_call 55 [.int a, .int 0, .int 15] (fun n => rfl) ?_
              show RP 55 _ 0 [(0, .int a), (1, .int 0), (2, .int 15)] [] _
              refine RP_step (pc1 := 2) (L1 := [(0, .int a), (1, .int 0), (2, .int 15)]) (S1 := [.int 0, .int a]) 2 0 (fun n => rfl) ?_
              refine RP_cond (decide (a < 0)) (fun n => rfl) (fun h => absurd (of_decide_eq_true h) (xi_nlt (x := a) (y := 0) (show 0 ≤ a.toInt by omega))) (fun _ => ?_)
              show RP 55 _ 5 [(0, .int a), (1, .int 0), (2, .int 15)] [] _
              refine RP_step (pc1 := 7) (L1 := [(0, .int a), (1, .int 0), (2, .int 15)]) (S1 := [.int 15, .int a]) 2 0 (fun n => rfl) ?_
              refine RP_cond (decide (15 < a)) (fun n => rfl) (fun h => absurd (of_decide_eq_true h) (xi_nlt (x := 15) (y := a) (show a.toInt ≤ 15 by omega))) (fun _ => ?_)
              show RP 55 _ 10 [(0, .int a), (1, .int 0), (2, .int 15)] [] _
              refine RP_done 5 (fun n => rfl) ?_
              refine Or.inr ⟨1, rfl, ?_⟩
              show RP 57 _ 7 [(0, .int a)] [.int 1] _
              refine RP_done 3 (fun n => rfl) ?_
              refine Or.inr ⟨1, rfl, ?_⟩
              show RP 59 _ 128 [(0, .int 2), (1, .int a), (2, .int b), (3, .int c), (4, .int d)] [.int 1] _
              refine RP_step (pc1 := 132) (L1 := [(0, .int 2), (1, .int a), (2, .int b), (3, .int c), (4, .int d)]) (S1 := [.int b]) 2 0 (fun n => rfl) ?_
              refine RP_call 57 [.int b] (fun n => rfl) ?_
              show RP 57 _ 0 [(0, .int b)] [] _
              refine RP_step (pc1 := 4) (L1 := [(0, .int b)]) (S1 := [.int 15, .int 0, .int b]) 3 0 (fun n => rfl) ?_
              refine RP_call 55 [.int b, .int 0, .int 15] (fun n => rfl) ?_
              show RP 55 _ 0 [(0, .int b), (1, .int 0), (2, .int 15)] [] _
              refine RP_step (pc1 := 2) (L1 := [(0, .int b), (1, .int 0), (2, .int 15)]) (S1 := [.int 0, .int b]) 2 0 (fun n => rfl) ?_
              refine RP_cond (decide (b < 0)) (fun n => rfl) (fun h => absurd (of_decide_eq_true h) (xi_nlt (x := b) (y := 0) (show 0 ≤ b.toInt by omega))) (fun _ => ?_)
              show RP 55 _ 5 [(0, .int b), (1, .int 0), (2, .int 15)] [] _
              refine RP_step (pc1 := 7) (L1 := [(0, .int b), (1, .int 0), (2, .int 15)]) (S1 := [.int 15, .int b]) 2 0 (fun n => rfl) ?_
              refine RP_cond (decide (15 < b)) (fun n => rfl) (fun h => absurd (of_decide_eq_true h) (xi_nlt (x := 15) (y := b) (show b.toInt ≤ 15 by omega))) (fun _ => ?_)
              show RP 55 _ 10 [(0, .int b), (1, .int 0), (2, .int 15)] [] _
              refine RP_done 5 (fun n => rfl) ?_
              refine Or.inr ⟨1, rfl, ?_⟩
              show RP 57 _ 7 [(0, .int b)] [.int 1] _
              refine RP_done 3 (fun n => rfl) ?_
              refine Or.inr ⟨1, rfl, ?_⟩
              show RP 59 _ 135 [(0, .int 2), (1, .int a), (2, .int b), (3, .int c), (4, .int d)] [.int 1] _
              refine RP_step (pc1 := 139) (L1 := [(0, .int 2), (1, .int a), (2, .int b), (3, .int c), (4, .int d)]) (S1 := [.int c]) 2 0 (fun n => rfl) ?_
              refine RP_cond (decide (c ≠ 0)) (fun n => rfl) (fun _ => ?_) (fun h => absurd (by assumption) (of_decide_eq_false h))
              show RP 59 _ 151 [(0, .int 2), (1, .int a), (2, .int b), (3, .int c), (4, .int d)] [] _
              refine RP_done 4 (fun n => rfl) ?_
              exact ⟨rfl, rfl⟩
            · have h72 := of_decide_eq_false hh
              replace h72 := Decidable.of_not_not h72
              clear hh
              subst h72
              show RP 25 _ 142 [(0, .int 2), (1, .int a), (2, .int b), (3, .int 0), (4, .int d)] [] _
              refine RP_step (pc1 := 144) (L1 := [(0, .int 2), (1, .int a), (2, .int b), (3, .int 0), (4, .int d)]) (S1 := [.int d]) 1 0 (fun n => rfl) ?_
              refine RP_cond (decide (d ≠ 0)) (fun n => rfl) (fun hh => ?_) (fun hh => ?_)
              · have h73 := of_decide_eq_true hh
                show RP 25 _ 151 [(0, .int 2), (1, .int a), (2, .int b), (3, .int 0), (4, .int d)] [] _
                refine RP_done 4 (fun n => rfl) ?_
                refine ⟨Or.inl rfl, rfl, ?_⟩
                show RP 59 _ 0 [(0, .int 2), (1, .int a), (2, .int b), (3, .int 0), (4, .int d)] [] _
                refine RP_step (pc1 := 125) (L1 := [(0, .int 2), (1, .int a), (2, .int b), (3, .int 0), (4, .int d)]) (S1 := [.int a]) 3 0 (fun n => rfl) ?_
                refine RP_call 57 [.int a] (fun n => rfl) ?_
                show RP 57 _ 0 [(0, .int a)] [] _
                refine RP_step (pc1 := 4) (L1 := [(0, .int a)]) (S1 := [.int 15, .int 0, .int a]) 3 0 (fun n => rfl) ?_
                refine RP_call 55 [.int a, .int 0, .int 15] (fun n => rfl) ?_
                show RP 55 _ 0 [(0, .int a), (1, .int 0), (2, .int 15)] [] _
                refine RP_step (pc1 := 2) (L1 := [(0, .int a), (1, .int 0), (2, .int 15)]) (S1 := [.int 0, .int a]) 2 0 (fun n => rfl) ?_
                refine RP_cond (decide (a < 0)) (fun n => rfl) (fun h => absurd (of_decide_eq_true h) (xi_nlt (x := a) (y := 0) (show 0 ≤ a.toInt by omega))) (fun _ => ?_)
                show RP 55 _ 5 [(0, .int a), (1, .int 0), (2, .int 15)] [] _
                refine RP_step (pc1 := 7) (L1 := [(0, .int a), (1, .int 0), (2, .int 15)]) (S1 := [.int 15, .int a]) 2 0 (fun n => rfl) ?_
                refine RP_cond (decide (15 < a)) (fun n => rfl) (fun h => absurd (of_decide_eq_true h) (xi_nlt (x := 15) (y := a) (show a.toInt ≤ 15 by omega))) (fun _ => ?_)
                show RP 55 _ 10 [(0, .int a), (1, .int 0), (2, .int 15)] [] _
                refine RP_done 5 (fun n => rfl) ?_
                refine Or.inr ⟨1, rfl, ?_⟩
                show RP 57 _ 7 [(0, .int a)] [.int 1] _
                refine RP_done 3 (fun n => rfl) ?_
                refine Or.inr ⟨1, rfl, ?_⟩
                show RP 59 _ 128 [(0, .int 2), (1, .int a), (2, .int b), (3, .int 0), (4, .int d)] [.int 1] _
                refine RP_step (pc1 := 132) (L1 := [(0, .int 2), (1, .int a), (2, .int b), (3, .int 0), (4, .int d)]) (S1 := [.int b]) 2 0 (fun n => rfl) ?_
                refine RP_call 57 [.int b] (fun n => rfl) ?_
                show RP 57 _ 0 [(0, .int b)] [] _
                refine RP_step (pc1 := 4) (L1 := [(0, .int b)]) (S1 := [.int 15, .int 0, .int b]) 3 0 (fun n => rfl) ?_
                refine RP_call 55 [.int b, .int 0, .int 15] (fun n => rfl) ?_
                show RP 55 _ 0 [(0, .int b), (1, .int 0), (2, .int 15)] [] _
                refine RP_step (pc1 := 2) (L1 := [(0, .int b), (1, .int 0), (2, .int 15)]) (S1 := [.int 0, .int b]) 2 0 (fun n => rfl) ?_
                refine RP_cond (decide (b < 0)) (fun n => rfl) (fun h => absurd (of_decide_eq_true h) (xi_nlt (x := b) (y := 0) (show 0 ≤ b.toInt by omega))) (fun _ => ?_)
                show RP 55 _ 5 [(0, .int b), (1, .int 0), (2, .int 15)] [] _
                refine RP_step (pc1 := 7) (L1 := [(0, .int b), (1, .int 0), (2, .int 15)]) (S1 := [.int 15, .int b]) 2 0 (fun n => rfl) ?_
                refine RP_cond (decide (15 < b)) (fun n => rfl) (fun h => absurd (of_decide_eq_true h) (xi_nlt (x := 15) (y := b) (show b.toInt ≤ 15 by omega))) (fun _ => ?_)
                show RP 55 _ 10 [(0, .int b), (1, .int 0), (2, .int 15)] [] _
                refine RP_done 5 (fun n => rfl) ?_
                refine Or.inr ⟨1, rfl, ?_⟩
                show RP 57 _ 7 [(0, .int b)] [.int 1] _
                refine RP_done 3 (fun n => rfl) ?_
                refine Or.inr ⟨1, rfl, ?_⟩
                show RP 59 _ 135 [(0, .int 2), (1, .int a), (2, .int b), (3, .int 0), (4, .int d)] [.int 1] _
                refine RP_step (pc1 := 144) (L1 := [(0, .int 2), (1, .int a), (2, .int b), (3, .int 0), (4, .int d)]) (S1 := [.int d]) 4 0 (fun n => rfl) ?_
                refine RP_cond (decide (d ≠ 0)) (fun n => rfl) (fun _ => ?_) (fun h => absurd (by assumption) (of_decide_eq_false h))
                show RP 59 _ 151 [(0, .int 2), (1, .int a), (2, .int b), (3, .int 0), (4, .int d)] [] _
                refine RP_done 4 (fun n => rfl) ?_
                exact ⟨rfl, rfl⟩
              · have h74 := of_decide_eq_false hh
                replace h74 := Decidable.of_not_not h74
                clear hh
                subst h74
                show RP 25 _ 147 [(0, .int 2), (1, .int a), (2, .int b), (3, .int 0), (4, .int 0)] [] _
                refine RP_done 5 (fun n => rfl) ?_
                refine ⟨Or.inr rfl, rfl, ?_⟩
                show RP 59 _ 0 [(0, .int 2), (1, .int a), (2, .int b), (3, .int 0), (4, .int 0)] [] _
                refine RP_step (pc1 := 125) (L1 := [(0, .int 2), (1, .int a), (2, .int b), (3, .int 0), (4, .int 0)]) (S1 := [.int a]) 3 0 (fun n => rfl) ?_
                refine RP_call 57 [.int a] (fun n => rfl) ?_
                show RP 57 _ 0 [(0, .int a)] [] _
                refine RP_step (pc1 := 4) (L1 := [(0, .int a)]) (S1 := [.int 15, .int 0, .int a]) 3 0 (fun n => rfl) ?_
                refine RP_call 55 [.int a, .int 0, .int 15] (fun n => rfl) ?_
                show RP 55 _ 0 [(0, .int a), (1, .int 0), (2, .int 15)] [] _
                refine RP_step (pc1 := 2) (L1 := [(0, .int a), (1, .int 0), (2, .int 15)]) (S1 := [.int 0, .int a]) 2 0 (fun n => rfl) ?_
                refine RP_cond (decide (a < 0)) (fun n => rfl) (fun h => absurd (of_decide_eq_true h) (xi_nlt (x := a) (y := 0) (show 0 ≤ a.toInt by omega))) (fun _ => ?_)
                show RP 55 _ 5 [(0, .int a), (1, .int 0), (2, .int 15)] [] _
                refine RP_step (pc1 := 7) (L1 := [(0, .int a), (1, .int 0), (2, .int 15)]) (S1 := [.int 15, .int a]) 2 0 (fun n => rfl) ?_
                refine RP_cond (decide (15 < a)) (fun n => rfl) (fun h => absurd (of_decide_eq_true h) (xi_nlt (x := 15) (y := a) (show a.toInt ≤ 15 by omega))) (fun _ => ?_)
                show RP 55 _ 10 [(0, .int a), (1, .int 0), (2, .int 15)] [] _
                refine RP_done 5 (fun n => rfl) ?_
                refine Or.inr ⟨1, rfl, ?_⟩
                show RP 57 _ 7 [(0, .int a)] [.int 1] _
                refine RP_done 3 (fun n => rfl) ?_
                refine Or.inr ⟨1, rfl, ?_⟩
                show RP 59 _ 128 [(0, .int 2), (1, .int a), (2, .int b), (3, .int 0), (4, .int 0)] [.int 1] _
                refine RP_step (pc1 := 132) (L1 := [(0, .int 2), (1, .int a), (2, .int b), (3, .int 0), (4, .int 0)]) (S1 := [.int b]) 2 0 (fun n => rfl) ?_
                refine RP_call 57 [.int b] (fun n => rfl) ?_
                show RP 57 _ 0 [(0, .int b)] [] _
                refine RP_step (pc1 := 4) (L1 := [(0, .int b)]) (S1 := [.int 15, .int 0, .int b]) 3 0 (fun n => rfl) ?_
                refine RP_call 55 [.int b, .int 0, .int 15] (fun n => rfl) ?_
                show RP 55 _ 0 [(0, .int b), (1, .int 0), (2, .int 15)] [] _
                refine RP_step (pc1 := 2) (L1 := [(0, .int b), (1, .int 0), (2, .int 15)]) (S1 := [.int 0, .int b]) 2 0 (fun n => rfl) ?_
                refine RP_cond (decide (b < 0)) (fun n => rfl) (fun h => absurd (of_decide_eq_true h) (xi_nlt (x := b) (y := 0) (show 0 ≤ b.toInt by omega))) (fun _ => ?_)
                show RP 55 _ 5 [(0, .int b), (1, .int 0), (2, .int 15)] [] _
                refine RP_step (pc1 := 7) (L1 := [(0, .int b), (1, .int 0), (2, .int 15)]) (S1 := [.int 15, .int b]) 2 0 (fun n => rfl) ?_
                refine RP_cond (decide (15 < b)) (fun n => rfl) (fun h => absurd (of_decide_eq_true h) (xi_nlt (x := 15) (y := b) (show b.toInt ≤ 15 by omega))) (fun _ => ?_)
                show RP 55 _ 10 [(0, .int b), (1, .int 0), (2, .int 15)] [] _
                refine RP_done 5 (fun n => rfl) ?_
                refine Or.inr ⟨1, rfl, ?_⟩
                show RP 57 _ 7 [(0, .int b)] [.int 1] _
                refine RP_done 3 (fun n => rfl) ?_
                refine Or.inr ⟨1, rfl, ?_⟩
                show RP 59 _ 135 [(0, .int 2), (1, .int a), (2, .int b), (3, .int 0), (4, .int 0)] [.int 1] _
                refine RP_done 10 (fun n => rfl) ?_
                exact ⟨rfl, rfl⟩
  · skip
    show RP 25 _ 0 [(0, .int 3), (1, .int a), (2, .int b), (3, .int c), (4, .int d)] [] _
    refine RP_step (pc1 := 154) (L1 := [(0, .int 3), (1, .int a), (2, .int b), (3, .int c), (4, .int d)]) (S1 := [.int a]) 3 0 (fun n => rfl) ?_
    refine RP_call 23 [.int a] (fun n => rfl) ?_
    show RP 23 _ 0 [(0, .int a)] [] _
    refine RP_step (pc1 := 1) (L1 := [(0, .int a)]) (S1 := [.int a]) 1 0 (fun n => rfl) ?_
    refine RP_cond (decide (a < 0)) (fun n => rfl) (fun hh => ?_) (fun hh => ?_)
    · have h75 := of_decide_eq_true hh
      have h76 : a.toInt < 0 := xj_lt h75
      show RP 23 _ 14 [(0, .int a)] [] _
      refine RP_done 4 (fun n => rfl) ?_
      refine Or.inr ⟨0, rfl, ?_⟩
      show RP 25 _ 157 [(0, .int 3), (1, .int a), (2, .int b), (3, .int c), (4, .int d)] [.int 0] _
      refine RP_done 5 (fun n => rfl) ?_
      refine ⟨Or.inl rfl, rfl, ?_⟩
      show RP 59 _ 0 [(0, .int 3), (1, .int a), (2, .int b), (3, .int c), (4, .int d)] [] _
      refine RP_step (pc1 := 154) (L1 := [(0, .int 3), (1, .int a), (2, .int b), (3, .int c), (4, .int d)]) (S1 := [.int a]) 3 0 (fun n => rfl) ?_
      refine RP_call 57 [.int a] (fun n => rfl) ?_
      show RP 57 _ 0 [(0, .int a)] [] _
      refine RP_step (pc1 := 4) (L1 := [(0, .int a)]) (S1 := [.int 15, .int 0, .int a]) 3 0 (fun n => rfl) ?_
      refine RP_call 55 [.int a, .int 0, .int 15] (fun n => rfl) ?_
      show RP 55 _ 0 [(0, .int a), (1, .int 0), (2, .int 15)] [] _
      refine RP_step (pc1 := 2) (L1 := [(0, .int a), (1, .int 0), (2, .int 15)]) (S1 := [.int 0, .int a]) 2 0 (fun n => rfl) ?_
      refine RP_cond (decide (a < 0)) (fun n => rfl) (fun _ => ?_) (fun h => absurd (xi_lt (x := a) (y := 0) (show a.toInt < 0 by omega)) (of_decide_eq_false h))
      show RP 55 _ 14 [(0, .int a), (1, .int 0), (2, .int 15)] [] _
      refine RP_done 4 (fun n => rfl) ?_
      refine Or.inr ⟨0, rfl, ?_⟩
      show RP 57 _ 7 [(0, .int a)] [.int 0] _
      refine RP_done 3 (fun n => rfl) ?_
      refine Or.inr ⟨0, rfl, ?_⟩
      show RP 59 _ 157 [(0, .int 3), (1, .int a), (2, .int b), (3, .int c), (4, .int d)] [.int 0] _
      refine RP_done 5 (fun n => rfl) ?_
      exact ⟨rfl, rfl⟩
    · have h77 := of_decide_eq_false hh
      have h78 : 0 ≤ a.toInt := xj_nlt h77
      show RP 23 _ 4 [(0, .int a)] [] _
      refine RP_step (pc1 := 7) (L1 := [(0, .int a)]) (S1 := [.int 16, .int a]) 2 0 (fun n => rfl) ?_
      refine RP_cond (decide (16 ≤ a)) (fun n => rfl) (fun hh => ?_) (fun hh => ?_)
      · have h79 := of_decide_eq_true hh
        have h80 : 16 ≤ a.toInt := xj_le h79
        show RP 23 _ 14 [(0, .int a)] [] _
        refine RP_done 4 (fun n => rfl) ?_
        refine Or.inr ⟨0, rfl, ?_⟩
        show RP 25 _ 157 [(0, .int 3), (1, .int a), (2, .int b), (3, .int c), (4, .int d)] [.int 0] _
        refine RP_done 5 (fun n => rfl) ?_
        refine ⟨Or.inl rfl, rfl, ?_⟩
        show RP 59 _ 0 [(0, .int 3), (1, .int a), (2, .int b), (3, .int c), (4, .int d)] [] _
        refine RP_step (pc1 := 154) (L1 := [(0, .int 3), (1, .int a), (2, .int b), (3, .int c), (4, .int d)]) (S1 := [.int a]) 3 0 (fun n => rfl) ?_
        refine RP_call 57 [.int a] (fun n => rfl) ?_
        show RP 57 _ 0 [(0, .int a)] [] _
        refine RP_step (pc1 := 4) (L1 := [(0, .int a)]) (S1 := [.int 15, .int 0, .int a]) 3 0 (fun n => rfl) ?_
        refine RP_call 55 [.int a, .int 0, .int 15] (fun n => rfl) ?_
        show RP 55 _ 0 [(0, .int a), (1, .int 0), (2, .int 15)] [] _
        refine RP_step (pc1 := 2) (L1 := [(0, .int a), (1, .int 0), (2, .int 15)]) (S1 := [.int 0, .int a]) 2 0 (fun n => rfl) ?_
        refine RP_cond (decide (a < 0)) (fun n => rfl) (fun h => absurd (of_decide_eq_true h) (xi_nlt (x := a) (y := 0) (show 0 ≤ a.toInt by omega))) (fun _ => ?_)
        show RP 55 _ 5 [(0, .int a), (1, .int 0), (2, .int 15)] [] _
        refine RP_step (pc1 := 7) (L1 := [(0, .int a), (1, .int 0), (2, .int 15)]) (S1 := [.int 15, .int a]) 2 0 (fun n => rfl) ?_
        refine RP_cond (decide (15 < a)) (fun n => rfl) (fun _ => ?_) (fun h => absurd (xi_lt (x := 15) (y := a) (show 15 < a.toInt by omega)) (of_decide_eq_false h))
        show RP 55 _ 14 [(0, .int a), (1, .int 0), (2, .int 15)] [] _
        refine RP_done 4 (fun n => rfl) ?_
        refine Or.inr ⟨0, rfl, ?_⟩
        show RP 57 _ 7 [(0, .int a)] [.int 0] _
        refine RP_done 3 (fun n => rfl) ?_
        refine Or.inr ⟨0, rfl, ?_⟩
        show RP 59 _ 157 [(0, .int 3), (1, .int a), (2, .int b), (3, .int c), (4, .int d)] [.int 0] _
        refine RP_done 5 (fun n => rfl) ?_
        exact ⟨rfl, rfl⟩
      · have h81 := of_decide_eq_false hh
        have h82 : a.toInt < 16 := xj_nle h81
        show RP 23 _ 10 [(0, .int a)] [] _
        refine RP_done 5 (fun n => rfl) ?_
        refine Or.inr ⟨1, rfl, ?_⟩
        show RP 25 _ 157 [(0, .int 3), (1, .int a), (2, .int b), (3, .int c), (4, .int d)] [.int 1] _
        refine RP_step (pc1 := 161) (L1 := [(0, .int 3), (1, .int a), (2, .int b), (3, .int c), (4, .int d)]) (S1 := [.int b]) 2 0 (fun n => rfl) ?_
        refine RP_cond (decide (b ≠ 0)) (fun n => rfl) (fun hh => ?_) (fun hh => ?_)
        · have h83 := of_decide_eq_true hh
          show RP 25 _ 177 [(0, .int 3), (1, .int a), (2, .int b), (3, .int c), (4, .int d)] [] _
          refine RP_done 4 (fun n => rfl) ?_
          refine ⟨Or.inl rfl, rfl, ?_⟩
          show RP 59 _ 0 [(0, .int 3), (1, .int a), (2, .int b), (3, .int c), (4, .int d)] [] _
          refine RP_step (pc1 := 154) (L1 := [(0, .int 3), (1, .int a), (2, .int b), (3, .int c), (4, .int d)]) (S1 := [.int a]) 3 0 (fun n => rfl) ?_
          refine RP_call 57 [.int a] (fun n => rfl) ?_
          show RP 57 _ 0 [(0, .int a)] [] _
          refine RP_step (pc1 := 4) (L1 := [(0, .int a)]) (S1 := [.int 15, .int 0, .int a]) 3 0 (fun n => rfl) ?_
          refine RP_call 55 [.int a, .int 0, .int 15] (fun n => rfl) ?_
          show RP 55 _ 0 [(0, .int a), (1, .int 0), (2, .int 15)] [] _
          refine RP_step (pc1 := 2) (L1 := [(0, .int a), (1, .int 0), (2, .int 15)]) (S1 := [.int 0, .int a]) 2 0 (fun n => rfl) ?_
          refine RP_cond (decide (a < 0)) (fun n => rfl) (fun h => absurd (of_decide_eq_true h) (xi_nlt (x := a) (y := 0) (show 0 ≤ a.toInt by omega))) (fun _ => ?_)
          show RP 55 _ 5 [(0, .int a), (1, .int 0), (2, .int 15)] [] _
          refine RP_step (pc1 := 7) (L1 := [(0, .int a), (1, .int 0), (2, .int 15)]) (S1 := [.int 15, .int a]) 2 0 (fun n => rfl) ?_
          refine RP_cond (decide (15 < a)) (fun n => rfl) (fun h => absurd (of_decide_eq_true h) (xi_nlt (x := 15) (y := a) (show a.toInt ≤ 15 by omega))) (fun _ => ?_)
          show RP 55 _ 10 [(0, .int a), (1, .int 0), (2, .int 15)] [] _
          refine RP_done 5 (fun n => rfl) ?_
          refine Or.inr ⟨1, rfl, ?_⟩
          show RP 57 _ 7 [(0, .int a)] [.int 1] _
          refine RP_done 3 (fun n => rfl) ?_
          refine Or.inr ⟨1, rfl, ?_⟩
          show RP 59 _ 157 [(0, .int 3), (1, .int a), (2, .int b), (3, .int c), (4, .int d)] [.int 1] _
          refine RP_step (pc1 := 161) (L1 := [(0, .int 3), (1, .int a), (2, .int b), (3, .int c), (4, .int d)]) (S1 := [.int b]) 2 0 (fun n => rfl) ?_
          refine RP_cond (decide (b ≠ 0)) (fun n => rfl) (fun _ => ?_) (fun h => absurd (by assumption) (of_decide_eq_false h))
          show RP 59 _ 177 [(0, .int 3), (1, .int a), (2, .int b), (3, .int c), (4, .int d)] [] _
          refine RP_done 4 (fun n => rfl) ?_
          exact ⟨rfl, rfl⟩
        · have h84 := of_decide_eq_false hh
          replace h84 := Decidable.of_not_not h84
          clear hh
          subst h84
          show RP 25 _ 164 [(0, .int 3), (1, .int a), (2, .int 0), (3, .int c), (4, .int d)] [] _
          refine RP_step (pc1 := 165) (L1 := [(0, .int 3), (1, .int a), (2, .int 0), (3, .int c), (4, .int d)]) (S1 := [.int c]) 1 0 (fun n => rfl) ?_
          refine RP_cond (decide (c ≠ 0)) (fun n => rfl) (fun hh => ?_) (fun hh => ?_)
          · have h85 := of_decide_eq_true hh
            show RP 25 _ 177 [(0, .int 3), (1, .int a), (2, .int 0), (3, .int c), (4, .int d)] [] _
            refine RP_done 4 (fun n => rfl) ?_
            refine ⟨Or.inl rfl, rfl, ?_⟩
            show RP 59 _ 0 [(0, .int 3), (1, .int a), (2, .int 0), (3, .int c), (4, .int d)] [] _
            refine RP_step (pc1 := 154) (L1 := [(0, .int 3), (1, .int a), (2, .int 0), (3, .int c), (4, .int d)]) (S1 := [.int a]) 3 0 (fun n => rfl) ?_
            refine RP_call 57 [.int a] (fun n => rfl) ?_
            show RP 57 _ 0 [(0, .int a)] [] _
            refine RP_step (pc1 := 4) (L1 := [(0, .int a)]) (S1 := [.int 15, .int 0, .int a]) 3 0 (fun n => rfl) ?_
            refine RP_call 55 [.int a, .int 0, .int 15] (fun n => rfl) ?_
            show RP 55 _ 0 [(0, .int a), (1, .int 0), (2, .int 15)] [] _
            refine RP_step (pc1 := 2) (L1 := [(0, .int a), (1, .int 0), (2, .int 15)]) (S1 := [.int 0, .int a]) 2 0 (fun n => rfl) ?_
            refine RP_cond (decide (a < 0)) (fun n => rfl) (fun h => absurd (of_decide_eq_true h) (xi_nlt (x := a) (y := 0) (show 0 ≤ a.toInt by omega))) (fun _ => ?_)
            show RP 55 _ 5 [(0, .int a), (1, .int 0), (2, .int 15)] [] _
            refine RP_step (pc1 := 7) (L1 := [(0, .int a), (1, .int 0), (2, .int 15)]) (S1 := [.int 15, .int a]) 2 0 (fun n => rfl) ?_
            refine RP_cond (decide (15 < a)) (fun n => rfl) (fun h => absurd (of_decide_eq_true h) (xi_nlt (x := 15) (y := a) (show a.toInt ≤ 15 by omega))) (fun _ => ?_)
            show RP 55 _ 10 [(0, .int a), (1, .int 0), (2, .int 15)] [] _
            refine RP_done 5 (fun n => rfl) ?_
            refine Or.inr ⟨1, rfl, ?_⟩
            show RP 57 _ 7 [(0, .int a)] [.int 1] _
            refine RP_done 3 (fun n => rfl) ?_
            refine Or.inr ⟨1, rfl, ?_⟩
            show RP 59 _ 157 [(0, .int 3), (1, .int a), (2, .int 0), (3, .int c), (4, .int d)] [.int 1] _
            refine RP_step (pc1 := 165) (L1 := [(0, .int 3), (1, .int a), (2, .int 0), (3, .int c), (4, .int d)]) (S1 := [.int c]) 4 0 (fun n => rfl) ?_
            refine RP_cond (decide (c ≠ 0)) (fun n => rfl) (fun _ => ?_) (fun h => absurd (by assumption) (of_decide_eq_false h))
            show RP 59 _ 177 [(0, .int 3), (1, .int a), (2, .int 0), (3, .int c), (4, .int d)] [] _
            refine RP_done 4 (fun n => rfl) ?_
            exact ⟨rfl, rfl⟩
          · have h86 := of_decide_eq_false hh
            replace h86 := Decidable.of_not_not h86
            clear hh
            subst h86
            show RP 25 _ 168 [(0, .int 3), (1, .int a), (2, .int 0), (3, .int 0), (4, .int d)] [] _
            refine RP_step (pc1 := 170) (L1 := [(0, .int 3), (1, .int a), (2, .int 0), (3, .int 0), (4, .int d)]) (S1 := [.int d]) 1 0 (fun n => rfl) ?_
            refine RP_cond (decide (d ≠ 0)) (fun n => rfl) (fun hh => ?_) (fun hh => ?_)
            · have h87 := of_decide_eq_true hh
              show RP 25 _ 177 [(0, .int 3), (1, .int a), (2, .int 0), (3, .int 0), (4, .int d)] [] _
              refine RP_done 4 (fun n => rfl) ?_
              refine ⟨Or.inl rfl, rfl, ?_⟩
              show RP 59 _ 0 [(0, .int 3), (1, .int a), (2, .int 0), (3, .int 0), (4, .int d)] [] _
              refine RP_step (pc1 := 154) (L1 := [(0, .int 3), (1, .int a), (2, .int 0), (3, .int 0), (4, .int d)]) (S1 := [.int a]) 3 0 (fun n => rfl) ?_
              refine RP_call 57 [.int a] (fun n => rfl) ?_
              show RP 57 _ 0 [(0, .int a)] [] _
              refine RP_step (pc1 := 4) (L1 := [(0, .int a)]) (S1 := [.int 15, .int 0, .int a]) 3 0 (fun n => rfl) ?_
              refine RP_call 55 [.int a, .int 0, .int 15] (fun n => rfl) ?_
              show RP 55 _ 0 [(0, .int a), (1, .int 0), (2, .int 15)] [] _
              refine RP_step (pc1 := 2) (L1 := [(0, .int a), (1, .int 0), (2, .int 15)]) (S1 := [.int 0, .int a]) 2 0 (fun n => rfl) ?_
              refine RP_cond (decide (a < 0)) (fun n => rfl) (fun h => absurd (of_decide_eq_true h) (xi_nlt (x := a) (y := 0) (show 0 ≤ a.toInt by omega))) (fun _ => ?_)
              show RP 55 _ 5 [(0, .int a), (1, .int 0), (2, .int 15)] [] _
              refine RP_step (pc1 := 7) (L1 := [(0, .int a), (1, .int 0), (2, .int 15)]) (S1 := [.int 15, .int a]) 2 0 (fun n => rfl) ?_
              refine RP_cond (decide (15 < a)) (fun n => rfl) (fun h => absurd (of_decide_eq_true h) (xi_nlt (x := 15) (y := a) (show a.toInt ≤ 15 by omega))) (fun _ => ?_)
              show RP 55 _ 10 [(0, .int a), (1, .int 0), (2, .int 15)] [] _
              refine RP_done 5 (fun n => rfl) ?_
              refine Or.inr ⟨1, rfl, ?_⟩
              show RP 57 _ 7 [(0, .int a)] [.int 1] _
              refine RP_done 3 (fun n => rfl) ?_
              refine Or.inr ⟨1, rfl, ?_⟩
              show RP 59 _ 157 [(0, .int 3), (1, .int a), (2, .int 0), (3, .int 0), (4, .int d)] [.int 1] _
              refine RP_step (pc1 := 170) (L1 := [(0, .int 3), (1, .int a), (2, .int 0), (3, .int 0), (4, .int d)]) (S1 := [.int d]) 6 0 (fun n => rfl) ?_
              refine RP_cond (decide (d ≠ 0)) (fun n => rfl) (fun _ => ?_) (fun h => absurd (by assumption) (of_decide_eq_false h))
              show RP 59 _ 177 [(0, .int 3), (1, .int a), (2, .int 0), (3, .int 0), (4, .int d)] [] _
              refine RP_done 4 (fun n => rfl) ?_
              exact ⟨rfl, rfl⟩
            · have h88 := of_decide_eq_false hh
              replace h88 := Decidable.of_not_not h88
              clear hh
              subst h88
              show RP 25 _ 173 [(0, .int 3), (1, .int a), (2, .int 0), (3, .int 0), (4, .int 0)] [] _
              refine RP_done 5 (fun n => rfl) ?_
              refine ⟨Or.inr rfl, rfl, ?_⟩
              show RP 59 _ 0 [(0, .int 3), (1, .int a), (2, .int 0), (3, .int 0), (4, .int 0)] [] _
              refine RP_step (pc1 := 154) (L1 := [(0, .int 3), (1, .int a), (2, .int 0), (3, .int 0), (4, .int 0)]) (S1 := [.int a]) 3 0 (fun n => rfl) ?_
              refine RP_call 57 [.int a] (fun n => rfl) ?_
              show RP 57 _ 0 [(0, .int a)] [] _
              refine RP_step (pc1 := 4) (L1 := [(0, .int a)]) (S1 := [.int 15, .int 0, .int a]) 3 0 (fun n => rfl) ?_
              refine RP_call 55 [.int a, .int 0, .int 15] (fun n => rfl) ?_
              show RP 55 _ 0 [(0, .int a), (1, .int 0), (2, .int 15)] [] _
              refine RP_step (pc1 := 2) (L1 := [(0, .int a), (1, .int 0), (2, .int 15)]) (S1 := [.int 0, .int a]) 2 0 (fun n => rfl) ?_
              refine RP_cond (decide (a < 0)) (fun n => rfl) (fun h => absurd (of_decide_eq_true h) (xi_nlt (x := a) (y := 0) (show 0 ≤ a.toInt by omega))) (fun _ => ?_)
              show RP 55 _ 5 [(0, .int a), (1, .int 0), (2, .int 15)] [] _
              refine RP_step (pc1 := 7) (L1 := [(0, .int a), (1, .int 0), (2, .int 15)]) (S1 := [.int 15, .int a]) 2 0 (fun n => rfl) ?_
              refine RP_cond (decide (15 < a)) (fun n => rfl) (fun h => absurd (of_decide_eq_true h) (xi_nlt (x := 15) (y := a) (show a.toInt ≤ 15 by omega))) (fun _ => ?_)
              show RP 55 _ 10 [(0, .int a), (1, .int 0), (2, .int 15)] [] _
              refine RP_done 5 (fun n => rfl) ?_
              refine Or.inr ⟨1, rfl, ?_⟩
              show RP 57 _ 7 [(0, .int a)] [.int 1] _
              refine RP_done 3 (fun n => rfl) ?_
              refine Or.inr ⟨1, rfl, ?_⟩
              show RP 59 _ 157 [(0, .int 3), (1, .int a), (2, .int 0), (3, .int 0), (4, .int 0)] [.int 1] _
              refine RP_done 12 (fun n => rfl) ?_
              exact ⟨rfl, rfl⟩
  · skip
    show RP 25 _ 0 [(0, .int 4), (1, .int a), (2, .int b), (3, .int c), (4, .int d)] [] _
    refine RP_step (pc1 := 154) (L1 := [(0, .int 4), (1, .int a), (2, .int b), (3, .int c), (4, .int d)]) (S1 := [.int a]) 3 0 (fun n => rfl) ?_
    refine RP_call 23 [.int a] (fun n => rfl) ?_
    show RP 23 _ 0 [(0, .int a)] [] _
    refine RP_step (pc1 := 1) (L1 := [(0, .int a)]) (S1 := [.int a]) 1 0 (fun n => rfl) ?_
    refine RP_cond (decide (a < 0)) (fun n => rfl) (fun hh => ?_) (fun hh => ?_)
    · have h89 := of_decide_eq_true hh
      have h90 : a.toInt < 0 := xj_lt h89
      show RP 23 _ 14 [(0, .int a)] [] _
      refine RP_done 4 (fun n => rfl) ?_
      refine Or.inr ⟨0, rfl, ?_⟩
      show RP 25 _ 157 [(0, .int 4), (1, .int a), (2, .int b), (3, .int c), (4, .int d)] [.int 0] _
      refine RP_done 5 (fun n => rfl) ?_
      refine ⟨Or.inl rfl, rfl, ?_⟩
      show RP 59 _ 0 [(0, .int 4), (1, .int a), (2, .int b), (3, .int c), (4, .int d)] [] _
      refine RP_step (pc1 := 154) (L1 := [(0, .int 4), (1, .int a), (2, .int b), (3, .int c), (4, .int d)]) (S1 := [.int a]) 3 0 (fun n => rfl) ?_
      refine RP_call 57 [.int a] (fun n => rfl) ?_
      show RP 57 _ 0 [(0, .int a)] [] _
      refine RP_step (pc1 := 4) (L1 := [(0, .int a)]) (S1 := [.int 15, .int 0, .int a]) 3 0 (fun n => rfl) ?_
      refine RP_call 55 [.int a, .int 0, .int 15] (fun n => rfl) ?_
      show RP 55 _ 0 [(0, .int a), (1, .int 0), (2, .int 15)] [] _
      refine RP_step (pc1 := 2) (L1 := [(0, .int a), (1, .int 0), (2, .int 15)]) (S1 := [.int 0, .int a]) 2 0 (fun n => rfl) ?_
      refine RP_cond (decide (a < 0)) (fun n => rfl) (fun _ => ?_) (fun h => absurd (xi_lt (x := a) (y := 0) (show a.toInt < 0 by omega)) (of_decide_eq_false h))
      show RP 55 _ 14 [(0, .int a), (1, .int 0), (2, .int 15)] [] _
      refine RP_done 4 (fun n => rfl) ?_
      refine Or.inr ⟨0, rfl, ?_⟩
      show RP 57 _ 7 [(0, .int a)] [.int 0] _
      refine RP_done 3 (fun n => rfl) ?_
      refine Or.inr ⟨0, rfl, ?_⟩
      show RP 59 _ 157 [(0, .int 4), (1, .int a), (2, .int b), (3, .int c), (4, .int d)] [.int 0] _
      refine RP_done 5 (fun n => rfl) ?_
      exact ⟨rfl, rfl⟩
    · have h91 := of_decide_eq_false hh
      have h92 : 0 ≤ a.toInt := xj_nlt h91
      show RP 23 _ 4 [(0, .int a)] [] _
      refine RP_step (pc1 := 7) (L1 := [(0, .int a)]) (S1 := [.int 16, .int a]) 2 0 (fun n => rfl) ?_
      refine RP_cond (decide (16 ≤ a)) (fun n => rfl) (fun hh => ?_) (fun hh => ?_)
      · have h93 := of_decide_eq_true hh
        have h94 : 16 ≤ a.toInt := xj_le h93
        show RP 23 _ 14 [(0, .int a)] [] _
        refine RP_done 4 (fun n => rfl) ?_
        refine Or.inr ⟨0, rfl, ?_⟩
        show RP 25 _ 157 [(0, .int 4), (1, .int a), (2, .int b), (3, .int c), (4, .int d)] [.int 0] _
        refine RP_done 5 (fun n => rfl) ?_
        refine ⟨Or.inl rfl, rfl, ?_⟩
        show RP 59 _ 0 [(0, .int 4), (1, .int a), (2, .int b), (3, .int c), (4, .int d)] [] _
        refine RP_step (pc1 := 154) (L1 := [(0, .int 4), (1, .int a), (2, .int b), (3, .int c), (4, .int d)]) (S1 := [.int a]) 3 0 (fun n => rfl) ?_
        refine RP_call 57 [.int a] (fun n => rfl) ?_
        show RP 57 _ 0 [(0, .int a)] [] _
        refine RP_step (pc1 := 4) (L1 := [(0, .int a)]) (S1 := [.int 15, .int 0, .int a]) 3 0 (fun n => rfl) ?_
        refine RP_call 55 [.int a, .int 0, .int 15] (fun n => rfl) ?_
        show RP 55 _ 0 [(0, .int a), (1, .int 0), (2, .int 15)] [] _
        refine RP_step (pc1 := 2) (L1 := [(0, .int a), (1, .int 0), (2, .int 15)]) (S1 := [.int 0, .int a]) 2 0 (fun n => rfl) ?_
        refine RP_cond (decide (a < 0)) (fun n => rfl) (fun h => absurd (of_decide_eq_true h) (xi_nlt (x := a) (y := 0) (show 0 ≤ a.toInt by omega))) (fun _ => ?_)
        show RP 55 _ 5 [(0, .int a), (1, .int 0), (2, .int 15)] [] _
        refine RP_step (pc1 := 7) (L1 := [(0, .int a), (1, .int 0), (2, .int 15)]) (S1 := [.int 15, .int a]) 2 0 (fun n => rfl) ?_
        refine RP_cond (decide (15 < a)) (fun n => rfl) (fun _ => ?_) (fun h => absurd (xi_lt (x := 15) (y := a) (show 15 < a.toInt by omega)) (of_decide_eq_false h))
        show RP 55 _ 14 [(0, .int a), (1, .int 0), (2, .int 15)] [] _
        refine RP_done 4 (fun n => rfl) ?_
        refine Or.inr ⟨0, rfl, ?_⟩
        show RP 57 _ 7 [(0, .int a)] [.int 0] _
        refine RP_done 3 (fun n => rfl) ?_
        refine Or.inr ⟨0, rfl, ?_⟩
        show RP 59 _ 157 [(0, .int 4), (1, .int a), (2, .int b), (3, .int c), (4, .int d)] [.int 0] _
        refine RP_done 5 (fun n => rfl) ?_
        exact ⟨rfl, rfl⟩
      · have h95 := of_decide_eq_false hh
        have h96 : a.toInt < 16 := xj_nle h95
        show RP 23 _ 10 [(0, .int a)] [] _
        refine RP_done 5 (fun n => rfl) ?_
        refine Or.inr ⟨1, rfl, ?_⟩
        show RP 25 _ 157 [(0, .int 4), (1, .int a), (2, .int b), (3, .int c), (4, .int d)] [.int 1] _
        refine RP_step (pc1 := 161) (L1 := [(0, .int 4), (1, .int a), (2, .int b), (3, .int c), (4, .int d)]) (S1 := [.int b]) 2 0 (fun n => rfl) ?_
        refine RP_cond (decide (b ≠ 0)) (fun n => rfl) (fun hh => ?_) (fun hh => ?_)
        · have h97 := of_decide_eq_true hh
          show RP 25 _ 177 [(0, .int 4), (1, .int a), (2, .int b), (3, .int c), (4, .int d)] [] _
          refine RP_done 4 (fun n => rfl) ?_
          refine ⟨Or.inl rfl, rfl, ?_⟩
          show RP 59 _ 0 [(0, .int 4), (1, .int a), (2, .int b), (3, .int c), (4, .int d)] [] _
          refine RP_step (pc1 := 154) (L1 := [(0, .int 4), (1, .int a), (2, .int b), (3, .int c), (4, .int d)]) (S1 := [.int a]) 3 0 (fun n => rfl) ?_
          refine RP_call 57 [.int a] (fun n => rfl) ?_
          show RP 57 _ 0 [(0, .int a)] [] _
          refine RP_step (pc1 := 4) (L1 := [(0, .int a)]) (S1 := [.int 15, .int 0, .int a]) 3 0 (fun n => rfl) ?_
          refine RP_call 55 [.int a, .int 0, .int 15] (fun n => rfl) ?_
          show RP 55 _ 0 [(0, .int a), (1, .int 0), (2, .int 15)] [] _
          refine RP_step (pc1 := 2) (L1 := [(0, .int a), (1, .int 0), (2, .int 15)]) (S1 := [.int 0, .int a]) 2 0 (fun n => rfl) ?_
          refine RP_cond (decide (a < 0)) (fun n => rfl) (fun h => absurd (of_decide_eq_true h) (xi_nlt (x := a) (y := 0) (show 0 ≤ a.toInt by omega))) (fun _ => ?_)
          show RP 55 _ 5 [(0, .int a), (1, .int 0), (2, .int 15)] [] _
          refine RP_step (pc1 := 7) (L1 := [(0, .int a), (1, .int 0), (2, .int 15)]) (S1 := [.int 15, .int a]) 2 0 (fun n => rfl) ?_
          refine RP_cond (decide (15 < a)) (fun n => rfl) (fun h => absurd (of_decide_eq_true h) (xi_nlt (x := 15) (y := a) (show a.toInt ≤ 15 by omega))) (fun _ => ?_)
          show RP 55 _ 10 [(0, .int a), (1, .int 0), (2, .int 15)] [] _
          refine RP_done 5 (fun n => rfl) ?_
          refine Or.inr ⟨1, rfl, ?_⟩
          show RP 57 _ 7 [(0, .int a)] [.int 1] _
          refine RP_done 3 (fun n => rfl) ?_
          refine Or.inr ⟨1, rfl, ?_⟩
          show RP 59 _ 157 [(0, .int 4), (1, .int a), (2, .int b), (3, .int c), (4, .int d)] [.int 1] _
          refine RP_step (pc1 := 161) (L1 := [(0, .int 4), (1, .int a), (2, .int b), (3, .int c), (4, .int d)]) (S1 := [.int b]) 2 0 (fun n => rfl) ?_
          refine RP_cond (decide (b ≠ 0)) (fun n => rfl) (fun _ => ?_) (fun h => absurd (by assumption) (of_decide_eq_false h))
          show RP 59 _ 177 [(0, .int 4), (1, .int a), (2, .int b), (3, .int c), (4, .int d)] [] _
          refine RP_done 4 (fun n => rfl) ?_
          exact ⟨rfl, rfl⟩
        · have h98 := of_decide_eq_false hh
          replace h98 := Decidable.of_not_not h98
          clear hh
          subst h98
          show RP 25 _ 164 [(0, .int 4), (1, .int a), (2, .int 0), (3, .int c), (4, .int d)] [] _
          refine RP_step (pc1 := 165) (L1 := [(0, .int 4), (1, .int a), (2, .int 0), (3, .int c), (4, .int d)]) (S1 := [.int c]) 1 0 (fun n => rfl) ?_
          refine RP_cond (decide (c ≠ 0)) (fun n => rfl) (fun hh => ?_) (fun hh => ?_)
          · have h99 := of_decide_eq_true hh
            show RP 25 _ 177 [(0, .int 4), (1, .int a), (2, .int 0), (3, .int c), (4, .int d)] [] _
            refine RP_done 4 (fun n => rfl) ?_
            refine ⟨Or.inl rfl, rfl, ?_⟩
            show RP 59 _ 0 [(0, .int 4), (1, .int a), (2, .int 0), (3, .int c), (4, .int d)] [] _
            refine RP_step (pc1 := 154) (L1 := [(0, .int 4), (1, .int a), (2, .int 0), (3, .int c), (4, .int d)]) (S1 := [.int a]) 3 0 (fun n => rfl) ?_
            refine RP_call 57 [.int a] (fun n => rfl) ?_
            show RP 57 _ 0 [(0, .int a)] [] _
            refine RP_step (pc1 := 4) (L1 := [(0, .int a)]) (S1 := [.int 15, .int 0, .int a]) 3 0 (fun n => rfl) ?_
            refine RP_call 55 [.int a, .int 0, .int 15] (fun n => rfl) ?_
            show RP 55 _ 0 [(0, .int a), (1, .int 0), (2, .int 15)] [] _
            refine RP_step (pc1 := 2) (L1 := [(0, .int a), (1, .int 0), (2, .int 15)]) (S1 := [.int 0, .int a]) 2 0 (fun n => rfl) ?_
            refine RP_cond (decide (a < 0)) (fun n => rfl) (fun h => absurd (of_decide_eq_true h) (xi_nlt (x := a) (y := 0) (show 0 ≤ a.toInt by omega))) (fun _ => ?_)
            show RP 55 _ 5 [(0, .int a), (1, .int 0), (2, .int 15)] [] _
            refine RP_step (pc1 := 7) (L1 := [(0, .int a), (1, .int 0), (2, .int 15)]) (S1 := [.int 15, .int a]) 2 0 (fun n => rfl) ?_
            refine RP_cond (decide (15 < a)) (fun n => rfl) (fun h => absurd (of_decide_eq_true h) (xi_nlt (x := 15) (y := a) (show a.toInt ≤ 15 by omega))) (fun _ => ?_)
            show RP 55 _ 10 [(0, .int a), (1, .int 0), (2, .int 15)] [] _
            refine RP_done 5 (fun n => rfl) ?_
            refine Or.inr ⟨1, rfl, ?_⟩
            show RP 57 _ 7 [(0, .int a)] [.int 1] _
            refine RP_done 3 (fun n => rfl) ?_
            refine Or.inr ⟨1, rfl, ?_⟩
            show RP 59 _ 157 [(0, .int 4), (1, .int a), (2, .int 0), (3, .int c), (4, .int d)] [.int 1] _
            refine RP_step (pc1 := 165) (L1 := [(0, .int 4), (1, .int a), (2, .int 0), (3, .int c), (4, .int d)]) (S1 := [.int c]) 4 0 (fun n => rfl) ?_
            refine RP_cond (decide (c ≠ 0)) (fun n => rfl) (fun _ => ?_) (fun h => absurd (by assumption) (of_decide_eq_false h))
            show RP 59 _ 177 [(0, .int 4), (1, .int a), (2, .int 0), (3, .int c), (4, .int d)] [] _
            refine RP_done 4 (fun n => rfl) ?_
            exact ⟨rfl, rfl⟩
          · have h100 := of_decide_eq_false hh
            replace h100 := Decidable.of_not_not h100
            clear hh
            subst h100
            show RP 25 _ 168 [(0, .int 4), (1, .int a), (2, .int 0), (3, .int 0), (4, .int d)] [] _
            refine RP_step (pc1 := 170) (L1 := [(0, .int 4), (1, .int a), (2, .int 0), (3, .int 0), (4, .int d)]) (S1 := [.int d]) 1 0 (fun n => rfl) ?_
            refine RP_cond (decide (d ≠ 0)) (fun n => rfl) (fun hh => ?_) (fun hh => ?_)
            · have h101 := of_decide_eq_true hh
              show RP 25 _ 177 [(0, .int 4), (1, .int a), (2, .int 0), (3, .int 0), (4, .int d)] [] _
              refine RP_done 4 (fun n => rfl) ?_
              refine ⟨Or.inl rfl, rfl, ?_⟩
              show RP 59 _ 0 [(0, .int 4), (1, .int a), (2, .int 0), (3, .int 0), (4, .int d)] [] _
              refine RP_step (pc1 := 154) (L1 := [(0, .int 4), (1, .int a), (2, .int 0), (3, .int 0), (4, .int d)]) (S1 := [.int a]) 3 0 (fun n => rfl) ?_
              refine RP_call 57 [.int a] (fun n => rfl) ?_
              show RP 57 _ 0 [(0, .int a)] [] _
              refine RP_step (pc1 := 4) (L1 := [(0, .int a)]) (S1 := [.int 15, .int 0, .int a]) 3 0 (fun n => rfl) ?_
              refine RP_call 55 [.int a, .int 0, .int 15] (fun n => rfl) ?_
              show RP 55 _ 0 [(0, .int a), (1, .int 0), (2, .int 15)] [] _
              refine RP_step (pc1 := 2) (L1 := [(0, .int a), (1, .int 0), (2, .int 15)]) (S1 := [.int 0, .int a]) 2 0 (fun n => rfl) ?_
              refine RP_cond (decide (a < 0)) (fun n => rfl) (fun h => absurd (of_decide_eq_true h) (xi_nlt (x := a) (y := 0) (show 0 ≤ a.toInt by omega))) (fun _ => ?_)
              show RP 55 _ 5 [(0, .int a), (1, .int 0), (2, .int 15)] [] _
              refine RP_step (pc1 := 7) (L1 := [(0, .int a), (1, .int 0), (2, .int 15)]) (S1 := [.int 15, .int a]) 2 0 (fun n => rfl) ?_
              refine RP_cond (decide (15 < a)) (fun n => rfl) (fun h => absurd (of_decide_eq_true h) (xi_nlt (x := 15) (y := a) (show a.toInt ≤ 15 by omega))) (fun _ => ?_)
              show RP 55 _ 10 [(0, .int a), (1, .int 0), (2, .int 15)] [] _
              refine RP_done 5 (fun n => rfl) ?_
              refine Or.inr ⟨1, rfl, ?_⟩
              show RP 57 _ 7 [(0, .int a)] [.int 1] _
              refine RP_done 3 (fun n => rfl) ?_
              refine Or.inr ⟨1, rfl, ?_⟩
              show RP 59 _ 157 [(0, .int 4), (1, .int a), (2, .int 0), (3, .int 0), (4, .int d)] [.int 1] _
              refine RP_step (pc1 := 170) (L1 := [(0, .int 4), (1, .int a), (2, .int 0), (3, .int 0), (4, .int d)]) (S1 := [.int d]) 6 0 (fun n => rfl) ?_
              refine RP_cond (decide (d ≠ 0)) (fun n => rfl) (fun _ => ?_) (fun h => absurd (by assumption) (of_decide_eq_false h))
              show RP 59 _ 177 [(0, .int 4), (1, .int a), (2, .int 0), (3, .int 0), (4, .int d)] [] _
              refine RP_done 4 (fun n => rfl) ?_
              exact ⟨rfl, rfl⟩
            · have h102 := of_decide_eq_false hh
              replace h102 := Decidable.of_not_not h102
              clear hh
              subst h102
              show RP 25 _ 173 [(0, .int 4), (1, .int a), (2, .int 0), (3, .int 0), (4, .int 0)] [] _
              refine RP_done 5 (fun n => rfl) ?_
              refine ⟨Or.inr rfl, rfl, ?_⟩
              show RP 59 _ 0 [(0, .int 4), (1, .int a), (2, .int 0), (3, .int 0), (4, .int 0)] [] _
              refine RP_step (pc1 := 154) (L1 := [(0, .int 4), (1, .int a), (2, .int 0), (3, .int 0), (4, .int 0)]) (S1 := [.int a]) 3 0 (fun n => rfl) ?_
              refine RP_call 57 [.int a] (fun n => rfl) ?_
              show RP 57 _ 0 [(0, .int a)] [] _
              refine RP_step (pc1 := 4) (L1 := [(0, .int a)]) (S1 := [.int 15, .int 0, .int a]) 3 0 (fun n => rfl) ?_
              refine RP_call 55 [.int a, .int 0, .int 15] (fun n => rfl) ?_
              show RP 55 _ 0 [(0, .int a), (1, .int 0), (2, .int 15)] [] _
              refine RP_step (pc1 := 2) (L1 := [(0, .int a), (1, .int 0), (2, .int 15)]) (S1 := [.int 0, .int a]) 2 0 (fun n => rfl) ?_
              refine RP_cond (decide (a < 0)) (fun n => rfl) (fun h => absurd (of_decide_eq_true h) (xi_nlt (x := a) (y := 0) (show 0 ≤ a.toInt by omega))) (fun _ => ?_)
              show RP 55 _ 5 [(0, .int a), (1, .int 0), (2, .int 15)] [] _
              refine RP_step (pc1 := 7) (L1 := [(0, .int a), (1, .int 0), (2, .int 15)]) (S1 := [.int 15, .int a]) 2 0 (fun n => rfl) ?_
              refine RP_cond (decide (15 < a)) (fun n => rfl) (fun h => absurd (of_decide_eq_true h) (xi_nlt (x := 15) (y := a) (show a.toInt ≤ 15 by omega))) (fun _ => ?_)
              show RP 55 _ 10 [(0, .int a), (1, .int 0), (2, .int 15)] [] _
              refine RP_done 5 (fun n => rfl) ?_
              refine Or.inr ⟨1, rfl, ?_⟩
              show RP 57 _ 7 [(0, .int a)] [.int 1] _
              refine RP_done 3 (fun n => rfl) ?_
              refine Or.inr ⟨1, rfl, ?_⟩
              show RP 59 _ 157 [(0, .int 4), (1, .int a), (2, .int 0), (3, .int 0), (4, .int 0)] [.int 1] _
              refine RP_done 12 (fun n => rfl) ?_
              exact ⟨rfl, rfl⟩
  · skip
    show RP 25 _ 0 [(0, .int 5), (1, .int a), (2, .int b), (3, .int c), (4, .int d)] [] _
    refine RP_step (pc1 := 180) (L1 := [(0, .int 5), (1, .int a), (2, .int b), (3, .int c), (4, .int d)]) (S1 := [.int a]) 3 0 (fun n => rfl) ?_
    refine RP_call 23 [.int a] (fun n => rfl) ?_
    show RP 23 _ 0 [(0, .int a)] [] _
    refine RP_step (pc1 := 1) (L1 := [(0, .int a)]) (S1 := [.int a]) 1 0 (fun n => rfl) ?_
    refine RP_cond (decide (a < 0)) (fun n => rfl) (fun hh => ?_) (fun hh => ?_)
    · have h103 := of_decide_eq_true hh
      have h104 : a.toInt < 0 := xj_lt h103
      show RP 23 _ 14 [(0, .int a)] [] _
      refine RP_done 4 (fun n => rfl) ?_
      refine Or.inr ⟨0, rfl, ?_⟩
      show RP 25 _ 183 [(0, .int 5), (1, .int a), (2, .int b), (3, .int c), (4, .int d)] [.int 0] _
      refine RP_done 5 (fun n => rfl) ?_
      refine ⟨Or.inl rfl, rfl, ?_⟩
      show RP 59 _ 0 [(0, .int 5), (1, .int a), (2, .int b), (3, .int c), (4, .int d)] [] _
      refine RP_step (pc1 := 180) (L1 := [(0, .int 5), (1, .int a), (2, .int b), (3, .int c), (4, .int d)]) (S1 := [.int a]) 3 0 (fun n => rfl) ?_
      refine RP_call 57 [.int a] (fun n => rfl) ?_
      show RP 57 _ 0 [(0, .int a)] [] _
      refine RP_step (pc1 := 4) (L1 := [(0, .int a)]) (S1 := [.int 15, .int 0, .int a]) 3 0 (fun n => rfl) ?_
      refine RP_call 55 [.int a, .int 0, .int 15] (fun n => rfl) ?_
      show RP 55 _ 0 [(0, .int a), (1, .int 0), (2, .int 15)] [] _
      refine RP_step (pc1 := 2) (L1 := [(0, .int a), (1, .int 0), (2, .int 15)]) (S1 := [.int 0, .int a]) 2 0 (fun n => rfl) ?_
      refine RP_cond (decide (a < 0)) (fun n => rfl) (fun _ => ?_) (fun h => absurd (xi_lt (x := a) (y := 0) (show a.toInt < 0 by omega)) (of_decide_eq_false h))
      show RP 55 _ 14 [(0, .int a), (1, .int 0), (2, .int 15)] [] _
      refine RP_done 4 (fun n => rfl) ?_
      refine Or.inr ⟨0, rfl, ?_⟩
      show RP 57 _ 7 [(0, .int a)] [.int 0] _
      refine RP_done 3 (fun n => rfl) ?_
      refine Or.inr ⟨0, rfl, ?_⟩
      show RP 59 _ 183 [(0, .int 5), (1, .int a), (2, .int b), (3, .int c), (4, .int d)] [.int 0] _
      refine RP_done 5 (fun n => rfl) ?_
      exact ⟨rfl, rfl⟩
    · have h105 := of_decide_eq_false hh
      have h106 : 0 ≤ a.toInt := xj_nlt h105
      show RP 23 _ 4 [(0, .int a)] [] _
      refine RP_step (pc1 := 7) (L1 := [(0, .int a)]) (S1 := [.int 16, .int a]) 2 0 (fun n => rfl) ?_
      refine RP_cond (decide (16 ≤ a)) (fun n => rfl) (fun hh => ?_) (fun hh => ?_)
      · have h107 := of_decide_eq_true hh
        have h108 : 16 ≤ a.toInt := xj_le h107
        show RP 23 _ 14 [(0, .int a)] [] _
        refine RP_done 4 (fun n => rfl) ?_
        refine Or.inr ⟨0, rfl, ?_⟩
        show RP 25 _ 183 [(0, .int 5), (1, .int a), (2, .int b), (3, .int c), (4, .int d)] [.int 0] _
        refine RP_done 5 (fun n => rfl) ?_
        refine ⟨Or.inl rfl, rfl, ?_⟩
        show RP 59 _ 0 [(0, .int 5), (1, .int a), (2, .int b), (3, .int c), (4, .int d)] [] _
        refine RP_step (pc1 := 180) (L1 := [(0, .int 5), (1, .int a), (2, .int b), (3, .int c), (4, .int d)]) (S1 := [.int a]) 3 0 (fun n => rfl) ?_
        refine RP_call 57 [.int a] (fun n => rfl) ?_
        show RP 57 _ 0 [(0, .int a)] [] _
        refine RP_step (pc1 := 4) (L1 := [(0, .int a)]) (S1 := [.int 15, .int 0, .int a]) 3 0 (fun n => rfl) ?_
        refine RP_call 55 [.int a, .int 0, .int 15] (fun n => rfl) ?_
        show RP 55 _ 0 [(0, .int a), (1, .int 0), (2, .int 15)] [] _
        refine RP_step (pc1 := 2) (L1 := [(0, .int a), (1, .int 0), (2, .int 15)]) (S1 := [.int 0, .int a]) 2 0 (fun n => rfl) ?_
        refine RP_cond (decide (a < 0)) (fun n => rfl) (fun h => absurd (of_decide_eq_true h) (xi_nlt (x := a) (y := 0) (show 0 ≤ a.toInt by omega))) (fun _ => ?_)
        show RP 55 _ 5 [(0, .int a), (1, .int 0), (2, .int 15)] [] _
        refine RP_step (pc1 := 7) (L1 := [(0, .int a), (1, .int 0), (2, .int 15)]) (S1 := [.int 15, .int a]) 2 0 (fun n => rfl) ?_
        refine RP_cond (decide (15 < a)) (fun n => rfl) (fun _ => ?_) (fun h => absurd (xi_lt (x := 15) (y := a) (show 15 < a.toInt by omega)) (of_decide_eq_false h))
        show RP 55 _ 14 [(0, .int a), (1, .int 0), (2, .int 15)] [] _
        refine RP_done 4 (fun n => rfl) ?_
        refine Or.inr ⟨0, rfl, ?_⟩
        show RP 57 _ 7 [(0, .int a)] [.int 0] _
        refine RP_done 3 (fun n => rfl) ?_
        refine Or.inr ⟨0, rfl, ?_⟩
        show RP 59 _ 183 [(0, .int 5), (1, .int a), (2, .int b), (3, .int c), (4, .int d)] [.int 0] _
        refine RP_done 5 (fun n => rfl) ?_
        exact ⟨rfl, rfl⟩
      · have h109 := of_decide_eq_false hh
        have h110 : a.toInt < 16 := xj_nle h109
        show RP 23 _ 10 [(0, .int a)] [] _
        refine RP_done 5 (fun n => rfl) ?_
        refine Or.inr ⟨1, rfl, ?_⟩
        show RP 25 _ 183 [(0, .int 5), (1, .int a), (2, .int b), (3, .int c), (4, .int d)] [.int 1] _
        refine RP_step (pc1 := 189) (L1 := [(0, .int 5), (1, .int a), (2, .int b), (3, .int c), (4, .int d)]) (S1 := [.int (-30), .int b]) 3 0 (fun n => rfl) ?_
        refine RP_cond (decide (b < (-30))) (fun n => rfl) (fun hh => ?_) (fun hh => ?_)
        · have h111 := of_decide_eq_true hh
          have h112 : b.toInt < -30 := xj_lt h111
          show RP 25 _ 211 [(0, .int 5), (1, .int a), (2, .int b), (3, .int c), (4, .int d)] [] _
          refine RP_done 4 (fun n => rfl) ?_
          refine ⟨Or.inl rfl, rfl, ?_⟩
          show RP 59 _ 0 [(0, .int 5), (1, .int a), (2, .int b), (3, .int c), (4, .int d)] [] _
          refine RP_step (pc1 := 180) (L1 := [(0, .int 5), (1, .int a), (2, .int b), (3, .int c), (4, .int d)]) (S1 := [.int a]) 3 0 (fun n => rfl) ?_
          refine RP_call 57 [.int a] (fun n => rfl) ?_
          show RP 57 _ 0 [(0, .int a)] [] _
          refine RP_step (pc1 := 4) (L1 := [(0, .int a)]) (S1 := [.int 15, .int 0, .int a]) 3 0 (fun n => rfl) ?_
          refine RP_call 55 [.int a, .int 0, .int 15] (fun n => rfl) ?_
          show RP 55 _ 0 [(0, .int a), (1, .int 0), (2, .int 15)] [] _
          refine RP_step (pc1 := 2) (L1 := [(0, .int a), (1, .int 0), (2, .int 15)]) (S1 := [.int 0, .int a]) 2 0 (fun n => rfl) ?_
          refine RP_cond (decide (a < 0)) (fun n => rfl) (fun h => absurd (of_decide_eq_true h) (xi_nlt (x := a) (y := 0) (show 0 ≤ a.toInt by omega))) (fun _ => ?_)
          show RP 55 _ 5 [(0, .int a), (1, .int 0), (2, .int 15)] [] _
          refine RP_step (pc1 := 7) (L1 := [(0, .int a), (1, .int 0), (2, .int 15)]) (S1 := [.int 15, .int a]) 2 0 (fun n => rfl) ?_
          refine RP_cond (decide (15 < a)) (fun n => rfl) (fun h => absurd (of_decide_eq_true h) (xi_nlt (x := 15) (y := a) (show a.toInt ≤ 15 by omega))) (fun _ => ?_)
          show RP 55 _ 10 [(0, .int a), (1, .int 0), (2, .int 15)] [] _
          refine RP_done 5 (fun n => rfl) ?_
          refine Or.inr ⟨1, rfl, ?_⟩
          show RP 57 _ 7 [(0, .int a)] [.int 1] _
          refine RP_done 3 (fun n => rfl) ?_
          refine Or.inr ⟨1, rfl, ?_⟩
          show RP 59 _ 183 [(0, .int 5), (1, .int a), (2, .int b), (3, .int c), (4, .int d)] [.int 1] _
          refine RP_step (pc1 := 191) (L1 := [(0, .int 5), (1, .int a), (2, .int b), (3, .int c), (4, .int d)]) (S1 := [.int 30, .int (-30), .int b]) 4 0 (fun n => rfl) ?_
          refine RP_call 55 [.int b, .int (-30), .int 30] (fun n => rfl) ?_
          show RP 55 _ 0 [(0, .int b), (1, .int (-30)), (2, .int 30)] [] _
          refine RP_step (pc1 := 2) (L1 := [(0, .int b), (1, .int (-30)), (2, .int 30)]) (S1 := [.int (-30), .int b]) 2 0 (fun n => rfl) ?_
          refine RP_cond (decide (b < (-30))) (fun n => rfl) (fun _ => ?_) (fun h => absurd (xi_lt (x := b) (y := (-30)) (show b.toInt < -30 by omega)) (of_decide_eq_false h))
          show RP 55 _ 14 [(0, .int b), (1, .int (-30)), (2, .int 30)] [] _
          refine RP_done 4 (fun n => rfl) ?_
          refine Or.inr ⟨0, rfl, ?_⟩
          show RP 59 _ 194 [(0, .int 5), (1, .int a), (2, .int b), (3, .int c), (4, .int d)] [.int 0] _
          refine RP_done 5 (fun n => rfl) ?_
          exact ⟨rfl, rfl⟩
        · have h113 := of_decide_eq_false hh
          have h114 : -30 ≤ b.toInt := xj_nlt h113
          show RP 25 _ 192 [(0, .int 5), (1, .int a), (2, .int b), (3, .int c), (4, .int d)] [] _
          refine RP_step (pc1 := 195) (L1 := [(0, .int 5), (1, .int a), (2, .int b), (3, .int c), (4, .int d)]) (S1 := [.int 30, .int b]) 2 0 (fun n => rfl) ?_
          refine RP_cond (decide (30 < b)) (fun n => rfl) (fun hh => ?_) (fun hh => ?_)
          · have h115 := of_decide_eq_true hh
            have h116 : 30 < b.toInt := xj_lt h115
            show RP 25 _ 211 [(0, .int 5), (1, .int a), (2, .int b), (3, .int c), (4, .int d)] [] _
            refine RP_done 4 (fun n => rfl) ?_
            refine ⟨Or.inl rfl, rfl, ?_⟩
            show RP 59 _ 0 [(0, .int 5), (1, .int a), (2, .int b), (3, .int c), (4, .int d)] [] _
            refine RP_step (pc1 := 180) (L1 := [(0, .int 5), (1, .int a), (2, .int b), (3, .int c), (4, .int d)]) (S1 := [.int a]) 3 0 (fun n => rfl) ?_
            refine RP_call 57 [.int a] (fun n => rfl) ?_
            show RP 57 _ 0 [(0, .int a)] [] _
            refine RP_step (pc1 := 4) (L1 := [(0, .int a)]) (S1 := [.int 15, .int 0, .int a]) 3 0 (fun n => rfl) ?_
            refine RP_call 55 [.int a, .int 0, .int 15] (fun n => rfl) ?_
            show RP 55 _ 0 [(0, .int a), (1, .int 0), (2, .int 15)] [] _
            refine RP_step (pc1 := 2) (L1 := [(0, .int a), (1, .int 0), (2, .int 15)]) (S1 := [.int 0, .int a]) 2 0 (fun n => rfl) ?_
            refine RP_cond (decide (a < 0)) (fun n => rfl) (fun h => absurd (of_decide_eq_true h) (xi_nlt (x := a) (y := 0) (show 0 ≤ a.toInt by omega))) (fun _ => ?_)
            show RP 55 _ 5 [(0, .int a), (1, .int 0), (2, .int 15)] [] _
            refine RP_step (pc1 := 7) (L1 := [(0, .int a), (1, .int 0), (2, .int 15)]) (S1 := [.int 15, .int a]) 2 0 (fun n => rfl) ?_
            refine RP_cond (decide (15 < a)) (fun n => rfl) (fun h => absurd (of_decide_eq_true h) (xi_nlt (x := 15) (y := a) (show a.toInt ≤ 15 by omega))) (fun _ => ?_)
            show RP 55 _ 10 [(0, .int a), (1, .int 0), (2, .int 15)] [] _
            refine RP_done 5 (fun n => rfl) ?_
            refine Or.inr ⟨1, rfl, ?_⟩
            show RP 57 _ 7 [(0, .int a)] [.int 1] _
            refine RP_done 3 (fun n => rfl) ?_
            refine Or.inr ⟨1, rfl, ?_⟩
            show RP 59 _ 183 [(0, .int 5), (1, .int a), (2, .int b), (3, .int c), (4, .int d)] [.int 1] _
            refine RP_step (pc1 := 191) (L1 := [(0, .int 5), (1, .int a), (2, .int b), (3, .int c), (4, .int d)]) (S1 := [.int 30, .int (-30), .int b]) 4 0 (fun n => rfl) ?_
            refine RP_call 55 [.int b, .int (-30), .int 30] (fun n => rfl) ?_
            show RP 55 _ 0 [(0, .int b), (1, .int (-30)), (2, .int 30)] [] _
            refine RP_step (pc1 := 2) (L1 := [(0, .int b), (1, .int (-30)), (2, .int 30)]) (S1 := [.int (-30), .int b]) 2 0 (fun n => rfl) ?_
            refine RP_cond (decide (b < (-30))) (fun n => rfl) (fun h => absurd (of_decide_eq_true h) (xi_nlt (x := b) (y := (-30)) (show -30 ≤ b.toInt by omega))) (fun _ => ?_)
            show RP 55 _ 5 [(0, .int b), (1, .int (-30)), (2, .int 30)] [] _
            refine RP_step (pc1 := 7) (L1 := [(0, .int b), (1, .int (-30)), (2, .int 30)]) (S1 := [.int 30, .int b]) 2 0 (fun n => rfl) ?_
            refine RP_cond (decide (30 < b)) (fun n => rfl) (fun _ => ?_) (fun h => absurd (xi_lt (x := 30) (y := b) (show 30 < b.toInt by omega)) (of_decide_eq_false h))
            show RP 55 _ 14 [(0, .int b), (1, .int (-30)), (2, .int 30)] [] _
            refine RP_done 4 (fun n => rfl) ?_
            refine Or.inr ⟨0, rfl, ?_⟩
            show RP 59 _ 194 [(0, .int 5), (1, .int a), (2, .int b), (3, .int c), (4, .int d)] [.int 0] _
            refine RP_done 5 (fun n => rfl) ?_
            exact ⟨rfl, rfl⟩
          · have h117 := of_decide_eq_false hh
            have h118 : b.toInt ≤ 30 := xj_nlt h117
            show RP 25 _ 198 [(0, .int 5), (1, .int a), (2, .int b), (3, .int c), (4, .int d)] [] _
            refine RP_step (pc1 := 199) (L1 := [(0, .int 5), (1, .int a), (2, .int b), (3, .int c), (4, .int d)]) (S1 := [.int c]) 1 0 (fun n => rfl) ?_
            refine RP_cond (decide (c ≠ 0)) (fun n => rfl) (fun hh => ?_) (fun hh => ?_)
            · have h119 := of_decide_eq_true hh
              show RP 25 _ 211 [(0, .int 5), (1, .int a), (2, .int b), (3, .int c), (4, .int d)] [] _
              refine RP_done 4 (fun n => rfl) ?_
              refine ⟨Or.inl rfl, rfl, ?_⟩
              show RP 59 _ 0 [(0, .int 5), (1, .int a), (2, .int b), (3, .int c), (4, .int d)] [] _
              refine RP_step (pc1 := 180) (L1 := [(0, .int 5), (1, .int a), (2, .int b), (3, .int c), (4, .int d)]) (S1 := [.int a]) 3 0 (fun n => rfl) ?_
              refine RP_call 57 [.int a] (fun n => rfl) ?_
              show RP 57 _ 0 [(0, .int a)] [] _
              refine RP_step (pc1 := 4) (L1 := [(0, .int a)]) (S1 := [.int 15, .int 0, .int a]) 3 0 (fun n => rfl) ?_
              refine RP_call 55 [.int a, .int 0, .int 15] (fun n => rfl) ?_
              show RP 55 _ 0 [(0, .int a), (1, .int 0), (2, .int 15)] [] _
              refine RP_step (pc1 := 2) (L1 := [(0, .int a), (1, .int 0), (2, .int 15)]) (S1 := [.int 0, .int a]) 2 0 (fun n => rfl) ?_
              refine RP_cond (decide (a < 0)) (fun n => rfl) (fun h => absurd (of_decide_eq_true h) (xi_nlt (x := a) (y := 0) (show 0 ≤ a.toInt by omega))) (fun _ => ?_)
              show RP 55 _ 5 [(0, .int a), (1, .int 0), (2, .int 15)] [] _
              refine RP_step (pc1 := 7) (L1 := [(0, .int a), (1, .int 0), (2, .int 15)]) (S1 := [.int 15, .int a]) 2 0 (fun n => rfl) ?_
              refine RP_cond (decide (15 < a)) (fun n => rfl) (fun h => absurd (of_decide_eq_true h) (xi_nlt (x := 15) (y := a) (show a.toInt ≤ 15 by omega))) (fun _ => ?_)
              show RP 55 _ 10 [(0, .int a), (1, .int 0), (2, .int 15)] [] _
              refine RP_done 5 (fun n => rfl) ?_
              refine Or.inr ⟨1, rfl, ?_⟩
              show RP 57 _ 7 [(0, .int a)] [.int 1] _
              refine RP_done 3 (fun n => rfl) ?_
              refine Or.inr ⟨1, rfl, ?_⟩
              show RP 59 _ 183 [(0, .int 5), (1, .int a), (2, .int b), (3, .int c), (4, .int d)] [.int 1] _
              refine RP_step (pc1 := 191) (L1 := [(0, .int 5), (1, .int a), (2, .int b), (3, .int c), (4, .int d)]) (S1 := [.int 30, .int (-30), .int b]) 4 0 (fun n => rfl) ?_
              refine RP_call 55 [.int b, .int (-30), .int 30] (fun n => rfl) ?_
              show RP 55 _ 0 [(0, .int b), (1, .int (-30)), (2, .int 30)] [] _
              refine RP_step (pc1 := 2) (L1 := [(0, .int b), (1, .int (-30)), (2, .int 30)]) (S1 := [.int (-30), .int b]) 2 0 (fun n => rfl) ?_
              refine RP_cond (decide (b < (-30))) (fun n => rfl) (fun h => absurd (of_decide_eq_true h) (xi_nlt (x := b) (y := (-30)) (show -30 ≤ b.toInt by omega))) (fun _ => ?_)
              show RP 55 _ 5 [(0, .int b), (1, .int (-30)), (2, .int 30)] [] _
              refine RP_step (pc1 := 7) (L1 := [(0, .int b), (1, .int (-30)), (2, .int 30)]) (S1 := [.int 30, .int b]) 2 0 (fun n => rfl) ?_
              refine RP_cond (decide (30 < b)) (fun n => rfl) (fun h => absurd (of_decide_eq_true h) (xi_nlt (x := 30) (y := b) (show b.toInt ≤ 30 by omega))) (fun _ => ?_)
              show RP 55 _ 10 [(0, .int b), (1, .int (-30)), (2, .int 30)] [] _
              refine RP_done 5 (fun n => rfl) ?_
              refine Or.inr ⟨1, rfl, ?_⟩
              show RP 59 _ 194 [(0, .int 5), (1, .int a), (2, .int b), (3, .int c), (4, .int d)] [.int 1] _
              refine RP_step (pc1 := 198) (L1 := [(0, .int 5), (1, .int a), (2, .int b), (3, .int c), (4, .int d)]) (S1 := [.int c]) 2 0 (fun n => rfl) ?_
              refine RP_cond (decide (c ≠ 0)) (fun n => rfl) (fun _ => ?_) (fun h => absurd (by assumption) (of_decide_eq_false h))
              show RP 59 _ 210 [(0, .int 5), (1, .int a), (2, .int b), (3, .int c), (4, .int d)] [] _
              refine RP_done 4 (fun n => rfl) ?_
              exact ⟨rfl, rfl⟩
            · have h120 := of_decide_eq_false hh
              replace h120 := Decidable.of_not_not h120
              clear hh
              subst h120
              show RP 25 _ 202 [(0, .int 5), (1, .int a), (2, .int b), (3, .int 0), (4, .int d)] [] _
              refine RP_step (pc1 := 204) (L1 := [(0, .int 5), (1, .int a), (2, .int b), (3, .int 0), (4, .int d)]) (S1 := [.int d]) 1 0 (fun n => rfl) ?_
              refine RP_cond (decide (d ≠ 0)) (fun n => rfl) (fun hh => ?_) (fun hh => ?_)
              · have h121 := of_decide_eq_true hh
                show RP 25 _ 211 [(0, .int 5), (1, .int a), (2, .int b), (3, .int 0), (4, .int d)] [] _
                refine RP_done 4 (fun n => rfl) ?_
                refine ⟨Or.inl rfl, rfl, ?_⟩
                show RP 59 _ 0 [(0, .int 5), (1, .int a), (2, .int b), (3, .int 0), (4, .int d)] [] _
                refine RP_step (pc1 := 180) (L1 := [(0, .int 5), (1, .int a), (2, .int b), (3, .int 0), (4, .int d)]) (S1 := [.int a]) 3 0 (fun n => rfl) ?_
                refine RP_call 57 [.int a] (fun n => rfl) ?_
                show RP 57 _ 0 [(0, .int a)] [] _
                refine RP_step (pc1 := 4) (L1 := [(0, .int a)]) (S1 := [.int 15, .int 0, .int a]) 3 0 (fun n => rfl) ?_
                refine RP_call 55 [.int a, .int 0, .int 15] (fun n => rfl) ?_
                show RP 55 _ 0 [(0, .int a), (1, .int 0), (2, .int 15)] [] _
                refine RP_step (pc1 := 2) (L1 := [(0, .int a), (1, .int 0), (2, .int 15)]) (S1 := [.int 0, .int a]) 2 0 (fun n => rfl) ?_
                refine RP_cond (decide (a < 0)) (fun n => rfl) (fun h => absurd (of_decide_eq_true h) (xi_nlt (x := a) (y := 0) (show 0 ≤ a.toInt by omega))) (fun _ => ?_)
                show RP 55 _ 5 [(0, .int a), (1, .int 0), (2, .int 15)] [] _
                refine RP_step (pc1 := 7) (L1 := [(0, .int a), (1, .int 0), (2, .int 15)]) (S1 := [.int 15, .int a]) 2 0 (fun n => rfl) ?_
                refine RP_cond (decide (15 < a)) (fun n => rfl) (fun h => absurd (of_decide_eq_true h) (xi_nlt (x := 15) (y := a) (show a.toInt ≤ 15 by omega))) (fun _ => ?_)
                show RP 55 _ 10 [(0, .int a), (1, .int 0), (2, .int 15)] [] _
                refine RP_done 5 (fun n => rfl) ?_
                refine Or.inr ⟨1, rfl, ?_⟩
                show RP 57 _ 7 [(0, .int a)] [.int 1] _
                refine RP_done 3 (fun n => rfl) ?_
                refine Or.inr ⟨1, rfl, ?_⟩
                show RP 59 _ 183 [(0, .int 5), (1, .int a), (2, .int b), (3, .int 0), (4, .int d)] [.int 1] _
                refine RP_step (pc1 := 191) (L1 := [(0, .int 5), (1, .int a), (2, .int b), (3, .int 0), (4, .int d)]) (S1 := [.int 30, .int (-30), .int b]) 4 0 (fun n => rfl) ?_
                refine RP_call 55 [.int b, .int (-30), .int 30] (fun n => rfl) ?_
                show RP 55 _ 0 [(0, .int b), (1, .int (-30)), (2, .int 30)] [] _
                refine RP_step (pc1 := 2) (L1 := [(0, .int b), (1, .int (-30)), (2, .int 30)]) (S1 := [.int (-30), .int b]) 2 0 (fun n => rfl) ?_
                refine RP_cond (decide (b < (-30))) (fun n => rfl) (fun h => absurd (of_decide_eq_true h) (xi_nlt (x := b) (y := (-30)) (show -30 ≤ b.toInt by omega))) (fun _ => ?_)
                show RP 55 _ 5 [(0, .int b), (1, .int (-30)), (2, .int 30)] [] _
                refine RP_step (pc1 := 7) (L1 := [(0, .int b), (1, .int (-30)), (2, .int 30)]) (S1 := [.int 30, .int b]) 2 0 (fun n => rfl) ?_
                refine RP_cond (decide (30 < b)) (fun n => rfl) (fun h => absurd (of_decide_eq_true h) (xi_nlt (x := 30) (y := b) (show b.toInt ≤ 30 by omega))) (fun _ => ?_)
                show RP 55 _ 10 [(0, .int b), (1, .int (-30)), (2, .int 30)] [] _
                refine RP_done 5 (fun n => rfl) ?_
                refine Or.inr ⟨1, rfl, ?_⟩
                show RP 59 _ 194 [(0, .int 5), (1, .int a), (2, .int b), (3, .int 0), (4, .int d)] [.int 1] _
                refine RP_step (pc1 := 203) (L1 := [(0, .int 5), (1, .int a), (2, .int b), (3, .int 0), (4, .int d)]) (S1 := [.int d]) 4 0 (fun n => rfl) ?_
                refine RP_cond (decide (d ≠ 0)) (fun n => rfl) (fun _ => ?_) (fun h => absurd (by assumption) (of_decide_eq_false h))
                show RP 59 _ 210 [(0, .int 5), (1, .int a), (2, .int b), (3, .int 0), (4, .int d)] [] _
                refine RP_done 4 (fun n => rfl) ?_
                exact ⟨rfl, rfl⟩
              · have h122 := of_decide_eq_false hh
                replace h122 := Decidable.of_not_not h122
                clear hh
                subst h122
                show RP 25 _ 207 [(0, .int 5), (1, .int a), (2, .int b), (3, .int 0), (4, .int 0)] [] _
                refine RP_done 5 (fun n => rfl) ?_
                refine ⟨Or.inr rfl, rfl, ?_⟩
                show RP 59 _ 0 [(0, .int 5), (1, .int a), (2, .int b), (3, .int 0), (4, .int 0)] [] _
                refine RP_step (pc1 := 180) (L1 := [(0, .int 5), (1, .int a), (2, .int b), (3, .int 0), (4, .int 0)]) (S1 := [.int a]) 3 0 (fun n => rfl) ?_
                refine RP_call 57 [.int a] (fun n => rfl) ?_
                show RP 57 _ 0 [(0, .int a)] [] _
                refine RP_step (pc1 := 4) (L1 := [(0, .int a)]) (S1 := [.int 15, .int 0, .int a]) 3 0 (fun n => rfl) ?_
                refine RP_call 55 [.int a, .int 0, .int 15] (fun n => rfl) ?_
                show RP 55 _ 0 [(0, .int a), (1, .int 0), (2, .int 15)] [] _
                refine RP_step (pc1 := 2) (L1 := [(0, .int a), (1, .int 0), (2, .int 15)]) (S1 := [.int 0, .int a]) 2 0 (fun n => rfl) ?_
                refine RP_cond (decide (a < 0)) (fun n => rfl) (fun h => absurd (of_decide_eq_true h) (xi_nlt (x := a) (y := 0) (show 0 ≤ a.toInt by omega))) (fun _ => ?_)
                show RP 55 _ 5 [(0, .int a), (1, .int 0), (2, .int 15)] [] _
                refine RP_step (pc1 := 7) (L1 := [(0, .int a), (1, .int 0), (2, .int 15)]) (S1 := [.int 15, .int a]) 2 0 (fun n => rfl) ?_
                refine RP_cond (decide (15 < a)) (fun n => rfl) (fun h => absurd (of_decide_eq_true h) (xi_nlt (x := 15) (y := a) (show a.toInt ≤ 15 by omega))) (fun _ => ?_)
                show RP 55 _ 10 [(0, .int a), (1, .int 0), (2, .int 15)] [] _
                refine RP_done 5 (fun n => rfl) ?_
                refine Or.inr ⟨1, rfl, ?_⟩
                show RP 57 _ 7 [(0, .int a)] [.int 1] _
                refine RP_done 3 (fun n => rfl) ?_
                refine Or.inr ⟨1, rfl, ?_⟩
                show RP 59 _ 183 [(0, .int 5), (1, .int a), (2, .int b), (3, .int 0), (4, .int 0)] [.int 1] _
                refine RP_step (pc1 := 191) (L1 := [(0, .int 5), (1, .int a), (2, .int b), (3, .int 0), (4, .int 0)]) (S1 := [.int 30, .int (-30), .int b]) 4 0 (fun n => rfl) ?_
                refine RP_call 55 [.int b, .int (-30), .int 30] (fun n => rfl) ?_
                show RP 55 _ 0 [(0, .int b), (1, .int (-30)), (2, .int 30)] [] _
                refine RP_step (pc1 := 2) (L1 := [(0, .int b), (1, .int (-30)), (2, .int 30)]) (S1 := [.int (-30), .int b]) 2 0 (fun n => rfl) ?_
                refine RP_cond (decide (b < (-30))) (fun n => rfl) (fun h => absurd (of_decide_eq_true h) (xi_nlt (x := b) (y := (-30)) (show -30 ≤ b.toInt by omega))) (fun _ => ?_)
                show RP 55 _ 5 [(0, .int b), (1, .int (-30)), (2, .int 30)] [] _
                refine RP_step (pc1 := 7) (L1 := [(0, .int b), (1, .int (-30)), (2, .int 30)]) (S1 := [.int 30, .int b]) 2 0 (fun n => rfl) ?_
                refine RP_cond (decide (30 < b)) (fun n => rfl) (fun h => absurd (of_decide_eq_true h) (xi_nlt (x := 30) (y := b) (show b.toInt ≤ 30 by omega))) (fun _ => ?_)
                show RP 55 _ 10 [(0, .int b), (1, .int (-30)), (2, .int 30)] [] _
                refine RP_done 5 (fun n => rfl) ?_
                refine Or.inr ⟨1, rfl, ?_⟩
                show RP 59 _ 194 [(0, .int 5), (1, .int a), (2, .int b), (3, .int 0), (4, .int 0)] [.int 1] _
                refine RP_done 10 (fun n => rfl) ?_
                exact ⟨rfl, rfl⟩
  · skip
    show RP 25 _ 0 [(0, .int 6), (1, .int a), (2, .int b), (3, .int c), (4, .int d)] [] _
    refine RP_step (pc1 := 215) (L1 := [(0, .int 6), (1, .int a), (2, .int b), (3, .int c), (4, .int d)]) (S1 := [.int b, .int a]) 4 0 (fun n => rfl) ?_
    refine RP_call 24 [.int a, .int b] (fun n => rfl) ?_
    show RP 24 _ 0 [(0, .int a), (1, .int b)] [] _
    refine RP_step (pc1 := 1) (L1 := [(0, .int a), (1, .int b)]) (S1 := [.int a]) 1 0 (fun n => rfl) ?_
    refine RP_call 23 [.int a] (fun n => rfl) ?_
    show RP 23 _ 0 [(0, .int a)] [] _
    refine RP_step (pc1 := 1) (L1 := [(0, .int a)]) (S1 := [.int a]) 1 0 (fun n => rfl) ?_
    refine RP_cond (decide (a < 0)) (fun n => rfl) (fun hh => ?_) (fun hh => ?_)
    · have h123 := of_decide_eq_true hh
      have h124 : a.toInt < 0 := xj_lt h123
      show RP 23 _ 14 [(0, .int a)] [] _
      refine RP_done 4 (fun n => rfl) ?_
      refine Or.inr ⟨0, rfl, ?_⟩
      show RP 24 _ 4 [(0, .int a), (1, .int b)] [.int 0] _
      refine RP_done 5 (fun n => rfl) ?_
      refine Or.inr ⟨0, rfl, ?_⟩
      show RP 25 _ 218 [(0, .int 6), (1, .int a), (2, .int b), (3, .int c), (4, .int d)] [.int 0] _
      refine RP_done 5 (fun n => rfl) ?_
      refine ⟨Or.inl rfl, rfl, ?_⟩
      show RP 59 _ 0 [(0, .int 6), (1, .int a), (2, .int b), (3, .int c), (4, .int d)] [] _
      refine RP_step (pc1 := 214) (L1 := [(0, .int 6), (1, .int a), (2, .int b), (3, .int c), (4, .int d)]) (S1 := [.int b, .int a]) 4 0 (fun n => rfl) ?_
      refine RP_call 58 [.int a, .int b] (fun n => rfl) ?_
      show RP 58 _ 0 [(0, .int a), (1, .int b)] [] _
      refine RP_step (pc1 := 1) (L1 := [(0, .int a), (1, .int b)]) (S1 := [.int a]) 1 0 (fun n => rfl) ?_
      refine RP_call 57 [.int a] (fun n => rfl) ?_
      show RP 57 _ 0 [(0, .int a)] [] _
      refine RP_step (pc1 := 4) (L1 := [(0, .int a)]) (S1 := [.int 15, .int 0, .int a]) 3 0 (fun n => rfl) ?_
      refine RP_call 55 [.int a, .int 0, .int 15] (fun n => rfl) ?_
      show RP 55 _ 0 [(0, .int a), (1, .int 0), (2, .int 15)] [] _
      refine RP_step (pc1 := 2) (L1 := [(0, .int a), (1, .int 0), (2, .int 15)]) (S1 := [.int 0, .int a]) 2 0 (fun n => rfl) ?_
      refine RP_cond (decide (a < 0)) (fun n => rfl) (fun _ => ?_) (fun h => absurd (xi_lt (x := a) (y := 0) (show a.toInt < 0 by omega)) (of_decide_eq_false h))
      show RP 55 _ 14 [(0, .int a), (1, .int 0), (2, .int 15)] [] _
      refine RP_done 4 (fun n => rfl) ?_
      refine Or.inr ⟨0, rfl, ?_⟩
      show RP 57 _ 7 [(0, .int a)] [.int 0] _
      refine RP_done 3 (fun n => rfl) ?_
      refine Or.inr ⟨0, rfl, ?_⟩
      show RP 58 _ 4 [(0, .int a), (1, .int b)] [.int 0] _
      refine RP_done 5 (fun n => rfl) ?_
      refine Or.inr ⟨0, rfl, ?_⟩
      show RP 59 _ 217 [(0, .int 6), (1, .int a), (2, .int b), (3, .int c), (4, .int d)] [.int 0] _
      refine RP_done 5 (fun n => rfl) ?_
      exact ⟨rfl, rfl⟩
    · have h125 := of_decide_eq_false hh
      have h126 : 0 ≤ a.toInt := xj_nlt h125
      show RP 23 _ 4 [(0, .int a)] [] _
      refine RP_step (pc1 := 7) (L1 := [(0, .int a)]) (S1 := [.int 16, .int a]) 2 0 (fun n => rfl) ?_
      refine RP_cond (decide (16 ≤ a)) (fun n => rfl) (fun hh => ?_) (fun hh => ?_)
      · have h127 := of_decide_eq_true hh
        have h128 : 16 ≤ a.toInt := xj_le h127
        show RP 23 _ 14 [(0, .int a)] [] _
        refine RP_done 4 (fun n => rfl) ?_
        refine Or.inr ⟨0, rfl, ?_⟩
        show RP 24 _ 4 [(0, .int a), (1, .int b)] [.int 0] _
        refine RP_done 5 (fun n => rfl) ?_
        refine Or.inr ⟨0, rfl, ?_⟩
        show RP 25 _ 218 [(0, .int 6), (1, .int a), (2, .int b), (3, .int c), (4, .int d)] [.int 0] _
        refine RP_done 5 (fun n => rfl) ?_
        refine ⟨Or.inl rfl, rfl, ?_⟩
        show RP 59 _ 0 [(0, .int 6), (1, .int a), (2, .int b), (3, .int c), (4, .int d)] [] _
        refine RP_step (pc1 := 214) (L1 := [(0, .int 6), (1, .int a), (2, .int b), (3, .int c), (4, .int d)]) (S1 := [.int b, .int a]) 4 0 (fun n => rfl) ?_
        refine RP_call 58 [.int a, .int b] (fun n => rfl) ?_
        show RP 58 _ 0 [(0, .int a), (1, .int b)] [] _
        refine RP_step (pc1 := 1) (L1 := [(0, .int a), (1, .int b)]) (S1 := [.int a]) 1 0 (fun n => rfl) ?_
        refine RP_call 57 [.int a] (fun n => rfl) ?_
        show RP 57 _ 0 [(0, .int a)] [] _
        refine RP_step (pc1 := 4) (L1 := [(0, .int a)]) (S1 := [.int 15, .int 0, .int a]) 3 0 (fun n => rfl) ?_
        refine RP_call 55 [.int a, .int 0, .int 15] (fun n => rfl) ?_
        show RP 55 _ 0 [(0, .int a), (1, .int 0), (2, .int 15)] [] _
        refine RP_step (pc1 := 2) (L1 := [(0, .int a), (1, .int 0), (2, .int 15)]) (S1 := [.int 0, .int a]) 2 0 (fun n => rfl) ?_
        refine RP_cond (decide (a < 0)) (fun n => rfl) (fun h => absurd (of_decide_eq_true h) (xi_nlt (x := a) (y := 0) (show 0 ≤ a.toInt by omega))) (fun _ => ?_)
        show RP 55 _ 5 [(0, .int a), (1, .int 0), (2, .int 15)] [] _
        refine RP_step (pc1 := 7) (L1 := [(0, .int a), (1, .int 0), (2, .int 15)]) (S1 := [.int 15, .int a]) 2 0 (fun n => rfl) ?_
        refine RP_cond (decide (15 < a)) (fun n => rfl) (fun _ => ?_) (fun h => absurd (xi_lt (x := 15) (y := a) (show 15 < a.toInt by omega)) (of_decide_eq_false h))
        show RP 55 _ 14 [(0, .int a), (1, .int 0), (2, .int 15)] [] _
        refine RP_done 4 (fun n => rfl) ?_
        refine Or.inr ⟨0, rfl, ?_⟩
        show RP 57 _ 7 [(0, .int a)] [.int 0] _
        refine RP_done 3 (fun n => rfl) ?_
        refine Or.inr ⟨0, rfl, ?_⟩
        show RP 58 _ 4 [(0, .int a), (1, .int b)] [.int 0] _
        refine RP_done 5 (fun n => rfl) ?_
        refine Or.inr ⟨0, rfl, ?_⟩
        show RP 59 _ 217 [(0, .int 6), (1, .int a), (2, .int b), (3, .int c), (4, .int d)] [.int 0] _
        refine RP_done 5 (fun n => rfl) ?_
        exact ⟨rfl, rfl⟩
      · have h129 := of_decide_eq_false hh
        have h130 : a.toInt < 16 := xj_nle h129
        show RP 23 _ 10 [(0, .int a)] [] _
        refine RP_done 5 (fun n => rfl) ?_
        refine Or.inr ⟨1, rfl, ?_⟩
        show RP 24 _ 4 [(0, .int a), (1, .int b)] [.int 1] _
        refine RP_step (pc1 := 9) (L1 := [(0, .int a), (1, .int b)]) (S1 := [.int 1, .int b]) 3 0 (fun n => rfl) ?_
        refine RP_cond (decide (b < 1)) (fun n => rfl) (fun hh => ?_) (fun hh => ?_)
        · have h131 := of_decide_eq_true hh
          have h132 : b.toInt < 1 := xj_lt h131
          show RP 24 _ 30 [(0, .int a), (1, .int b)] [] _
          refine RP_done 4 (fun n => rfl) ?_
          refine Or.inr ⟨0, rfl, ?_⟩
          show RP 25 _ 218 [(0, .int 6), (1, .int a), (2, .int b), (3, .int c), (4, .int d)] [.int 0] _
          refine RP_done 5 (fun n => rfl) ?_
          refine ⟨Or.inl rfl, rfl, ?_⟩
          show RP 59 _ 0 [(0, .int 6), (1, .int a), (2, .int b), (3, .int c), (4, .int d)] [] _
          refine RP_step (pc1 := 214) (L1 := [(0, .int 6), (1, .int a), (2, .int b), (3, .int c), (4, .int d)]) (S1 := [.int b, .int a]) 4 0 (fun n => rfl) ?_
          refine RP_call 58 [.int a, .int b] (fun n => rfl) ?_
          show RP 58 _ 0 [(0, .int a), (1, .int b)] [] _
          refine RP_step (pc1 := 1) (L1 := [(0, .int a), (1, .int b)]) (S1 := [.int a]) 1 0 (fun n => rfl) ?_
          refine RP_call 57 [.int a] (fun n => rfl) ?_
          show RP 57 _ 0 [(0, .int a)] [] _
          refine RP_step (pc1 := 4) (L1 := [(0, .int a)]) (S1 := [.int 15, .int 0, .int a]) 3 0 (fun n => rfl) ?_
          refine RP_call 55 [.int a, .int 0, .int 15] (fun n => rfl) ?_
          show RP 55 _ 0 [(0, .int a), (1, .int 0), (2, .int 15)] [] _
          refine RP_step (pc1 := 2) (L1 := [(0, .int a), (1, .int 0), (2, .int 15)]) (S1 := [.int 0, .int a]) 2 0 (fun n => rfl) ?_
          refine RP_cond (decide (a < 0)) (fun n => rfl) (fun h => absurd (of_decide_eq_true h) (xi_nlt (x := a) (y := 0) (show 0 ≤ a.toInt by omega))) (fun _ => ?_)
          show RP 55 _ 5 [(0, .int a), (1, .int 0), (2, .int 15)] [] _
          refine RP_step (pc1 := 7) (L1 := [(0, .int a), (1, .int 0), (2, .int 15)]) (S1 := [.int 15, .int a]) 2 0 (fun n => rfl) ?_
          refine RP_cond (decide (15 < a)) (fun n => rfl) (fun h => absurd (of_decide_eq_true h) (xi_nlt (x := 15) (y := a) (show a.toInt ≤ 15 by omega))) (fun _ => ?_)
          show RP 55 _ 10 [(0, .int a), (1, .int 0), (2, .int 15)] [] _
          refine RP_done 5 (fun n => rfl) ?_
          refine Or.inr ⟨1, rfl, ?_⟩
          show RP 57 _ 7 [(0, .int a)] [.int 1] _
          refine RP_done 3 (fun n => rfl) ?_
          refine Or.inr ⟨1, rfl, ?_⟩
          show RP 58 _ 4 [(0, .int a), (1, .int b)] [.int 1] _
          refine RP_step (pc1 := 11) (L1 := [(0, .int a), (1, .int b)]) (S1 := [.int 8, .int 1, .int b]) 4 0 (fun n => rfl) ?_
          refine RP_call 55 [.int b, .int 1, .int 8] (fun n => rfl) ?_
          show RP 55 _ 0 [(0, .int b), (1, .int 1), (2, .int 8)] [] _
          refine RP_step (pc1 := 2) (L1 := [(0, .int b), (1, .int 1), (2, .int 8)]) (S1 := [.int 1, .int b]) 2 0 (fun n => rfl) ?_
          refine RP_cond (decide (b < 1)) (fun n => rfl) (fun _ => ?_) (fun h => absurd (xi_lt (x := b) (y := 1) (show b.toInt < 1 by omega)) (of_decide_eq_false h))
          show RP 55 _ 14 [(0, .int b), (1, .int 1), (2, .int 8)] [] _
          refine RP_done 4 (fun n => rfl) ?_
          refine Or.inr ⟨0, rfl, ?_⟩
          show RP 58 _ 14 [(0, .int a), (1, .int b)] [.int 0] _
          refine RP_done 5 (fun n => rfl) ?_
          refine Or.inr ⟨0, rfl, ?_⟩
          show RP 59 _ 217 [(0, .int 6), (1, .int a), (2, .int b), (3, .int c), (4, .int d)] [.int 0] _
          refine RP_done 5 (fun n => rfl) ?_
          exact ⟨rfl, rfl⟩
        · have h133 := of_decide_eq_false hh
          have h134 : 1 ≤ b.toInt := xj_nlt h133
          show RP 24 _ 12 [(0, .int a), (1, .int b)] [] _
          refine RP_step (pc1 := 15) (L1 := [(0, .int a), (1, .int b)]) (S1 := [.int 8, .int b]) 2 0 (fun n => rfl) ?_
          refine RP_cond (decide (8 < b)) (fun n => rfl) (fun hh => ?_) (fun hh => ?_)
          · have h135 := of_decide_eq_true hh
            have h136 : 8 < b.toInt := xj_lt h135
            show RP 24 _ 30 [(0, .int a), (1, .int b)] [] _
            refine RP_done 4 (fun n => rfl) ?_
            refine Or.inr ⟨0, rfl, ?_⟩
            show RP 25 _ 218 [(0, .int 6), (1, .int a), (2, .int b), (3, .int c), (4, .int d)] [.int 0] _
            refine RP_done 5 (fun n => rfl) ?_
            refine ⟨Or.inl rfl, rfl, ?_⟩
            show RP 59 _ 0 [(0, .int 6), (1, .int a), (2, .int b), (3, .int c), (4, .int d)] [] _
            refine RP_step (pc1 := 214) (L1 := [(0, .int 6), (1, .int a), (2, .int b), (3, .int c), (4, .int d)]) (S1 := [.int b, .int a]) 4 0 (fun n => rfl) ?_
            refine RP_call 58 [.int a, .int b] (fun n => rfl) ?_
            show RP 58 _ 0 [(0, .int a), (1, .int b)] [] _
            refine RP_step (pc1 := 1) (L1 := [(0, .int a), (1, .int b)]) (S1 := [.int a]) 1 0 (fun n => rfl) ?_
            refine RP_call 57 [.int a] (fun n => rfl) ?_
            show RP 57 _ 0 [(0, .int a)] [] _
            refine RP_step (pc1 := 4) (L1 := [(0, .int a)]) (S1 := [.int 15, .int 0, .int a]) 3 0 (fun n => rfl) ?_
            refine RP_call 55 [.int a, .int 0, .int 15] (fun n => rfl) ?_
            show RP 55 _ 0 [(0, .int a), (1, .int 0), (2, .int 15)] [] _
            refine RP_step (pc1 := 2) (L1 := [(0, .int a), (1, .int 0), (2, .int 15)]) (S1 := [.int 0, .int a]) 2 0 (fun n => rfl) ?_
            refine RP_cond (decide (a < 0)) (fun n => rfl) (fun h => absurd (of_decide_eq_true h) (xi_nlt (x := a) (y := 0) (show 0 ≤ a.toInt by omega))) (fun _ => ?_)
            show RP 55 _ 5 [(0, .int a), (1, .int 0), (2, .int 15)] [] _
            refine RP_step (pc1 := 7) (L1 := [(0, .int a), (1, .int 0), (2, .int 15)]) (S1 := [.int 15, .int a]) 2 0 (fun n => rfl) ?_
            refine RP_cond (decide (15 < a)) (fun n => rfl) (fun h => absurd (of_decide_eq_true h) (xi_nlt (x := 15) (y := a) (show a.toInt ≤ 15 by omega))) (fun _ => ?_)
            show RP 55 _ 10 [(0, .int a), (1, .int 0), (2, .int 15)] [] _
            refine RP_done 5 (fun n => rfl) ?_
            refine Or.inr ⟨1, rfl, ?_⟩
            show RP 57 _ 7 [(0, .int a)] [.int 1] _
            refine RP_done 3 (fun n => rfl) ?_
            refine Or.inr ⟨1, rfl, ?_⟩
            show RP 58 _ 4 [(0, .int a), (1, .int b)] [.int 1] _
            refine RP_step (pc1 := 11) (L1 := [(0, .int a), (1, .int b)]) (S1 := [.int 8, .int 1, .int b]) 4 0 (fun n => rfl) ?_
            refine RP_call 55 [.int b, .int 1, .int 8] (fun n => rfl) ?_
            show RP 55 _ 0 [(0, .int b), (1, .int 1), (2, .int 8)] [] _
            refine RP_step (pc1 := 2) (L1 := [(0, .int b), (1, .int 1), (2, .int 8)]) (S1 := [.int 1, .int b]) 2 0 (fun n => rfl) ?_
            refine RP_cond (decide (b < 1)) (fun n => rfl) (fun h => absurd (of_decide_eq_true h) (xi_nlt (x := b) (y := 1) (show 1 ≤ b.toInt by omega))) (fun _ => ?_)
            show RP 55 _ 5 [(0, .int b), (1, .int 1), (2, .int 8)] [] _
            refine RP_step (pc1 := 7) (L1 := [(0, .int b), (1, .int 1), (2, .int 8)]) (S1 := [.int 8, .int b]) 2 0 (fun n => rfl) ?_
            refine RP_cond (decide (8 < b)) (fun n => rfl) (fun _ => ?_) (fun h => absurd (xi_lt (x := 8) (y := b) (show 8 < b.toInt by omega)) (of_decide_eq_false h))
            show RP 55 _ 14 [(0, .int b), (1, .int 1), (2, .int 8)] [] _
            refine RP_done 4 (fun n => rfl) ?_
            refine Or.inr ⟨0, rfl, ?_⟩
            show RP 58 _ 14 [(0, .int a), (1, .int b)] [.int 0] _
            refine RP_done 5 (fun n => rfl) ?_
            refine Or.inr ⟨0, rfl, ?_⟩
            show RP 59 _ 217 [(0, .int 6), (1, .int a), (2, .int b), (3, .int c), (4, .int d)] [.int 0] _
            refine RP_done 5 (fun n => rfl) ?_
            exact ⟨rfl, rfl⟩
          · have h137 := of_decide_eq_false hh
            have h138 : b.toInt ≤ 8 := xj_nlt h137
            show RP 24 _ 18 [(0, .int a), (1, .int b)] [] _
            refine RP_step (pc1 := 20) (L1 := [(0, .int a), (1, .int b)]) (S1 := [.int b, .int a]) 2 0 (fun n => rfl) ?_
            refine RP_bin (fun x y => x + y) (fun n => rfl) ?_
            show RP 24 _ 21 [(0, .int a), (1, .int b)] [.int (a + b)] _
            refine RP_step (pc1 := 23) (L1 := [(0, .int a), (1, .int b)]) (S1 := [.int 16, .int (a + b)]) 1 0 (fun n => rfl) ?_
            refine RP_cond (decide (16 < (a + b))) (fun n => rfl) (fun hh => ?_) (fun hh => ?_)
            · have h139 := of_decide_eq_true hh
              have h140 : 16 < (a + b).toInt := xj_lt h139
              show RP 24 _ 30 [(0, .int a), (1, .int b)] [] _
              refine RP_done 4 (fun n => rfl) ?_
              refine Or.inr ⟨0, rfl, ?_⟩
              show RP 25 _ 218 [(0, .int 6), (1, .int a), (2, .int b), (3, .int c), (4, .int d)] [.int 0] _
              refine RP_done 5 (fun n => rfl) ?_
              refine ⟨Or.inl rfl, rfl, ?_⟩
              show RP 59 _ 0 [(0, .int 6), (1, .int a), (2, .int b), (3, .int c), (4, .int d)] [] _
              refine RP_step (pc1 := 214) (L1 := [(0, .int 6), (1, .int a), (2, .int b), (3, .int c), (4, .int d)]) (S1 := [.int b, .int a]) 4 0 (fun n => rfl) ?_
              refine RP_call 58 [.int a, .int b] (fun n => rfl) ?_
              show RP 58 _ 0 [(0, .int a), (1, .int b)] [] _
              refine RP_step (pc1 := 1) (L1 := [(0, .int a), (1, .int b)]) (S1 := [.int a]) 1 0 (fun n => rfl) ?_
              refine RP_call 57 [.int a] (fun n => rfl) ?_
              show RP 57 _ 0 [(0, .int a)] [] _
              refine RP_step (pc1 := 4) (L1 := [(0, .int a)]) (S1 := [.int 15, .int 0, .int a]) 3 0 (fun n => rfl) ?_
              refine RP_call 55 [.int a, .int 0, .int 15] (fun n => rfl) ?_
              show RP 55 _ 0 [(0, .int a), (1, .int 0), (2, .int 15)] [] _
              refine RP_step (pc1 := 2) (L1 := [(0, .int a), (1, .int 0), (2, .int 15)]) (S1 := [.int 0, .int a]) 2 0 (fun n => rfl) ?_
              refine RP_cond (decide (a < 0)) (fun n => rfl) (fun h => absurd (of_decide_eq_true h) (xi_nlt (x := a) (y := 0) (show 0 ≤ a.toInt by omega))) (fun _ => ?_)
              show RP 55 _ 5 [(0, .int a), (1, .int 0), (2, .int 15)] [] _
              refine RP_step (pc1 := 7) (L1 := [(0, .int a), (1, .int 0), (2, .int 15)]) (S1 := [.int 15, .int a]) 2 0 (fun n => rfl) ?_
              refine RP_cond (decide (15 < a)) (fun n => rfl) (fun h => absurd (of_decide_eq_true h) (xi_nlt (x := 15) (y := a) (show a.toInt ≤ 15 by omega))) (fun _ => ?_)
              show RP 55 _ 10 [(0, .int a), (1, .int 0), (2, .int 15)] [] _
              refine RP_done 5 (fun n => rfl) ?_
              refine Or.inr ⟨1, rfl, ?_⟩
              show RP 57 _ 7 [(0, .int a)] [.int 1] _
              refine RP_done 3 (fun n => rfl) ?_
              refine Or.inr ⟨1, rfl, ?_⟩
              show RP 58 _ 4 [(0, .int a), (1, .int b)] [.int 1] _
              refine RP_step (pc1 := 11) (L1 := [(0, .int a), (1, .int b)]) (S1 := [.int 8, .int 1, .int b]) 4 0 (fun n => rfl) ?_
              refine RP_call 55 [.int b, .int 1, .int 8] (fun n => rfl) ?_
              show RP 55 _ 0 [(0, .int b), (1, .int 1), (2, .int 8)] [] _
              refine RP_step (pc1 := 2) (L1 := [(0, .int b), (1, .int 1), (2, .int 8)]) (S1 := [.int 1, .int b]) 2 0 (fun n => rfl) ?_
              refine RP_cond (decide (b < 1)) (fun n => rfl) (fun h => absurd (of_decide_eq_true h) (xi_nlt (x := b) (y := 1) (show 1 ≤ b.toInt by omega))) (fun _ => ?_)
              show RP 55 _ 5 [(0, .int b), (1, .int 1), (2, .int 8)] [] _
              refine RP_step (pc1 := 7) (L1 := [(0, .int b), (1, .int 1), (2, .int 8)]) (S1 := [.int 8, .int b]) 2 0 (fun n => rfl) ?_
              refine RP_cond (decide (8 < b)) (fun n => rfl) (fun h => absurd (of_decide_eq_true h) (xi_nlt (x := 8) (y := b) (show b.toInt ≤ 8 by omega))) (fun _ => ?_)
              show RP 55 _ 10 [(0, .int b), (1, .int 1), (2, .int 8)] [] _
              refine RP_done 5 (fun n => rfl) ?_
              refine Or.inr ⟨1, rfl, ?_⟩
              show RP 58 _ 14 [(0, .int a), (1, .int b)] [.int 1] _
              refine RP_step (pc1 := 19) (L1 := [(0, .int a), (1, .int b)]) (S1 := [.int b, .int a]) 3 0 (fun n => rfl) ?_
              refine RP_bin (fun x y => x + y) (fun n => rfl) ?_
              show RP 58 _ 20 [(0, .int a), (1, .int b)] [.int (a + b)] _
              refine RP_step (pc1 := 22) (L1 := [(0, .int a), (1, .int b)]) (S1 := [.int 16, .int (a + b)]) 1 0 (fun n => rfl) ?_
              refine RP_cond (decide (16 < (a + b))) (fun n => rfl) (fun _ => ?_) (fun h => absurd (xi_lt (x := 16) (y := (a + b)) (show 16 < (a + b).toInt by omega)) (of_decide_eq_false h))
              show RP 58 _ 29 [(0, .int a), (1, .int b)] [] _
              refine RP_done 4 (fun n => rfl) ?_
              refine Or.inr ⟨0, rfl, ?_⟩
              show RP 59 _ 217 [(0, .int 6), (1, .int a), (2, .int b), (3, .int c), (4, .int d)] [.int 0] _
              refine RP_done 5 (fun n => rfl) ?_
              exact ⟨rfl, rfl⟩
            · have h141 := of_decide_eq_false hh
              have h142 : (a + b).toInt ≤ 16 := xj_nlt h141
              show RP 24 _ 26 [(0, .int a), (1, .int b)] [] _
              refine RP_done 5 (fun n => rfl) ?_
              refine Or.inr ⟨1, rfl, ?_⟩
              show RP 25 _ 218 [(0, .int 6), (1, .int a), (2, .int b), (3, .int c), (4, .int d)] [.int 1] _
              refine RP_step (pc1 := 222) (L1 := [(0, .int 6), (1, .int a), (2, .int b), (3, .int c), (4, .int d)]) (S1 := [.int c]) 2 0 (fun n => rfl) ?_
              refine RP_call 23 [.int c] (fun n => rfl) ?_
              show RP 23 _ 0 [(0, .int c)] [] _
              refine RP_step (pc1 := 1) (L1 := [(0, .int c)]) (S1 := [.int c]) 1 0 (fun n => rfl) ?_
              refine RP_cond (decide (c < 0)) (fun n => rfl) (fun hh => ?_) (fun hh => ?_)
              · have h143 := of_decide_eq_true hh
                have h144 : c.toInt < 0 := xj_lt h143
                show RP 23 _ 14 [(0, .int c)] [] _
                refine RP_done 4 (fun n => rfl) ?_
                refine Or.inr ⟨0, rfl, ?_⟩
                show RP 25 _ 225 [(0, .int 6), (1, .int a), (2, .int b), (3, .int c), (4, .int d)] [.int 0] _
                refine RP_done 5 (fun n => rfl) ?_
                refine ⟨Or.inl rfl, rfl, ?_⟩
                show RP 59 _ 0 [(0, .int 6), (1, .int a), (2, .int b), (3, .int c), (4, .int d)] [] _
                refine RP_step (pc1 := 214) (L1 := [(0, .int 6), (1, .int a), (2, .int b), (3, .int c), (4, .int d)]) (S1 := [.int b, .int a]) 4 0 (fun n => rfl) ?_
                refine RP_call 58 [.int a, .int b] (fun n => rfl) ?_
                show RP 58 _ 0 [(0, .int a), (1, .int b)] [] _
                refine RP_step (pc1 := 1) (L1 := [(0, .int a), (1, .int b)]) (S1 := [.int a]) 1 0 (fun n => rfl) ?_
                refine RP_call 57 [.int a] (fun n => rfl) ?_
                show RP 57 _ 0 [(0, .int a)] [] _
                refine RP_step (pc1 := 4) (L1 := [(0, .int a)]) (S1 := [.int 15, .int 0, .int a]) 3 0 (fun n => rfl) ?_
                refine RP_call 55 [.int a, .int 0, .int 15] (fun n => rfl) ?_
                show RP 55 _ 0 [(0, .int a), (1, .int 0), (2, .int 15)] [] _
                refine RP_step (pc1 := 2) (L1 := [(0, .int a), (1, .int 0), (2, .int 15)]) (S1 := [.int 0, .int a]) 2 0 (fun n => rfl) ?_
                refine RP_cond (decide (a < 0)) (fun n => rfl) (fun h => absurd (of_decide_eq_true h) (xi_nlt (x := a) (y := 0) (show 0 ≤ a.toInt by omega))) (fun _ => ?_)
                show RP 55 _ 5 [(0, .int a), (1, .int 0), (2, .int 15)] [] _
                refine RP_step (pc1 := 7) (L1 := [(0, .int a), (1, .int 0), (2, .int 15)]) (S1 := [.int 15, .int a]) 2 0 (fun n => rfl) ?_
                refine RP_cond (decide (15 < a)) (fun n => rfl) (fun h => absurd (of_decide_eq_true h) (xi_nlt (x := 15) (y := a) (show a.toInt ≤ 15 by omega))) (fun _ => ?_)
                show RP 55 _ 10 [(0, .int a), (1, .int 0), (2, .int 15)] [] _
                refine RP_done 5 (fun n => rfl) ?_
                refine Or.inr ⟨1, rfl, ?_⟩
                show RP 57 _ 7 [(0, .int a)] [.int 1] _
                refine RP_done 3 (fun n => rfl) ?_
                refine Or.inr ⟨1, rfl, ?_⟩
                show RP 58 _ 4 [(0, .int a), (1, .int b)] [.int 1] _
                refine RP_step (pc1 := 11) (L1 := [(0, .int a), (1, .int b)]) (S1 := [.int 8, .int 1, .int b]) 4 0 (fun n => rfl) ?_
                refine RP_call 55 [.int b, .int 1, .int 8] (fun n => rfl) ?_
                show RP 55 _ 0 [(0, .int b), (1, .int 1), (2, .int 8)] [] _
                refine RP_step (pc1 := 2) (L1 := [(0, .int b), (1, .int 1), (2, .int 8)]) (S1 := [.int 1, .int b]) 2 0 (fun n => rfl) ?_
                refine RP_cond (decide (b < 1)) (fun n => rfl) (fun h => absurd (of_decide_eq_true h) (xi_nlt (x := b) (y := 1) (show 1 ≤ b.toInt by omega))) (fun _ => ?_)
                show RP 55 _ 5 [(0, .int b), (1, .int 1), (2, .int 8)] [] _
                refine RP_step (pc1 := 7) (L1 := [(0, .int b), (1, .int 1), (2, .int 8)]) (S1 := [.int 8, .int b]) 2 0 (fun n => rfl) ?_
                refine RP_cond (decide (8 < b)) (fun n => rfl) (fun h => absurd (of_decide_eq_true h) (xi_nlt (x := 8) (y := b) (show b.toInt ≤ 8 by omega))) (fun _ => ?_)
                show RP 55 _ 10 [(0, .int b), (1, .int 1), (2, .int 8)] [] _
                refine RP_done 5 (fun n => rfl) ?_
                refine Or.inr ⟨1, rfl, ?_⟩
                show RP 58 _ 14 [(0, .int a), (1, .int b)] [.int 1] _
                refine RP_step (pc1 := 19) (L1 := [(0, .int a), (1, .int b)]) (S1 := [.int b, .int a]) 3 0 (fun n => rfl) ?_
                refine RP_bin (fun x y => x + y) (fun n => rfl) ?_
                show RP 58 _ 20 [(0, .int a), (1, .int b)] [.int (a + b)] _
                refine RP_step (pc1 := 22) (L1 := [(0, .int a), (1, .int b)]) (S1 := [.int 16, .int (a + b)]) 1 0 (fun n => rfl) ?_
                refine RP_cond (decide (16 < (a + b))) (fun n => rfl) (fun h => absurd (of_decide_eq_true h) (xi_nlt (x := 16) (y := (a + b)) (show (a + b).toInt ≤ 16 by omega))) (fun _ => ?_)
                show RP 58 _ 25 [(0, .int a), (1, .int b)] [] _
                refine RP_done 5 (fun n => rfl) ?_
                refine Or.inr ⟨1, rfl, ?_⟩
                show RP 59 _ 217 [(0, .int 6), (1, .int a), (2, .int b), (3, .int c), (4, .int d)] [.int 1] _
                refine RP_step (pc1 := 221) (L1 := [(0, .int 6), (1, .int a), (2, .int b), (3, .int c), (4, .int d)]) (S1 := [.int c]) 2 0 (fun n => rfl) ?_
                refine RP_call 57 [.int c] (fun n => rfl) ?_
                show RP 57 _ 0 [(0, .int c)] [] _
                refine RP_step (pc1 := 4) (L1 := [(0, .int c)]) (S1 := [.int 15, .int 0, .int c]) 3 0 (fun n => rfl) ?_
                refine RP_call 55 [.int c, .int 0, .int 15] (fun n => rfl) ?_
                show RP 55 _ 0 [(0, .int c), (1, .int 0), (2, .int 15)] [] _
                refine RP_step (pc1 := 2) (L1 := [(0, .int c), (1, .int 0), (2, .int 15)]) (S1 := [.int 0, .int c]) 2 0 (fun n => rfl) ?_
                refine RP_cond (decide (c < 0)) (fun n => rfl) (fun _ => ?_) (fun h => absurd (xi_lt (x := c) (y := 0) (show c.toInt < 0 by omega)) (of_decide_eq_false h))
                show RP 55 _ 14 [(0, .int c), (1, .int 0), (2, .int 15)] [] _
                refine RP_done 4 (fun n => rfl) ?_
                refine Or.inr ⟨0, rfl, ?_⟩
                show RP 57 _ 7 [(0, .int c)] [.int 0] _
                refine RP_done 3 (fun n => rfl) ?_
                refine Or.inr ⟨0, rfl, ?_⟩
                show RP 59 _ 224 [(0, .int 6), (1, .int a), (2, .int b), (3, .int c), (4, .int d)] [.int 0] _
                refine RP_done 5 (fun n => rfl) ?_
                exact ⟨rfl, rfl⟩
              · have h145 := of_decide_eq_false hh
                have h146 : 0 ≤ c.toInt := xj_nlt h145
                show RP 23 _ 4 [(0, .int c)] [] _
                refine RP_step (pc1 := 7) (L1 := [(0, .int c)]) (S1 := [.int 16, .int c]) 2 0 (fun n => rfl) ?_
                refine RP_cond (decide (16 ≤ c)) (fun n => rfl) (fun hh => ?_) (fun hh => ?_)
                · have h147 := of_decide_eq_true hh
                  have h148 : 16 ≤ c.toInt := xj_le h147
                  show RP 23 _ 14 [(0, .int c)] [] _
                  refine RP_done 4 (fun n => rfl) ?_
                  refine Or.inr ⟨0, rfl, ?_⟩
                  show RP 25 _ 225 [(0, .int 6), (1, .int a), (2, .int b), (3, .int c), (4, .int d)] [.int 0] _
                  refine RP_done 5 (fun n => rfl) ?_
                  refine ⟨Or.inl rfl, rfl, ?_⟩
                  show RP 59 _ 0 [(0, .int 6), (1, .int a), (2, .int b), (3, .int c), (4, .int d)] [] _
                  refine RP_step (pc1 := 214) (L1 := [(0, .int 6), (1, .int a), (2, .int b), (3, .int c), (4, .int d)]) (S1 := [.int b, .int a]) 4 0 (fun n => rfl) ?_
                  refine RP_call 58 [.int a, .int b] (fun n => rfl) ?_
                  show RP 58 _ 0 [(0, .int a), (1, .int b)] [] _
                  refine RP_step (pc1 := 1) (L1 := [(0, .int a), (1, .int b)]) (S1 := [.int a]) 1 0 (fun n => rfl) ?_
                  refine RP_call 57 [.int a] (fun n => rfl) ?_
                  show RP 57 _ 0 [(0, .int a)] [] _
                  refine RP_step (pc1 := 4) (L1 := [(0, .int a)]) (S1 := [.int 15, .int 0, .int a]) 3 0 (fun n => rfl) ?_
                  refine RP_call 55 [.int a, .int 0, .int 15] (fun n => rfl) ?_
                  show RP 55 _ 0 [(0, .int a), (1, .int 0), (2, .int 15)] [] _
                  refine RP_step (pc1 := 2) (L1 := [(0, .int a), (1, .int 0), (2, .int 15)]) (S1 := [.int 0, .int a]) 2 0 (fun n => rfl) ?_
                  refine RP_cond (decide (a < 0)) (fun n => rfl) (fun h => absurd (of_decide_eq_true h) (xi_nlt (x := a) (y := 0) (show 0 ≤ a.toInt by omega))) (fun _ => ?_)
                  show RP 55 _ 5 [(0, .int a), (1, .int 0), (2, .int 15)] [] _
                  refine RP_step (pc1 := 7) (L1 := [(0, .int a), (1, .int 0), (2, .int 15)]) (S1 := [.int 15, .int a]) 2 0 (fun n => rfl) ?_
                  refine RP_cond (decide (15 < a)) (fun n => rfl) (fun h => absurd (of_decide_eq_true h) (xi_nlt (x := 15) (y := a) (show a.toInt ≤ 15 by omega))) (fun _ => ?_)
                  show RP 55 _ 10 [(0, .int a), (1, .int 0), (2, .int 15)] [] _
                  refine RP_done 5 (fun n => rfl) ?_
                  refine Or.inr ⟨1, rfl, ?_⟩
                  show RP 57 _ 7 [(0, .int a)] [.int 1] _
                  refine RP_done 3 (fun n => rfl) ?_
                  refine Or.inr ⟨1, rfl, ?_⟩
                  show RP 58 _ 4 [(0, .int a), (1, .int b)] [.int 1] _
                  refine RP_step (pc1 := 11) (L1 := [(0, .int a), (1, .int b)]) (S1 := [.int 8, .int 1, .int b]) 4 0 (fun n => rfl) ?_
                  refine RP_call 55 [.int b, .int 1, .int 8] (fun n => rfl) ?_
                  show RP 55 _ 0 [(0, .int b), (1, .int 1), (2, .int 8)] [] _
                  refine RP_step (pc1 := 2) (L1 := [(0, .int b), (1, .int 1), (2, .int 8)]) (S1 := [.int 1, .int b]) 2 0 (fun n => rfl) ?_
                  refine RP_cond (decide (b < 1)) (fun n => rfl) (fun h => absurd (of_decide_eq_true h) (xi_nlt (x := b) (y := 1) (show 1 ≤ b.toInt by omega))) (fun _ => ?_)
                  show RP 55 _ 5 [(0, .int b), (1, .int 1), (2, .int 8)] [] _
                  refine RP_step (pc1 := 7) (L1 := [(0, .int b), (1, .int 1), (2, .int 8)]) (S1 := [.int 8, .int b]) 2 0 (fun n => rfl) ?_
                  refine RP_cond (decide (8 < b)) (fun n => rfl) (fun h => absurd (of_decide_eq_true h) (xi_nlt (x := 8) (y := b) (show b.toInt ≤ 8 by omega))) (fun _ => ?_)
                  show RP 55 _ 10 [(0, .int b), (1, .int 1), (2, .int 8)] [] _
                  refine RP_done 5 (fun n => rfl) ?_
                  refine Or.inr ⟨1, rfl, ?_⟩
                  show RP 58 _ 14 [(0, .int a), (1, .int b)] [.int 1] _
                  refine RP_step (pc1 := 19) (L1 := [(0, .int a), (1, .int b)]) (S1 := [.int b, .int a]) 3 0 (fun n => rfl) ?_
                  refine RP_bin (fun x y => x + y) (fun n => rfl) ?_
                  show RP 58 _ 20 [(0, .int a), (1, .int b)] [.int (a + b)] _
                  refine RP_step (pc1 := 22) (L1 := [(0, .int a), (1, .int b)]) (S1 := [.int 16, .int (a + b)]) 1 0 (fun n => rfl) ?_
                  refine RP_cond (decide (16 < (a + b))) (fun n => rfl) (fun h => absurd (of_decide_eq_true h) (xi_nlt (x := 16) (y := (a + b)) (show (a + b).toInt ≤ 16 by omega))) (fun _ => ?_)
                  show RP 58 _ 25 [(0, .int a), (1, .int b)] [] _
                  refine RP_done 5 (fun n => rfl) ?_
                  refine Or.inr ⟨1, rfl, ?_⟩
                  show RP 59 _ 217 [(0, .int 6), (1, .int a), (2, .int b), (3, .int c), (4, .int d)] [.int 1] _
                  refine RP_step (pc1 := 221) (L1 := [(0, .int 6), (1, .int a), (2, .int b), (3, .int c), (4, .int d)]) (S1 := [.int c]) 2 0 (fun n => rfl) ?_
                  refine RP_call 57 [.int c] (fun n => rfl) ?_
                  show RP 57 _ 0 [(0, .int c)] [] _
                  refine RP_step (pc1 := 4) (L1 := [(0, .int c)]) (S1 := [.int 15, .int 0, .int c]) 3 0 (fun n => rfl) ?_
                  refine RP_call 55 [.int c, .int 0, .int 15] (fun n => rfl) ?_
                  show RP 55 _ 0 [(0, .int c), (1, .int 0), (2, .int 15)] [] _
                  refine RP_step (pc1 := 2) (L1 := [(0, .int c), (1, .int 0), (2, .int 15)]) (S1 := [.int 0, .int c]) 2 0 (fun n => rfl) ?_
                  refine RP_cond (decide (c < 0)) (fun n => rfl) (fun h => absurd (of_decide_eq_true h) (xi_nlt (x := c) (y := 0) (show 0 ≤ c.toInt by omega))) (fun _ => ?_)
                  show RP 55 _ 5 [(0, .int c), (1, .int 0), (2, .int 15)] [] _
                  refine RP_step (pc1 := 7) (L1 := [(0, .int c), (1, .int 0), (2, .int 15)]) (S1 := [.int 15, .int c]) 2 0 (fun n => rfl) ?_
                  refine RP_cond (decide (15 < c)) (fun n => rfl) (fun _ => ?_) (fun h => absurd (xi_lt (x := 15) (y := c) (show 15 < c.toInt by omega)) (of_decide_eq_false h))
                  show RP 55 _ 14 [(0, .int c), (1, .int 0), (2, .int 15)] [] _
                  refine RP_done 4 (fun n => rfl) ?_
                  refine Or.inr ⟨0, rfl, ?_⟩
                  show RP 57 _ 7 [(0, .int c)] [.int 0] _
                  refine RP_done 3 (fun n => rfl) ?_
                  refine Or.inr ⟨0, rfl, ?_⟩
                  show RP 59 _ 224 [(0, .int 6), (1, .int a), (2, .int b), (3, .int c), (4, .int d)] [.int 0] _
                  refine RP_done 5 (fun n => rfl) ?_
                  exact ⟨rfl, rfl⟩
                · have h149 := of_decide_eq_false hh
                  have h150 : c.toInt < 16 := xj_nle h149
                  show RP 23 _ 10 [(0, .int c)] [] _
                  refine RP_done 5 (fun n => rfl) ?_
                  refine Or.inr ⟨1, rfl, ?_⟩
                  show RP 25 _ 225 [(0, .int 6), (1, .int a), (2, .int b), (3, .int c), (4, .int d)] [.int 1] _
                  refine RP_step (pc1 := 230) (L1 := [(0, .int 6), (1, .int a), (2, .int b), (3, .int c), (4, .int d)]) (S1 := [.int d]) 2 0 (fun n => rfl) ?_
                  refine RP_call 23 [.int d] (fun n => rfl) ?_
                  show RP 23 _ 0 [(0, .int d)] [] _
                  refine RP_step (pc1 := 1) (L1 := [(0, .int d)]) (S1 := [.int d]) 1 0 (fun n => rfl) ?_
                  refine RP_cond (decide (d < 0)) (fun n => rfl) (fun hh => ?_) (fun hh => ?_)
                  · have h151 := of_decide_eq_true hh
                    have h152 : d.toInt < 0 := xj_lt h151
                    show RP 23 _ 14 [(0, .int d)] [] _
                    refine RP_done 4 (fun n => rfl) ?_
                    refine Or.inr ⟨0, rfl, ?_⟩
                    show RP 25 _ 233 [(0, .int 6), (1, .int a), (2, .int b), (3, .int c), (4, .int d)] [.int 0] _
                    refine RP_done 5 (fun n => rfl) ?_
                    refine ⟨Or.inl rfl, rfl, ?_⟩
                    show RP 59 _ 0 [(0, .int 6), (1, .int a), (2, .int b), (3, .int c), (4, .int d)] [] _
                    refine RP_step (pc1 := 214) (L1 := [(0, .int 6), (1, .int a), (2, .int b), (3, .int c), (4, .int d)]) (S1 := [.int b, .int a]) 4 0 (fun n => rfl) ?_
                    refine RP_call 58 [.int a, .int b] (fun n => rfl) ?_
                    show RP 58 _ 0 [(0, .int a), (1, .int b)] [] _
                    refine RP_step (pc1 := 1) (L1 := [(0, .int a), (1, .int b)]) (S1 := [.int a]) 1 0 (fun n => rfl) ?_
                    refine RP_call 57 [.int a] (fun n => rfl) ?_
                    show RP 57 _ 0 [(0, .int a)] [] _
                    refine RP_step (pc1 := 4) (L1 := [(0, .int a)]) (S1 := [.int 15, .int 0, .int a]) 3 0 (fun n => rfl) ?_
                    refine RP_call 55 [.int a, .int 0, .int 15] (fun n => rfl) ?_
                    show RP 55 _ 0 [(0, .int a), (1, .int 0), (2, .int 15)] [] _
                    refine RP_step (pc1 := 2) (L1 := [(0, .int a), (1, .int 0), (2, .int 15)]) (S1 := [.int 0, .int a]) 2 0 (fun n => rfl) ?_
                    refine RP_cond (decide (a < 0)) (fun n => rfl) (fun h => absurd (of_decide_eq_true h) (xi_nlt (x := a) (y := 0) (show 0 ≤ a.toInt by omega))) (fun _ => ?_)
                    show RP 55 _ 5 [(0, .int a), (1, .int 0), (2, .int 15)] [] _
                    refine RP_step (pc1 := 7) (L1 := [(0, .int a), (1, .int 0), (2, .int 15)]) (S1 := [.int 15, .int a]) 2 0 (fun n => rfl) ?_
                    refine RP_cond (decide (15 < a)) (fun n => rfl) (fun h => absurd (of_decide_eq_true h) (xi_nlt (x := 15) (y := a) (show a.toInt ≤ 15 by omega))) (fun _ => ?_)
                    show RP 55 _ 10 [(0, .int a), (1, .int 0), (2, .int 15)] [] _
                    refine RP_done 5 (fun n => rfl) ?_
                    refine Or.inr ⟨1, rfl, ?_⟩
                    show RP 57 _ 7 [(0, .int a)] [.int 1] _
                    refine RP_done 3 (fun n => rfl) ?_
                    refine Or.inr ⟨1, rfl, ?_⟩
                    show RP 58 _ 4 [(0, .int a), (1, .int b)] [.int 1] _
                    refine RP_step (pc1 := 11) (L1 := [(0, .int a), (1, .int b)]) (S1 := [.int 8, .int 1, .int b]) 4 0 (fun n => rfl) ?_
                    refine RP_call 55 [.int b, .int 1, .int 8] (fun n => rfl) ?_
                    show RP 55 _ 0 [(0, .int b), (1, .int 1), (2, .int 8)] [] _
                    refine RP_step (pc1 := 2) (L1 := [(0, .int b), (1, .int 1), (2, .int 8)]) (S1 := [.int 1, .int b]) 2 0 (fun n => rfl) ?_
                    refine RP_cond (decide (b < 1)) (fun n => rfl) (fun h => absurd (of_decide_eq_true h) (xi_nlt (x := b) (y := 1) (show 1 ≤ b.toInt by omega))) (fun _ => ?_)
                    show RP 55 _ 5 [(0, .int b), (1, .int 1), (2, .int 8)] [] _
                    refine RP_step (pc1 := 7) (L1 := [(0, .int b), (1, .int 1), (2, .int 8)]) (S1 := [.int 8, .int b]) 2 0 (fun n => rfl) ?_
                    refine RP_cond (decide (8 < b)) (fun n => rfl) (fun h => absurd (of_decide_eq_true h) (xi_nlt (x := 8) (y := b) (show b.toInt ≤ 8 by omega))) (fun _ => ?_)
                    show RP 55 _ 10 [(0, .int b), (1, .int 1), (2, .int 8)] [] _
                    refine RP_done 5 (fun n => rfl) ?_
                    refine Or.inr ⟨1, rfl, ?_⟩
                    show RP 58 _ 14 [(0, .int a), (1, .int b)] [.int 1] _
                    refine RP_step (pc1 := 19) (L1 := [(0, .int a), (1, .int b)]) (S1 := [.int b, .int a]) 3 0 (fun n => rfl) ?_
                    refine RP_bin (fun x y => x + y) (fun n => rfl) ?_
                    show RP 58 _ 20 [(0, .int a), (1, .int b)] [.int (a + b)] _
                    refine RP_step (pc1 := 22) (L1 := [(0, .int a), (1, .int b)]) (S1 := [.int 16, .int (a + b)]) 1 0 (fun n => rfl) ?_
                    refine RP_cond (decide (16 < (a + b))) (fun n => rfl) (fun h => absurd (of_decide_eq_true h) (xi_nlt (x := 16) (y := (a + b)) (show (a + b).toInt ≤ 16 by omega))) (fun _ => ?_)
                    show RP 58 _ 25 [(0, .int a), (1, .int b)] [] _
                    refine RP_done 5 (fun n => rfl) ?_
                    refine Or.inr ⟨1, rfl, ?_⟩
                    show RP 59 _ 217 [(0, .int 6), (1, .int a), (2, .int b), (3, .int c), (4, .int d)] [.int 1] _
                    refine RP_step (pc1 := 221) (L1 := [(0, .int 6), (1, .int a), (2, .int b), (3, .int c), (4, .int d)]) (S1 := [.int c]) 2 0 (fun n => rfl) ?_
                    refine RP_call 57 [.int c] (fun n => rfl) ?_
                    show RP 57 _ 0 [(0, .int c)] [] _
                    refine RP_step (pc1 := 4) (L1 := [(0, .int c)]) (S1 := [.int 15, .int 0, .int c]) 3 0 (fun n => rfl) ?_
                    refine RP_call 55 [.int c, .int 0, .int 15] (fun n => rfl) ?_
                    show RP 55 _ 0 [(0, .int c), (1, .int 0), (2, .int 15)] [] _
                    refine RP_step (pc1 := 2) (L1 := [(0, .int c), (1, .int 0), (2, .int 15)]) (S1 := [.int 0, .int c]) 2 0 (fun n => rfl) ?_
                    refine RP_cond (decide (c < 0)) (fun n => rfl) (fun h => absurd (of_decide_eq_true h) (xi_nlt (x := c) (y := 0) (show 0 ≤ c.toInt by omega))) (fun _ => ?_)
                    show RP 55 _ 5 [(0, .int c), (1, .int 0), (2, .int 15)] [] _
                    refine RP_step (pc1 := 7) (L1 := [(0, .int c), (1, .int 0), (2, .int 15)]) (S1 := [.int 15, .int c]) 2 0 (fun n => rfl) ?_
                    refine RP_cond (decide (15 < c)) (fun n => rfl) (fun h => absurd (of_decide_eq_true h) (xi_nlt (x := 15) (y := c) (show c.toInt ≤ 15 by omega))) (fun _ => ?_)
                    show RP 55 _ 10 [(0, .int c), (1, .int 0), (2, .int 15)] [] _
                    refine RP_done 5 (fun n => rfl) ?_
                    refine Or.inr ⟨1, rfl, ?_⟩
                    show RP 57 _ 7 [(0, .int c)] [.int 1] _
                    refine RP_done 3 (fun n => rfl) ?_
                    refine Or.inr ⟨1, rfl, ?_⟩
                    show RP 59 _ 224 [(0, .int 6), (1, .int a), (2, .int b), (3, .int c), (4, .int d)] [.int 1] _
                    refine RP_step (pc1 := 229) (L1 := [(0, .int 6), (1, .int a), (2, .int b), (3, .int c), (4, .int d)]) (S1 := [.int d]) 2 0 (fun n => rfl) ?_
                    refine RP_call 57 [.int d] (fun n => rfl) ?_
                    show RP 57 _ 0 [(0, .int d)] [] _
                    refine RP_step (pc1 := 4) (L1 := [(0, .int d)]) (S1 := [.int 15, .int 0, .int d]) 3 0 (fun n => rfl) ?_
                    refine RP_call 55 [.int d, .int 0, .int 15] (fun n => rfl) ?_
                    show RP 55 _ 0 [(0, .int d), (1, .int 0), (2, .int 15)] [] _
                    refine RP_step (pc1 := 2) (L1 := [(0, .int d), (1, .int 0), (2, .int 15)]) (S1 := [.int 0, .int d]) 2 0 (fun n => rfl) ?_
                    refine RP_cond (decide (d < 0)) (fun n => rfl) (fun _ => ?_) (fun h => absurd (xi_lt (x := d) (y := 0) (show d.toInt < 0 by omega)) (of_decide_eq_false h))
                    show RP 55 _ 14 [(0, .int d), (1, .int 0), (2, .int 15)] [] _
                    refine RP_done 4 (fun n => rfl) ?_
                    refine Or.inr ⟨0, rfl, ?_⟩
                    show RP 57 _ 7 [(0, .int d)] [.int 0] _
                    refine RP_done 3 (fun n => rfl) ?_
                    refine Or.inr ⟨0, rfl, ?_⟩
                    show RP 59 _ 232 [(0, .int 6), (1, .int a), (2, .int b), (3, .int c), (4, .int d)] [.int 0] _
                    refine RP_done 5 (fun n => rfl) ?_
                    exact ⟨rfl, rfl⟩
                  · have h153 := of_decide_eq_false hh
                    have h154 : 0 ≤ d.toInt := xj_nlt h153
                    show RP 23 _ 4 [(0, .int d)] [] _
                    refine RP_step (pc1 := 7) (L1 := [(0, .int d)]) (S1 := [.int 16, .int d]) 2 0 (fun n => rfl) ?_
                    refine RP_cond (decide (16 ≤ d)) (fun n => rfl) (fun hh => ?_) (fun hh => ?_)
                    · have h155 := of_decide_eq_true hh
                      have h156 : 16 ≤ d.toInt := xj_le h155
                      show RP 23 _ 14 [(0, .int d)] [] _
                      refine RP_done 4 (fun n => rfl) ?_
                      refine Or.inr ⟨0, rfl, ?_⟩
                      show RP 25 _ 233 [(0, .int 6), (1, .int a), (2, .int b), (3, .int c), (4, .int d)] [.int 0] _
                      refine RP_done 5 (fun n => rfl) ?_
                      refine ⟨Or.inl rfl, rfl, ?_⟩
                      show RP 59 _ 0 [(0, .int 6), (1, .int a), (2, .int b), (3, .int c), (4, .int d)] [] _
                      refine RP_step (pc1 := 214) (L1 := [(0, .int 6), (1, .int a), (2, .int b), (3, .int c), (4, .int d)]) (S1 := [.int b, .int a]) 4 0 (fun n => rfl) ?_
                      refine RP_call 58 [.int a, .int b] (fun n => rfl) ?_
                      show RP 58 _ 0 [(0, .int a), (1, .int b)] [] _
                      refine RP_step (pc1 := 1) (L1 := [(0, .int a), (1, .int b)]) (S1 := [.int a]) 1 0 (fun n => rfl) ?_
                      refine RP_call 57 [.int a] (fun n => rfl) ?_
                      show RP 57 _ 0 [(0, .int a)] [] _
                      refine RP_step (pc1 := 4) (L1 := [(0, .int a)]) (S1 := [.int 15, .int 0, .int a]) 3 0 (fun n => rfl) ?_
                      refine RP_call 55 [.int a, .int 0, .int 15] (fun n => rfl) ?_
                      show RP 55 _ 0 [(0, .int a), (1, .int 0), (2, .int 15)] [] _
                      refine RP_step (pc1 := 2) (L1 := [(0, .int a), (1, .int 0), (2, .int 15)]) (S1 := [.int 0, .int a]) 2 0 (fun n => rfl) ?_
                      refine RP_cond (decide (a < 0)) (fun n => rfl) (fun h => absurd (of_decide_eq_true h) (xi_nlt (x := a) (y := 0) (show 0 ≤ a.toInt by omega))) (fun _ => ?_)
                      show RP 55 _ 5 [(0, .int a), (1, .int 0), (2, .int 15)] [] _
                      refine RP_step (pc1 := 7) (L1 := [(0, .int a), (1, .int 0), (2, .int 15)]) (S1 := [.int 15, .int a]) 2 0 (fun n => rfl) ?_
                      refine RP_cond (decide (15 < a)) (fun n => rfl) (fun h => absurd (of_decide_eq_true h) (xi_nlt (x := 15) (y := a) (show a.toInt ≤ 15 by omega))) (fun _ => ?_)
                      show RP 55 _ 10 [(0, .int a), (1, .int 0), (2, .int 15)] [] _
                      refine RP_done 5 (fun n => rfl) ?_
                      refine Or.inr ⟨1, rfl, ?_⟩
                      show RP 57 _ 7 [(0, .int a)] [.int 1] _
                      refine RP_done 3 (fun n => rfl) ?_
                      refine Or.inr ⟨1, rfl, ?_⟩
                      show RP 58 _ 4 [(0, .int a), (1, .int b)] [.int 1] _
                      refine RP_step (pc1 := 11) (L1 := [(0, .int a), (1, .int b)]) (S1 := [.int 8, .int 1, .int b]) 4 0 (fun n => rfl) ?_
                      refine RP_call 55 [.int b, .int 1, .int 8] (fun n => rfl) ?_
                      show RP 55 _ 0 [(0, .int b), (1, .int 1), (2, .int 8)] [] _
                      refine RP_step (pc1 := 2) (L1 := [(0, .int b), (1, .int 1), (2, .int 8)]) (S1 := [.int 1, .int b]) 2 0 (fun n => rfl) ?_
                      refine RP_cond (decide (b < 1)) (fun n => rfl) (fun h => absurd (of_decide_eq_true h) (xi_nlt (x := b) (y := 1) (show 1 ≤ b.toInt by omega))) (fun _ => ?_)
                      show RP 55 _ 5 [(0, .int b), (1, .int 1), (2, .int 8)] [] _
                      refine RP_step (pc1 := 7) (L1 := [(0, .int b), (1, .int 1), (2, .int 8)]) (S1 := [.int 8, .int b]) 2 0 (fun n => rfl) ?_
                      refine RP_cond (decide (8 < b)) (fun n => rfl) (fun h => absurd (of_decide_eq_true h) (xi_nlt (x := 8) (y := b) (show b.toInt ≤ 8 by omega))) (fun _ => ?_)
                      show RP 55 _ 10 [(0, .int b), (1, .int 1), (2, .int 8)] [] _
                      refine RP_done 5 (fun n => rfl) ?_
                      refine Or.inr ⟨1, rfl, ?_⟩
                      show RP 58 _ 14 [(0, .int a), (1, .int b)] [.int 1] _
                      refine RP_step (pc1 := 19) (L1 := [(0, .int a), (1, .int b)]) (S1 := [.int b, .int a]) 3 0 (fun n => rfl) ?_
                      refine RP_bin (fun x y => x + y) (fun n => rfl) ?_
                      show RP 58 _ 20 [(0, .int a), (1, .int b)] [.int (a + b)] _
                      refine RP_step (pc1 := 22) (L1 := [(0, .int a), (1, .int b)]) (S1 := [.int 16, .int (a + b)]) 1 0 (fun n => rfl) ?_
                      refine RP_cond (decide (16 < (a + b))) (fun n => rfl) (fun h => absurd (of_decide_eq_true h) (xi_nlt (x := 16) (y := (a + b)) (show (a + b).toInt ≤ 16 by omega))) (fun _ => ?_)
                      show RP 58 _ 25 [(0, .int a), (1, .int b)] [] _
                      refine RP_done 5 (fun n => rfl) ?_
                      refine Or.inr ⟨1, rfl, ?_⟩
                      show RP 59 _ 217 [(0, .int 6), (1, .int a), (2, .int b), (3, .int c), (4, .int d)] [.int 1] _
                      refine RP_step (pc1 := 221) (L1 := [(0, .int 6), (1, .int a), (2, .int b), (3, .int c), (4, .int d)]) (S1 := [.int c]) 2 0 (fun n => rfl) ?_
                      refine RP_call 57 [.int c] (fun n => rfl) ?_
                      show RP 57 _ 0 [(0, .int c)] [] _
                      refine RP_step (pc1 := 4) (L1 := [(0, .int c)]) (S1 := [.int 15, .int 0, .int c]) 3 0 (fun n => rfl) ?_
                      refine RP_call 55 [.int c, .int 0, .int 15] (fun n => rfl) ?_
                      show RP 55 _ 0 [(0, .int c), (1, .int 0), (2, .int 15)] [] _
                      refine RP_step (pc1 := 2) (L1 := [(0, .int c), (1, .int 0), (2, .int 15)]) (S1 := [.int 0, .int c]) 2 0 (fun n => rfl) ?_
                      refine RP_cond (decide (c < 0)) (fun n => rfl) (fun h => absurd (of_decide_eq_true h) (xi_nlt (x := c) (y := 0) (show 0 ≤ c.toInt by omega))) (fun _ => ?_)
                      show RP 55 _ 5 [(0, .int c), (1, .int 0), (2, .int 15)] [] _
                      refine RP_step (pc1 := 7) (L1 := [(0, .int c), (1, .int 0), (2, .int 15)]) (S1 := [.int 15, .int c]) 2 0 (fun n => rfl) ?_
                      refine RP_cond (decide (15 < c)) (fun n => rfl) (fun h => absurd (of_decide_eq_true h) (xi_nlt (x := 15) (y := c) (show c.toInt ≤ 15 by omega))) (fun _ => ?_)
                      show RP 55 _ 10 [(0, .int c), (1, .int 0), (2, .int 15)] [] _
                      refine RP_done 5 (fun n => rfl) ?_
                      refine Or.inr ⟨1, rfl, ?_⟩
                      show RP 57 _ 7 [(0, .int c)] [.int 1] _
                      refine RP_done 3 (fun n => rfl) ?_
                      refine Or.inr ⟨1, rfl, ?_⟩
                      show RP 59 _ 224 [(0, .int 6), (1, .int a), (2, .int b), (3, .int c), (4, .int d)] [.int 1] _
                      refine RP_step (pc1 := 229) (L1 := [(0, .int 6), (1, .int a), (2, .int b), (3, .int c), (4, .int d)]) (S1 := [.int d]) 2 0 (fun n => rfl) ?_
                      refine RP_call 57 [.int d] (fun n => rfl) ?_
                      show RP 57 _ 0 [(0, .int d)] [] _
                      refine RP_step (pc1 := 4) (L1 := [(0, .int d)]) (S1 := [.int 15, .int 0, .int d]) 3 0 (fun n => rfl) ?_
                      refine RP_call 55 [.int d, .int 0, .int 15] (fun n => rfl) ?_
                      show RP 55 _ 0 [(0, .int d), (1, .int 0), (2, .int 15)] [] _
                      refine RP_step (pc1 := 2) (L1 := [(0, .int d), (1, .int 0), (2, .int 15)]) (S1 := [.int 0, .int d]) 2 0 (fun n => rfl) ?_
                      refine RP_cond (decide (d < 0)) (fun n => rfl) (fun h => absurd (of_decide_eq_true h) (xi_nlt (x := d) (y := 0) (show 0 ≤ d.toInt by omega))) (fun _ => ?_)
                      show RP 55 _ 5 [(0, .int d), (1, .int 0), (2, .int 15)] [] _
                      refine RP_step (pc1 := 7) (L1 := [(0, .int d), (1, .int 0), (2, .int 15)]) (S1 := [.int 15, .int d]) 2 0 (fun n => rfl) ?_
                      refine RP_cond (decide (15 < d)) (fun n => rfl) (fun _ => ?_) (fun h => absurd (xi_lt (x := 15) (y := d) (show 15 < d.toInt by omega)) (of_decide_eq_false h))
                      show RP 55 _ 14 [(0, .int d), (1, .int 0), (2, .int 15)] [] _
                      refine RP_done 4 (fun n => rfl) ?_
                      refine Or.inr ⟨0, rfl, ?_⟩
                      show RP 57 _ 7 [(0, .int d)] [.int 0] _
                      refine RP_done 3 (fun n => rfl) ?_
                      refine Or.inr ⟨0, rfl, ?_⟩
                      show RP 59 _ 232 [(0, .int 6), (1, .int a), (2, .int b), (3, .int c), (4, .int d)] [.int 0] _
                      refine RP_done 5 (fun n => rfl) ?_
                      exact ⟨rfl, rfl⟩
                    · have h157 := of_decide_eq_false hh
                      have h158 : d.toInt < 16 := xj_nle h157
                      show RP 23 _ 10 [(0, .int d)] [] _
                      refine RP_done 5 (fun n => rfl) ?_
                      refine Or.inr ⟨1, rfl, ?_⟩
                      show RP 25 _ 233 [(0, .int 6), (1, .int a), (2, .int b), (3, .int c), (4, .int d)] [.int 1] _
                      refine RP_done 6 (fun n => rfl) ?_
                      refine ⟨Or.inr rfl, rfl, ?_⟩
                      show RP 59 _ 0 [(0, .int 6), (1, .int a), (2, .int b), (3, .int c), (4, .int d)] [] _
                      refine RP_step (pc1 := 214) (L1 := [(0, .int 6), (1, .int a), (2, .int b), (3, .int c), (4, .int d)]) (S1 := [.int b, .int a]) 4 0 (fun n => rfl) ?_
                      refine RP_call 58 [.int a, .int b] (fun n => rfl) ?_
                      show RP 58 _ 0 [(0, .int a), (1, .int b)] [] _
                      refine RP_step (pc1 := 1) (L1 := [(0, .int a), (1, .int b)]) (S1 := [.int a]) 1 0 (fun n => rfl) ?_
                      refine RP_call 57 [.int a] (fun n => rfl) ?_
                      show RP 57 _ 0 [(0, .int a)] [] _
                      refine RP_step (pc1 := 4) (L1 := [(0, .int a)]) (S1 := [.int 15, .int 0, .int a]) 3 0 (fun n => rfl) ?_
                      refine RP_call 55 [.int a, .int 0, .int 15] (fun n => rfl) ?_
                      show RP 55 _ 0 [(0, .int a), (1, .int 0), (2, .int 15)] [] _
                      refine RP_step (pc1 := 2) (L1 := [(0, .int a), (1, .int 0), (2, .int 15)]) (S1 := [.int 0, .int a]) 2 0 (fun n => rfl) ?_
                      refine RP_cond (decide (a < 0)) (fun n => rfl) (fun h => absurd (of_decide_eq_true h) (xi_nlt (x := a) (y := 0) (show 0 ≤ a.toInt by omega))) (fun _ => ?_)
                      show RP 55 _ 5 [(0, .int a), (1, .int 0), (2, .int 15)] [] _
                      refine RP_step (pc1 := 7) (L1 := [(0, .int a), (1, .int 0), (2, .int 15)]) (S1 := [.int 15, .int a]) 2 0 (fun n => rfl) ?_
                      refine RP_cond (decide (15 < a)) (fun n => rfl) (fun h => absurd (of_decide_eq_true h) (xi_nlt (x := 15) (y := a) (show a.toInt ≤ 15 by omega))) (fun _ => ?_)
                      show RP 55 _ 10 [(0, .int a), (1, .int 0), (2, .int 15)] [] _
                      refine RP_done 5 (fun n => rfl) ?_
                      refine Or.inr ⟨1, rfl, ?_⟩
                      show RP 57 _ 7 [(0, .int a)] [.int 1] _
                      refine RP_done 3 (fun n => rfl) ?_
                      refine Or.inr ⟨1, rfl, ?_⟩
                      show RP 58 _ 4 [(0, .int a), (1, .int b)] [.int 1] _
                      refine RP_step (pc1 := 11) (L1 := [(0, .int a), (1, .int b)]) (S1 := [.int 8, .int 1, .int b]) 4 0 (fun n => rfl) ?_
                      refine RP_call 55 [.int b, .int 1, .int 8] (fun n => rfl) ?_
                      show RP 55 _ 0 [(0, .int b), (1, .int 1), (2, .int 8)] [] _
                      refine RP_step (pc1 := 2) (L1 := [(0, .int b), (1, .int 1), (2, .int 8)]) (S1 := [.int 1, .int b]) 2 0 (fun n => rfl) ?_
                      refine RP_cond (decide (b < 1)) (fun n => rfl) (fun h => absurd (of_decide_eq_true h) (xi_nlt (x := b) (y := 1) (show 1 ≤ b.toInt by omega))) (fun _ => ?_)
                      show RP 55 _ 5 [(0, .int b), (1, .int 1), (2, .int 8)] [] _
                      refine RP_step (pc1 := 7) (L1 := [(0, .int b), (1, .int 1), (2, .int 8)]) (S1 := [.int 8, .int b]) 2 0 (fun n => rfl) ?_
                      refine RP_cond (decide (8 < b)) (fun n => rfl) (fun h => absurd (of_decide_eq_true h) (xi_nlt (x := 8) (y := b) (show b.toInt ≤ 8 by omega))) (fun _ => ?_)
                      show RP 55 _ 10 [(0, .int b), (1, .int 1), (2, .int 8)] [] _
                      refine RP_done 5 (fun n => rfl) ?_
                      refine Or.inr ⟨1, rfl, ?_⟩
                      show RP 58 _ 14 [(0, .int a), (1, .int b)] [.int 1] _
                      refine RP_step (pc1 := 19) (L1 := [(0, .int a), (1, .int b)]) (S1 := [.int b, .int a]) 3 0 (fun n => rfl) ?_
                      refine RP_bin (fun x y => x + y) (fun n => rfl) ?_
                      show RP 58 _ 20 [(0, .int a), (1, .int b)] [.int (a + b)] _
                      refine RP_step (pc1 := 22) (L1 := [(0, .int a), (1, .int b)]) (S1 := [.int 16, .int (a + b)]) 1 0 (fun n => rfl) ?_
                      refine RP_cond (decide (16 < (a + b))) (fun n => rfl) (fun h => absurd (of_decide_eq_true h) (xi_nlt (x := 16) (y := (a + b)) (show (a + b).toInt ≤ 16 by omega))) (fun _ => ?_)
                      show RP 58 _ 25 [(0, .int a), (1, .int b)] [] _
                      refine RP_done 5 (fun n => rfl) ?_
                      refine Or.inr ⟨1, rfl, ?_⟩
                      show RP 59 _ 217 [(0, .int 6), (1, .int a), (2, .int b), (3, .int c), (4, .int d)] [.int 1] _
                      refine RP_step (pc1 := 221) (L1 := [(0, .int 6), (1, .int a), (2, .int b), (3, .int c), (4, .int d)]) (S1 := [.int c]) 2 0 (fun n => rfl) ?_
                      refine RP_call 57 [.int c] (fun n => rfl) ?_
                      show RP 57 _ 0 [(0, .int c)] [] _
                      refine RP_step (pc1 := 4) (L1 := [(0, .int c)]) (S1 := [.int 15, .int 0, .int c]) 3 0 (fun n => rfl) ?_
                      refine RP_call 55 [.int c, .int 0, .int 15] (fun n => rfl) ?_
                      show RP 55 _ 0 [(0, .int c), (1, .int 0), (2, .int 15)] [] _
                      refine RP_step (pc1 := 2) (L1 := [(0, .int c), (1, .int 0), (2, .int 15)]) (S1 := [.int 0, .int c]) 2 0 (fun n => rfl) ?_
                      refine RP_cond (decide (c < 0)) (fun n => rfl) (fun h => absurd (of_decide_eq_true h) (xi_nlt (x := c) (y := 0) (show 0 ≤ c.toInt by omega))) (fun _ => ?_)
                      show RP 55 _ 5 [(0, .int c), (1, .int 0), (2, .int 15)] [] _
                      refine RP_step (pc1 := 7) (L1 := [(0, .int c), (1, .int 0), (2, .int 15)]) (S1 := [.int 15, .int c]) 2 0 (fun n => rfl) ?_
                      refine RP_cond (decide (15 < c)) (fun n => rfl) (fun h => absurd (of_decide_eq_true h) (xi_nlt (x := 15) (y := c) (show c.toInt ≤ 15 by omega))) (fun _ => ?_)
                      show RP 55 _ 10 [(0, .int c), (1, .int 0), (2, .int 15)] [] _
                      refine RP_done 5 (fun n => rfl) ?_
                      refine Or.inr ⟨1, rfl, ?_⟩
                      show RP 57 _ 7 [(0, .int c)] [.int 1] _
                      refine RP_done 3 (fun n => rfl) ?_
                      refine Or.inr ⟨1, rfl, ?_⟩
                      show RP 59 _ 224 [(0, .int 6), (1, .int a), (2, .int b), (3, .int c), (4, .int d)] [.int 1] _
                      refine RP_step (pc1 := 229) (L1 := [(0, .int 6), (1, .int a), (2, .int b), (3, .int c), (4, .int d)]) (S1 := [.int d]) 2 0 (fun n => rfl) ?_
                      refine RP_call 57 [.int d] (fun n => rfl) ?_
                      show RP 57 _ 0 [(0, .int d)] [] _
                      refine RP_step (pc1 := 4) (L1 := [(0, .int d)]) (S1 := [.int 15, .int 0, .int d]) 3 0 (fun n => rfl) ?_
                      refine RP_call 55 [.int d, .int 0, .int 15] (fun n => rfl) ?_
                      show RP 55 _ 0 [(0, .int d), (1, .int 0), (2, .int 15)] [] _
                      refine RP_step (pc1 := 2) (L1 := [(0, .int d), (1, .int 0), (2, .int 15)]) (S1 := [.int 0, .int d]) 2 0 (fun n => rfl) ?_
                      refine RP_cond (decide (d < 0)) (fun n => rfl) (fun h => absurd (of_decide_eq_true h) (xi_nlt (x := d) (y := 0) (show 0 ≤ d.toInt by omega))) (fun _ => ?_)
                      show RP 55 _ 5 [(0, .int d), (1, .int 0), (2, .int 15)] [] _
                      refine RP_step (pc1 := 7) (L1 := [(0, .int d), (1, .int 0), (2, .int 15)]) (S1 := [.int 15, .int d]) 2 0 (fun n => rfl) ?_
                      refine RP_cond (decide (15 < d)) (fun n => rfl) (fun h => absurd (of_decide_eq_true h) (xi_nlt (x := 15) (y := d) (show d.toInt ≤ 15 by omega))) (fun _ => ?_)
                      show RP 55 _ 10 [(0, .int d), (1, .int 0), (2, .int 15)] [] _
                      refine RP_done 5 (fun n => rfl) ?_
                      refine Or.inr ⟨1, rfl, ?_⟩
                      show RP 57 _ 7 [(0, .int d)] [.int 1] _
                      refine RP_done 3 (fun n => rfl) ?_
                      refine Or.inr ⟨1, rfl, ?_⟩
                      show RP 59 _ 232 [(0, .int 6), (1, .int a), (2, .int b), (3, .int c), (4, .int d)] [.int 1] _
                      refine RP_done 6 (fun n => rfl) ?_
                      exact ⟨rfl, rfl⟩
  · skip
    show RP 25 _ 0 [(0, .int 7), (1, .int a), (2, .int b), (3, .int c), (4, .int d)] [] _
    refine RP_step (pc1 := 243) (L1 := [(0, .int 7), (1, .int a), (2, .int b), (3, .int c), (4, .int d)]) (S1 := [.int a]) 3 0 (fun n => rfl) ?_
    refine RP_call 23 [.int a] (fun n => rfl) ?_
    show RP 23 _ 0 [(0, .int a)] [] _
    refine RP_step (pc1 := 1) (L1 := [(0, .int a)]) (S1 := [.int a]) 1 0 (fun n => rfl) ?_
    refine RP_cond (decide (a < 0)) (fun n => rfl) (fun hh => ?_) (fun hh => ?_)
    · have h159 := of_decide_eq_true hh
      have h160 : a.toInt < 0 := xj_lt h159
      show RP 23 _ 14 [(0, .int a)] [] _
      refine RP_done 4 (fun n => rfl) ?_
      refine Or.inr ⟨0, rfl, ?_⟩
      show RP 25 _ 246 [(0, .int 7), (1, .int a), (2, .int b), (3, .int c), (4, .int d)] [.int 0] _
      refine RP_done 5 (fun n => rfl) ?_
      refine ⟨Or.inl rfl, rfl, ?_⟩
      show RP 59 _ 0 [(0, .int 7), (1, .int a), (2, .int b), (3, .int c), (4, .int d)] [] _
      refine RP_step (pc1 := 242) (L1 := [(0, .int 7), (1, .int a), (2, .int b), (3, .int c), (4, .int d)]) (S1 := [.int a]) 3 0 (fun n => rfl) ?_
      refine RP_call 57 [.int a] (fun n => rfl) ?_
      show RP 57 _ 0 [(0, .int a)] [] _
      refine RP_step (pc1 := 4) (L1 := [(0, .int a)]) (S1 := [.int 15, .int 0, .int a]) 3 0 (fun n => rfl) ?_
      refine RP_call 55 [.int a, .int 0, .int 15] (fun n => rfl) ?_
      show RP 55 _ 0 [(0, .int a), (1, .int 0), (2, .int 15)] [] _
      refine RP_step (pc1 := 2) (L1 := [(0, .int a), (1, .int 0), (2, .int 15)]) (S1 := [.int 0, .int a]) 2 0 (fun n => rfl) ?_
      refine RP_cond (decide (a < 0)) (fun n => rfl) (fun _ => ?_) (fun h => absurd (xi_lt (x := a) (y := 0) (show a.toInt < 0 by omega)) (of_decide_eq_false h))
      show RP 55 _ 14 [(0, .int a), (1, .int 0), (2, .int 15)] [] _
      refine RP_done 4 (fun n => rfl) ?_
      refine Or.inr ⟨0, rfl, ?_⟩
      show RP 57 _ 7 [(0, .int a)] [.int 0] _
      refine RP_done 3 (fun n => rfl) ?_
      refine Or.inr ⟨0, rfl, ?_⟩
      show RP 59 _ 245 [(0, .int 7), (1, .int a), (2, .int b), (3, .int c), (4, .int d)] [.int 0] _
      refine RP_done 5 (fun n => rfl) ?_
      exact ⟨rfl, rfl⟩
    · have h161 := of_decide_eq_false hh
      have h162 : 0 ≤ a.toInt := xj_nlt h161
      show RP 23 _ 4 [(0, .int a)] [] _
      refine RP_step (pc1 := 7) (L1 := [(0, .int a)]) (S1 := [.int 16, .int a]) 2 0 (fun n => rfl) ?_
      refine RP_cond (decide (16 ≤ a)) (fun n => rfl) (fun hh => ?_) (fun hh => ?_)
      · have h163 := of_decide_eq_true hh
        have h164 : 16 ≤ a.toInt := xj_le h163
        show RP 23 _ 14 [(0, .int a)] [] _
        refine RP_done 4 (fun n => rfl) ?_
        refine Or.inr ⟨0, rfl, ?_⟩
        show RP 25 _ 246 [(0, .int 7), (1, .int a), (2, .int b), (3, .int c), (4, .int d)] [.int 0] _
        refine RP_done 5 (fun n => rfl) ?_
        refine ⟨Or.inl rfl, rfl, ?_⟩
        show RP 59 _ 0 [(0, .int 7), (1, .int a), (2, .int b), (3, .int c), (4, .int d)] [] _
        refine RP_step (pc1 := 242) (L1 := [(0, .int 7), (1, .int a), (2, .int b), (3, .int c), (4, .int d)]) (S1 := [.int a]) 3 0 (fun n => rfl) ?_
        refine RP_call 57 [.int a] (fun n => rfl) ?_
        show RP 57 _ 0 [(0, .int a)] [] _
        refine RP_step (pc1 := 4) (L1 := [(0, .int a)]) (S1 := [.int 15, .int 0, .int a]) 3 0 (fun n => rfl) ?_
        refine RP_call 55 [.int a, .int 0, .int 15] (fun n => rfl) ?_
        show RP 55 _ 0 [(0, .int a), (1, .int 0), (2, .int 15)] [] _
        refine RP_step (pc1 := 2) (L1 := [(0, .int a), (1, .int 0), (2, .int 15)]) (S1 := [.int 0, .int a]) 2 0 (fun n => rfl) ?_
        refine RP_cond (decide (a < 0)) (fun n => rfl) (fun h => absurd (of_decide_eq_true h) (xi_nlt (x := a) (y := 0) (show 0 ≤ a.toInt by omega))) (fun _ => ?_)
        show RP 55 _ 5 [(0, .int a), (1, .int 0), (2, .int 15)] [] _
        refine RP_step (pc1 := 7) (L1 := [(0, .int a), (1, .int 0), (2, .int 15)]) (S1 := [.int 15, .int a]) 2 0 (fun n => rfl) ?_
        refine RP_cond (decide (15 < a)) (fun n => rfl) (fun _ => ?_) (fun h => absurd (xi_lt (x := 15) (y := a) (show 15 < a.toInt by omega)) (of_decide_eq_false h))
        show RP 55 _ 14 [(0, .int a), (1, .int 0), (2, .int 15)] [] _
        refine RP_done 4 (fun n => rfl) ?_
        refine Or.inr ⟨0, rfl, ?_⟩
        show RP 57 _ 7 [(0, .int a)] [.int 0] _
        refine RP_done 3 (fun n => rfl) ?_
        refine Or.inr ⟨0, rfl, ?_⟩
        show RP 59 _ 245 [(0, .int 7), (1, .int a), (2, .int b), (3, .int c), (4, .int d)] [.int 0] _
        refine RP_done 5 (fun n => rfl) ?_
        exact ⟨rfl, rfl⟩
      · have h165 := of_decide_eq_false hh
        have h166 : a.toInt < 16 := xj_nle h165
        show RP 23 _ 10 [(0, .int a)] [] _
        refine RP_done 5 (fun n => rfl) ?_
        refine Or.inr ⟨1, rfl, ?_⟩
        show RP 25 _ 246 [(0, .int 7), (1, .int a), (2, .int b), (3, .int c), (4, .int d)] [.int 1] _
        refine RP_step (pc1 := 251) (L1 := [(0, .int 7), (1, .int a), (2, .int b), (3, .int c), (4, .int d)]) (S1 := [.int c, .int b]) 3 0 (fun n => rfl) ?_
        refine RP_call 24 [.int b, .int c] (fun n => rfl) ?_
        show RP 24 _ 0 [(0, .int b), (1, .int c)] [] _
        refine RP_step (pc1 := 1) (L1 := [(0, .int b), (1, .int c)]) (S1 := [.int b]) 1 0 (fun n => rfl) ?_
        refine RP_call 23 [.int b] (fun n => rfl) ?_
        show RP 23 _ 0 [(0, .int b)] [] _
        refine RP_step (pc1 := 1) (L1 := [(0, .int b)]) (S1 := [.int b]) 1 0 (fun n => rfl) ?_
        refine RP_cond (decide (b < 0)) (fun n => rfl) (fun hh => ?_) (fun hh => ?_)
        · have h167 := of_decide_eq_true hh
          have h168 : b.toInt < 0 := xj_lt h167
          show RP 23 _ 14 [(0, .int b)] [] _
          refine RP_done 4 (fun n => rfl) ?_
          refine Or.inr ⟨0, rfl, ?_⟩
          show RP 24 _ 4 [(0, .int b), (1, .int c)] [.int 0] _
          refine RP_done 5 (fun n => rfl) ?_
          refine Or.inr ⟨0, rfl, ?_⟩
          show RP 25 _ 254 [(0, .int 7), (1, .int a), (2, .int b), (3, .int c), (4, .int d)] [.int 0] _
          refine RP_done 5 (fun n => rfl) ?_
          refine ⟨Or.inl rfl, rfl, ?_⟩
          show RP 59 _ 0 [(0, .int 7), (1, .int a), (2, .int b), (3, .int c), (4, .int d)] [] _
          refine RP_step (pc1 := 242) (L1 := [(0, .int 7), (1, .int a), (2, .int b), (3, .int c), (4, .int d)]) (S1 := [.int a]) 3 0 (fun n => rfl) ?_
          refine RP_call 57 [.int a] (fun n => rfl) ?_
          show RP 57 _ 0 [(0, .int a)] [] _
          refine RP_step (pc1 := 4) (L1 := [(0, .int a)]) (S1 := [.int 15, .int 0, .int a]) 3 0 (fun n => rfl) ?_
          refine RP_call 55 [.int a, .int 0, .int 15] (fun n => rfl) ?_
          show RP 55 _ 0 [(0, .int a), (1, .int 0), (2, .int 15)] [] _
          refine RP_step (pc1 := 2) (L1 := [(0, .int a), (1, .int 0), (2, .int 15)]) (S1 := [.int 0, .int a]) 2 0 (fun n => rfl) ?_
          refine RP_cond (decide (a < 0)) (fun n => rfl) (fun h => absurd (of_decide_eq_true h) (xi_nlt (x := a) (y := 0) (show 0 ≤ a.toInt by omega))) (fun _ => ?_)
          show RP 55 _ 5 [(0, .int a), (1, .int 0), (2, .int 15)] [] _
          refine RP_step (pc1 := 7) (L1 := [(0, .int a), (1, .int 0), (2, .int 15)]) (S1 := [.int 15, .int a]) 2 0 (fun n => rfl) ?_
          refine RP_cond (decide (15 < a)) (fun n => rfl) (fun h => absurd (of_decide_eq_true h) (xi_nlt (x := 15) (y := a) (show a.toInt ≤ 15 by omega))) (fun _ => ?_)
          show RP 55 _ 10 [(0, .int a), (1, .int 0), (2, .int 15)] [] _
          refine RP_done 5 (fun n => rfl) ?_
          refine Or.inr ⟨1, rfl, ?_⟩
          show RP 57 _ 7 [(0, .int a)] [.int 1] _
          refine RP_done 3 (fun n => rfl) ?_
          refine Or.inr ⟨1, rfl, ?_⟩
          show RP 59 _ 245 [(0, .int 7), (1, .int a), (2, .int b), (3, .int c), (4, .int d)] [.int 1] _
          refine RP_step (pc1 := 250) (L1 := [(0, .int 7), (1, .int a), (2, .int b), (3, .int c), (4, .int d)]) (S1 := [.int c, .int b]) 3 0 (fun n => rfl) ?_
          refine RP_call 58 [.int b, .int c] (fun n => rfl) ?_
          show RP 58 _ 0 [(0, .int b), (1, .int c)] [] _
          refine RP_step (pc1 := 1) (L1 := [(0, .int b), (1, .int c)]) (S1 := [.int b]) 1 0 (fun n => rfl) ?_
          refine RP_call 57 [.int b] (fun n => rfl) ?_
          show RP 57 _ 0 [(0, .int b)] [] _
          refine RP_step (pc1 := 4) (L1 := [(0, .int b)]) (S1 := [.int 15, .int 0, .int b]) 3 0 (fun n => rfl) ?_
          refine RP_call 55 [.int b, .int 0, .int 15] (fun n => rfl) ?_
          show RP 55 _ 0 [(0, .int b), (1, .int 0), (2, .int 15)] [] _
          refine RP_step (pc1 := 2) (L1 := [(0, .int b), (1, .int 0), (2, .int 15)]) (S1 := [.int 0, .int b]) 2 0 (fun n => rfl) ?_
          refine RP_cond (decide (b < 0)) (fun n => rfl) (fun _ => ?_) (fun h => absurd (xi_lt (x := b) (y := 0) (show b.toInt < 0 by omega)) (of_decide_eq_false h))
          show RP 55 _ 14 [(0, .int b), (1, .int 0), (2, .int 15)] [] _
          refine RP_done 4 (fun n => rfl) ?_
          refine Or.inr ⟨0, rfl, ?_⟩
          show RP 57 _ 7 [(0, .int b)] [.int 0] _
          refine RP_done 3 (fun n => rfl) ?_
          refine Or.inr ⟨0, rfl, ?_⟩
          show RP 58 _ 4 [(0, .int b), (1, .int c)] [.int 0] _
          refine RP_done 5 (fun n => rfl) ?_
          refine Or.inr ⟨0, rfl, ?_⟩
          show RP 59 _ 253 [(0, .int 7), (1, .int a), (2, .int b), (3, .int c), (4, .int d)] [.int 0] _
          refine RP_done 5 (fun n => rfl) ?_
          exact ⟨rfl, rfl⟩
        · have h169 := of_decide_eq_false hh
          have h170 : 0 ≤ b.toInt := xj_nlt h169
          show RP 23 _ 4 [(0, .int b)] [] _
          refine RP_step (pc1 := 7) (L1 := [(0, .int b)]) (S1 := [.int 16, .int b]) 2 0 (fun n => rfl) ?_
          refine RP_cond (decide (16 ≤ b)) (fun n => rfl) (fun hh => ?_) (fun hh => ?_)
          · have h171 := of_decide_eq_true hh
            have h172 : 16 ≤ b.toInt := xj_le h171
            show RP 23 _ 14 [(0, .int b)] [] _
            refine RP_done 4 (fun n => rfl) ?_
            refine Or.inr ⟨0, rfl, ?_⟩
            show RP 24 _ 4 [(0, .int b), (1, .int c)] [.int 0] _
            refine RP_done 5 (fun n => rfl) ?_
            refine Or.inr ⟨0, rfl, ?_⟩
            show RP 25 _ 254 [(0, .int 7), (1, .int a), (2, .int b), (3, .int c), (4, .int d)] [.int 0] _
            refine RP_done 5 (fun n => rfl) ?_
            refine ⟨Or.inl rfl, rfl, ?_⟩
            show RP 59 _ 0 [(0, .int 7), (1, .int a), (2, .int b), (3, .int c), (4, .int d)] [] _
            refine RP_step (pc1 := 242) (L1 := [(0, .int 7), (1, .int a), (2, .int b), (3, .int c), (4, .int d)]) (S1 := [.int a]) 3 0 (fun n => rfl) ?_
            refine RP_call 57 [.int a] (fun n => rfl) ?_
            show RP 57 _ 0 [(0, .int a)] [] _
            refine RP_step (pc1 := 4) (L1 := [(0, .int a)]) (S1 := [.int 15, .int 0, .int a]) 3 0 (fun n => rfl) ?_
            refine RP_call 55 [.int a, .int 0, .int 15] (fun n => rfl) ?_
            show RP 55 _ 0 [(0, .int a), (1, .int 0), (2, .int 15)] [] _
            refine RP_step (pc1 := 2) (L1 := [(0, .int a), (1, .int 0), (2, .int 15)]) (S1 := [.int 0, .int a]) 2 0 (fun n => rfl) ?_
            refine RP_cond (decide (a < 0)) (fun n => rfl) (fun h => absurd (of_decide_eq_true h) (xi_nlt (x := a) (y := 0) (show 0 ≤ a.toInt by omega))) (fun _ => ?_)
            show RP 55 _ 5 [(0, .int a), (1, .int 0), (2, .int 15)] [] _
            refine RP_step (pc1 := 7) (L1 := [(0, .int a), (1, .int 0), (2, .int 15)]) (S1 := [.int 15, .int a]) 2 0 (fun n => rfl) ?_
            refine RP_cond (decide (15 < a)) (fun n => rfl) (fun h => absurd (of_decide_eq_true h) (xi_nlt (x := 15) (y := a) (show a.toInt ≤ 15 by omega))) (fun _ => ?_)
            show RP 55 _ 10 [(0, .int a), (1, .int 0), (2, .int 15)] [] _
            refine RP_done 5 (fun n => rfl) ?_
            refine Or.inr ⟨1, rfl, ?_⟩
            show RP 57 _ 7 [(0, .int a)] [.int 1] _
            refine RP_done 3 (fun n => rfl) ?_
            refine Or.inr ⟨1, rfl, ?_⟩
            show RP 59 _ 245 [(0, .int 7), (1, .int a), (2, .int b), (3, .int c), (4, .int d)] [.int 1] _
            refine RP_step (pc1 := 250) (L1 := [(0, .int 7), (1, .int a), (2, .int b), (3, .int c), (4, .int d)]) (S1 := [.int c, .int b]) 3 0 (fun n => rfl) ?_
            refine RP_call 58 [.int b, .int c] (fun n => rfl) ?_
            show RP 58 _ 0 [(0, .int b), (1, .int c)] [] _
            refine RP_step (pc1 := 1) (L1 := [(0, .int b), (1, .int c)]) (S1 := [.int b]) 1 0 (fun n => rfl) ?_
            refine RP_call 57 [.int b] (fun n => rfl) ?_
            show RP 57 _ 0 [(0, .int b)] [] _
            refine RP_step (pc1 := 4) (L1 := [(0, .int b)]) (S1 := [.int 15, .int 0, .int b]) 3 0 (fun n => rfl) ?_
            refine RP_call 55 [.int b, .int 0, .int 15] (fun n => rfl) ?_
            show RP 55 _ 0 [(0, .int b), (1, .int 0), (2, .int 15)] [] _
            refine RP_step (pc1 := 2) (L1 := [(0, .int b), (1, .int 0), (2, .int 15)]) (S1 := [.int 0, .int b]) 2 0 (fun n => rfl) ?_
            refine RP_cond (decide (b < 0)) (fun n => rfl) (fun h => absurd (of_decide_eq_true h) (xi_nlt (x := b) (y := 0) (show 0 ≤ b.toInt by omega))) (fun _ => ?_)
            show RP 55 _ 5 [(0, .int b), (1, .int 0), (2, .int 15)] [] _
            refine RP_step (pc1 := 7) (L1 := [(0, .int b), (1, .int 0), (2, .int 15)]) (S1 := [.int 15, .int b]) 2 0 (fun n => rfl) ?_
            refine RP_cond (decide (15 < b)) (fun n => rfl) (fun _ => ?_) (fun h => absurd (xi_lt (x := 15) (y := b) (show 15 < b.toInt by omega)) (of_decide_eq_false h))
            show RP 55 _ 14 [(0, .int b), (1, .int 0), (2, .int 15)] [] _
            refine RP_done 4 (fun n => rfl) ?_
            refine Or.inr ⟨0, rfl, ?_⟩
            show RP 57 _ 7 [(0, .int b)] [.int 0] _
            refine RP_done 3 (fun n => rfl) ?_
            refine Or.inr ⟨0, rfl, ?_⟩
            show RP 58 _ 4 [(0, .int b), (1, .int c)] [.int 0] _
            refine RP_done 5 (fun n => rfl) ?_
            refine Or.inr ⟨0, rfl, ?_⟩
            show RP 59 _ 253 [(0, .int 7), (1, .int a), (2, .int b), (3, .int c), (4, .int d)] [.int 0] _
            refine RP_done 5 (fun n => rfl) ?_
            exact ⟨rfl, rfl⟩
          · have h173 := of_decide_eq_false hh
            have h174 : b.toInt < 16 := xj_nle h173
            show RP 23 _ 10 [(0, .int b)] [] _
            refine RP_done 5 (fun n => rfl) ?_
            refine Or.inr ⟨1, rfl, ?_⟩
            show RP 24 _ 4 [(0, .int b), (1, .int c)] [.int 1] _
            refine RP_step (pc1 := 9) (L1 := [(0, .int b), (1, .int c)]) (S1 := [.int 1, .int c]) 3 0 (fun n => rfl) ?_
            refine RP_cond (decide (c < 1)) (fun n => rfl) (fun hh => ?_) (fun hh => ?_)
            · have h175 := of_decide_eq_true hh
              have h176 : c.toInt < 1 := xj_lt h175
              show RP 24 _ 30 [(0, .int b), (1, .int c)] [] _
              refine RP_done 4 (fun n => rfl) ?_
              refine Or.inr ⟨0, rfl, ?_⟩
              show RP 25 _ 254 [(0, .int 7), (1, .int a), (2, .int b), (3, .int c), (4, .int d)] [.int 0] _
              refine RP_done 5 (fun n => rfl) ?_
              refine ⟨Or.inl rfl, rfl, ?_⟩
              show RP 59 _ 0 [(0, .int 7), (1, .int a), (2, .int b), (3, .int c), (4, .int d)] [] _
              refine RP_step (pc1 := 242) (L1 := [(0, .int 7), (1, .int a), (2, .int b), (3, .int c), (4, .int d)]) (S1 := [.int a]) 3 0 (fun n => rfl) ?_
              refine RP_call 57 [.int a] (fun n => rfl) ?_
              show RP 57 _ 0 [(0, .int a)] [] _
              refine RP_step (pc1 := 4) (L1 := [(0, .int a)]) (S1 := [.int 15, .int 0, .int a]) 3 0 (fun n => rfl) ?_
              refine RP_call 55 [.int a, .int 0, .int 15] (fun n => rfl) ?_
              show RP 55 _ 0 [(0, .int a), (1, .int 0), (2, .int 15)] [] _
              refine RP_step (pc1 := 2) (L1 := [(0, .int a), (1, .int 0), (2, .int 15)]) (S1 := [.int 0, .int a]) 2 0 (fun n => rfl) ?_
              refine RP_cond (decide (a < 0)) (fun n => rfl) (fun h => absurd (of_decide_eq_true h) (xi_nlt (x := a) (y := 0) (show 0 ≤ a.toInt by omega))) (fun _ => ?_)
              show RP 55 _ 5 [(0, .int a), (1, .int 0), (2, .int 15)] [] _
              refine RP_step (pc1 := 7) (L1 := [(0, .int a), (1, .int 0), (2, .int 15)]) (S1 := [.int 15, .int a]) 2 0 (fun n => rfl) ?_
              refine RP_cond (decide (15 < a)) (fun n => rfl) (fun h => absurd (of_decide_eq_true h) (xi_nlt (x := 15) (y := a) (show a.toInt ≤ 15 by omega))) (fun _ => ?_)
              show RP 55 _ 10 [(0, .int a), (1, .int 0), (2, .int 15)] [] _
              refine RP_done 5 (fun n => rfl) ?_
              refine Or.inr ⟨1, rfl, ?_⟩
              show RP 57 _ 7 [(0, .int a)] [.int 1] _
              refine RP_done 3 (fun n => rfl) ?_
              refine Or.inr ⟨1, rfl, ?_⟩
              show RP 59 _ 245 [(0, .int 7), (1, .int a), (2, .int b), (3, .int c), (4, .int d)] [.int 1] _
              refine RP_step (pc1 := 250) (L1 := [(0, .int 7), (1, .int a), (2, .int b), (3, .int c), (4, .int d)]) (S1 := [.int c, .int b]) 3 0 (fun n => rfl) ?_
              refine RP_call 58 [.int b, .int c] (fun n => rfl) ?_
              show RP 58 _ 0 [(0, .int b), (1, .int c)] [] _
              refine RP_step (pc1 := 1) (L1 := [(0, .int b), (1, .int c)]) (S1 := [.int b]) 1 0 (fun n => rfl) ?_
              refine RP_call 57 [.int b] (fun n => rfl) ?_
              show RP 57 _ 0 [(0, .int b)] [] _
              refine RP_step (pc1 := 4) (L1 := [(0, .int b)]) (S1 := [.int 15, .int 0, .int b]) 3 0 (fun n => rfl) ?_
              refine RP_call 55 [.int b, .int 0, .int 15] (fun n => rfl) ?_
              show RP 55 _ 0 [(0, .int b), (1, .int 0), (2, .int 15)] [] _
              refine RP_step (pc1 := 2) (L1 := [(0, .int b), (1, .int 0), (2, .int 15)]) (S1 := [.int 0, .int b]) 2 0 (fun n => rfl) ?_
              refine RP_cond (decide (b < 0)) (fun n => rfl) (fun h => absurd (of_decide_eq_true h) (xi_nlt (x := b) (y := 0) (show 0 ≤ b.toInt by omega))) (fun _ => ?_)
              show RP 55 _ 5 [(0, .int b), (1, .int 0), (2, .int 15)] [] _
              refine RP_step (pc1 := 7) (L1 := [(0, .int b), (1, .int 0), (2, .int 15)]) (S1 := [.int 15, .int b]) 2 0 (fun n => rfl) ?_
              refine RP_cond (decide (15 < b)) (fun n => rfl) (fun h => absurd (of_decide_eq_true h) (xi_nlt (x := 15) (y := b) (show b.toInt ≤ 15 by omega))) (fun _ => ?_)
              show RP 55 _ 10 [(0, .int b), (1, .int 0), (2, .int 15)] [] _
              refine RP_done 5 (fun n => rfl) ?_
              refine Or.inr ⟨1, rfl, ?_⟩
              show RP 57 _ 7 [(0, .int b)] [.int 1] _
              refine RP_done 3 (fun n => rfl) ?_
              refine Or.inr ⟨1, rfl, ?_⟩
              show RP 58 _ 4 [(0, .int b), (1, .int c)] [.int 1] _
              refine RP_step (pc1 := 11) (L1 := [(0, .int b), (1, .int c)]) (S1 := [.int 8, .int 1, .int c]) 4 0 (fun n => rfl) ?_
              refine RP_call 55 [.int c, .int 1, .int 8] (fun n => rfl) ?_
              show RP 55 _ 0 [(0, .int c), (1, .int 1), (2, .int 8)] [] _
              refine RP_step (pc1 := 2) (L1 := [(0, .int c), (1, .int 1), (2, .int 8)]) (S1 := [.int 1, .int c]) 2 0 (fun n => rfl) ?_
              refine RP_cond (decide (c < 1)) (fun n => rfl) (fun _ => ?_) (fun h => absurd (xi_lt (x := c) (y := 1) (show c.toInt < 1 by omega)) (of_decide_eq_false h))
              show RP 55 _ 14 [(0, .int c), (1, .int 1), (2, .int 8)] [] _
              refine RP_done 4 (fun n => rfl) ?_
              refine Or.inr ⟨0, rfl, ?_⟩
              show RP 58 _ 14 [(0, .int b), (1, .int c)] [.int 0] _
              refine RP_done 5 (fun n => rfl) ?_
              refine Or.inr ⟨0, rfl, ?_⟩
              show RP 59 _ 253 [(0, .int 7), (1, .int a), (2, .int b), (3, .int c), (4, .int d)] [.int 0] _
              refine RP_done 5 (fun n => rfl) ?_
              exact ⟨rfl, rfl⟩
            · have h177 := of_decide_eq_false hh
              have h178 : 1 ≤ c.toInt := xj_nlt h177
              show RP 24 _ 12 [(0, .int b), (1, .int c)] [] _
              refine RP_step (pc1 := 15) (L1 := [(0, .int b), (1, .int c)]) (S1 := [.int 8, .int c]) 2 0 (fun n => rfl) ?_
              refine RP_cond (decide (8 < c)) (fun n => rfl) (fun hh => ?_) (fun hh => ?_)
              · have h179 := of_decide_eq_true hh
                have h180 : 8 < c.toInt := xj_lt h179
                show RP 24 _ 30 [(0, .int b), (1, .int c)] [] _
                refine RP_done 4 (fun n => rfl) ?_
                refine Or.inr ⟨0, rfl, ?_⟩
                show RP 25 _ 254 [(0, .int 7), (1, .int a), (2, .int b), (3, .int c), (4, .int d)] [.int 0] _
                refine RP_done 5 (fun n => rfl) ?_
                refine ⟨Or.inl rfl, rfl, ?_⟩
                show RP 59 _ 0 [(0, .int 7), (1, .int a), (2, .int b), (3, .int c), (4, .int d)] [] _
                refine RP_step (pc1 := 242) (L1 := [(0, .int 7), (1, .int a), (2, .int b), (3, .int c), (4, .int d)]) (S1 := [.int a]) 3 0 (fun n => rfl) ?_
                refine RP_call 57 [.int a] (fun n => rfl) ?_
                show RP 57 _ 0 [(0, .int a)] [] _
                refine RP_step (pc1 := 4) (L1 := [(0, .int a)]) (S1 := [.int 15, .int 0, .int a]) 3 0 (fun n => rfl) ?_
                refine RP_call 55 [.int a, .int 0, .int 15] (fun n => rfl) ?_
                show RP 55 _ 0 [(0, .int a), (1, .int 0), (2, .int 15)] [] _
                refine RP_step (pc1 := 2) (L1 := [(0, .int a), (1, .int 0), (2, .int 15)]) (S1 := [.int 0, .int a]) 2 0 (fun n => rfl) ?_
                refine RP_cond (decide (a < 0)) (fun n => rfl) (fun h => absurd (of_decide_eq_true h) (xi_nlt (x := a) (y := 0) (show 0 ≤ a.toInt by omega))) (fun _ => ?_)
                show RP 55 _ 5 [(0, .int a), (1, .int 0), (2, .int 15)] [] _
                refine RP_step (pc1 := 7) (L1 := [(0, .int a), (1, .int 0), (2, .int 15)]) (S1 := [.int 15, .int a]) 2 0 (fun n => rfl) ?_
                refine RP_cond (decide (15 < a)) (fun n => rfl) (fun h => absurd (of_decide_eq_true h) (xi_nlt (x := 15) (y := a) (show a.toInt ≤ 15 by omega))) (fun _ => ?_)
                show RP 55 _ 10 [(0, .int a), (1, .int 0), (2, .int 15)] [] _
                refine RP_done 5 (fun n => rfl) ?_
                refine Or.inr ⟨1, rfl, ?_⟩
                show RP 57 _ 7 [(0, .int a)] [.int 1] _
                refine RP_done 3 (fun n => rfl) ?_
                refine Or.inr ⟨1, rfl, ?_⟩
                show RP 59 _ 245 [(0, .int 7), (1, .int a), (2, .int b), (3, .int c), (4, .int d)] [.int 1] _
                refine RP_step (pc1 := 250) (L1 := [(0, .int 7), (1, .int a), (2, .int b), (3, .int c), (4, .int d)]) (S1 := [.int c, .int b]) 3 0 (fun n => rfl) ?_
                refine RP_call 58 [.int b, .int c] (fun n => rfl) ?_
                show RP 58 _ 0 [(0, .int b), (1, .int c)] [] _
                refine RP_step (pc1 := 1) (L1 := [(0, .int b), (1, .int c)]) (S1 := [.int b]) 1 0 (fun n => rfl) ?_
                refine RP_call 57 [.int b] (fun n => rfl) ?_
                show RP 57 _ 0 [(0, .int b)] [] _
                refine RP_step (pc1 := 4) (L1 := [(0, .int b)]) (S1 := [.int 15, .int 0, .int b]) 3 0 (fun n => rfl) ?_
                refine RP_call 55 [.int b, .int 0, .int 15] (fun n => rfl) ?_
                show RP 55 _ 0 [(0, .int b), (1, .int 0), (2, .int 15)] [] _
                refine RP_step (pc1 := 2) (L1 := [(0, .int b), (1, .int 0), (2, .int 15)]) (S1 := [.int 0, .int b]) 2 0 (fun n => rfl) ?_
                refine RP_cond (decide (b < 0)) (fun n => rfl) (fun h => absurd (of_decide_eq_true h) (xi_nlt (x := b) (y := 0) (show 0 ≤ b.toInt by omega))) (fun _ => ?_)
                show RP 55 _ 5 [(0, .int b), (1, .int 0), (2, .int 15)] [] _
                refine RP_step (pc1 := 7) (L1 := [(0, .int b), (1, .int 0), (2, .int 15)]) (S1 := [.int 15, .int b]) 2 0 (fun n => rfl) ?_
                refine RP_cond (decide (15 < b)) (fun n => rfl) (fun h => absurd (of_decide_eq_true h) (xi_nlt (x := 15) (y := b) (show b.toInt ≤ 15 by omega))) (fun _ => ?_)
                show RP 55 _ 10 [(0, .int b), (1, .int 0), (2, .int 15)] [] _
                refine RP_done 5 (fun n => rfl) ?_
                refine Or.inr ⟨1, rfl, ?_⟩
                show RP 57 _ 7 [(0, .int b)] [.int 1] _
                refine RP_done 3 (fun n => rfl) ?_
                refine Or.inr ⟨1, rfl, ?_⟩
                show RP 58 _ 4 [(0, .int b), (1, .int c)] [.int 1] _
                refine RP_step (pc1 := 11) (L1 := [(0, .int b), (1, .int c)]) (S1 := [.int 8, .int 1, .int c]) 4 0 (fun n => rfl) ?_
                refine RP_call 55 [.int c, .int 1, .int 8] (fun n => rfl) ?_
                show RP 55 _ 0 [(0, .int c), (1, .int 1), (2, .int 8)] [] _
                refine RP_step (pc1 := 2) (L1 := [(0, .int c), (1, .int 1), (2, .int 8)]) (S1 := [.int 1, .int c]) 2 0 (fun n => rfl) ?_
                refine RP_cond (decide (c < 1)) (fun n => rfl) (fun h => absurd (of_decide_eq_true h) (xi_nlt (x := c) (y := 1) (show 1 ≤ c.toInt by omega))) (fun _ => ?_)
                show RP 55 _ 5 [(0, .int c), (1, .int 1), (2, .int 8)] [] _
                refine RP_step (pc1 := 7) (L1 := [(0, .int c), (1, .int 1), (2, .int 8)]) (S1 := [.int 8, .int c]) 2 0 (fun n => rfl) ?_
                refine RP_cond (decide (8 < c)) (fun n => rfl) (fun _ => ?_) (fun h => absurd (xi_lt (x := 8) (y := c) (show 8 < c.toInt by omega)) (of_decide_eq_false h))
                show RP 55 _ 14 [(0, .int c), (1, .int 1), (2, .int 8)] [] _
                refine RP_done 4 (fun n => rfl) ?_
                refine Or.inr ⟨0, rfl, ?_⟩
                show RP 58 _ 14 [(0, .int b), (1, .int c)] [.int 0] _
                refine RP_done 5 (fun n => rfl) ?_
                refine Or.inr ⟨0, rfl, ?_⟩
                show RP 59 _ 253 [(0, .int 7), (1, .int a), (2, .int b), (3, .int c), (4, .int d)] [.int 0] _
                refine RP_done 5 (fun n => rfl) ?_
                exact ⟨rfl, rfl⟩
              · have h181 := of_decide_eq_false hh
                have h182 : c.toInt ≤ 8 := xj_nlt h181
                show RP 24 _ 18 [(0, .int b), (1, .int c)] [] _
                refine RP_step (pc1 := 20) (L1 := [(0, .int b), (1, .int c)]) (S1 := [.int c, .int b]) 2 0 (fun n => rfl) ?_
                refine RP_bin (fun x y => x + y) (fun n => rfl) ?_
                show RP 24 _ 21 [(0, .int b), (1, .int c)] [.int (b + c)] _
                refine RP_step (pc1 := 23) (L1 := [(0, .int b), (1, .int c)]) (S1 := [.int 16, .int (b + c)]) 1 0 (fun n => rfl) ?_
                refine RP_cond (decide (16 < (b + c))) (fun n => rfl) (fun hh => ?_) (fun hh => ?_)
                · have h183 := of_decide_eq_true hh
                  have h184 : 16 < (b + c).toInt := xj_lt h183
                  show RP 24 _ 30 [(0, .int b), (1, .int c)] [] _
                  refine RP_done 4 (fun n => rfl) ?_
                  refine Or.inr ⟨0, rfl, ?_⟩
                  show RP 25 _ 254 [(0, .int 7), (1, .int a), (2, .int b), (3, .int c), (4, .int d)] [.int 0] _
                  refine RP_done 5 (fun n => rfl) ?_
                  refine ⟨Or.inl rfl, rfl, ?_⟩
                  show RP 59 _ 0 [(0, .int 7), (1, .int a), (2, .int b), (3, .int c), (4, .int d)] [] _
                  refine RP_step (pc1 := 242) (L1 := [(0, .int 7), (1, .int a), (2, .int b), (3, .int c), (4, .int d)]) (S1 := [.int a]) 3 0 (fun n => rfl) ?_
                  refine RP_call 57 [.int a] (fun n => rfl) ?_
                  show RP 57 _ 0 [(0, .int a)] [] _
                  refine RP_step (pc1 := 4) (L1 := [(0, .int a)]) (S1 := [.int 15, .int 0, .int a]) 3 0 (fun n => rfl) ?_
                  refine RP_call 55 [.int a, .int 0, .int 15] (fun n => rfl) ?_
                  show RP 55 _ 0 [(0, .int a), (1, .int 0), (2, .int 15)] [] _
                  refine RP_step (pc1 := 2) (L1 := [(0, .int a), (1, .int 0), (2, .int 15)]) (S1 := [.int 0, .int a]) 2 0 (fun n => rfl) ?_
                  refine RP_cond (decide (a < 0)) (fun n => rfl) (fun h => absurd (of_decide_eq_true h) (xi_nlt (x := a) (y := 0) (show 0 ≤ a.toInt by omega))) (fun _ => ?_)
                  show RP 55 _ 5 [(0, .int a), (1, .int 0), (2, .int 15)] [] _
                  refine RP_step (pc1 := 7) (L1 := [(0, .int a), (1, .int 0), (2, .int 15)]) (S1 := [.int 15, .int a]) 2 0 (fun n => rfl) ?_
                  refine RP_cond (decide (15 < a)) (fun n => rfl) (fun h => absurd (of_decide_eq_true h) (xi_nlt (x := 15) (y := a) (show a.toInt ≤ 15 by omega))) (fun _ => ?_)
                  show RP 55 _ 10 [(0, .int a), (1, .int 0), (2, .int 15)] [] _
                  refine RP_done 5 (fun n => rfl) ?_
                  refine Or.inr ⟨1, rfl, ?_⟩
                  show RP 57 _ 7 [(0, .int a)] [.int 1] _
                  refine RP_done 3 (fun n => rfl) ?_
                  refine Or.inr ⟨1, rfl, ?_⟩
                  show RP 59 _ 245 [(0, .int 7), (1, .int a), (2, .int b), (3, .int c), (4, .int d)] [.int 1] _
                  refine RP_step (pc1 := 250) (L1 := [(0, .int 7), (1, .int a), (2, .int b), (3, .int c), (4, .int d)]) (S1 := [.int c, .int b]) 3 0 (fun n => rfl) ?_
                  refine RP_call 58 [.int b, .int c] (fun n => rfl) ?_
                  show RP 58 _ 0 [(0, .int b), (1, .int c)] [] _
                  refine RP_step (pc1 := 1) (L1 := [(0, .int b), (1, .int c)]) (S1 := [.int b]) 1 0 (fun n => rfl) ?_
                  refine RP_call 57 [.int b] (fun n => rfl) ?_
                  show RP 57 _ 0 [(0, .int b)] [] _
                  refine RP_step (pc1 := 4) (L1 := [(0, .int b)]) (S1 := [.int 15, .int 0, .int b]) 3 0 (fun n => rfl) ?_
                  refine RP_call 55 [.int b, .int 0, .int 15] (fun n => rfl) ?_
                  show RP 55 _ 0 [(0, .int b), (1, .int 0), (2, .int 15)] [] _
                  refine RP_step (pc1 := 2) (L1 := [(0, .int b), (1, .int 0), (2, .int 15)]) (S1 := [.int 0, .int b]) 2 0 (fun n => rfl) ?_
                  refine RP_cond (decide (b < 0)) (fun n => rfl) (fun h => absurd (of_decide_eq_true h) (xi_nlt (x := b) (y := 0) (show 0 ≤ b.toInt by omega))) (fun _ => ?_)
                  show RP 55 _ 5 [(0, .int b), (1, .int 0), (2, .int 15)] [] _
                  refine RP_step (pc1 := 7) (L1 := [(0, .int b), (1, .int 0), (2, .int 15)]) (S1 := [.int 15, .int b]) 2 0 (fun n => rfl) ?_
                  refine RP_cond (decide (15 < b)) (fun n => rfl) (fun h => absurd (of_decide_eq_true h) (xi_nlt (x := 15) (y := b) (show b.toInt ≤ 15 by omega))) (fun _ => ?_)
                  show RP 55 _ 10 [(0, .int b), (1, .int 0), (2, .int 15)] [] _
                  refine RP_done 5 (fun n => rfl) ?_
                  refine Or.inr ⟨1, rfl, ?_⟩
                  show RP 57 _ 7 [(0, .int b)] [.int 1] _
                  refine RP_done 3 (fun n => rfl) ?_
                  refine Or.inr ⟨1, rfl, ?_⟩
                  show RP 58 _ 4 [(0, .int b), (1, .int c)] [.int 1] _
                  refine RP_step (pc1 := 11) (L1 := [(0, .int b), (1, .int c)]) (S1 := [.int 8, .int 1, .int c]) 4 0 (fun n => rfl) ?_
                  refine RP_call 55 [.int c, .int 1, .int 8] (fun n => rfl) ?_
                  show RP 55 _ 0 [(0, .int c), (1, .int 1), (2, .int 8)] [] _
                  refine RP_step (pc1 := 2) (L1 := [(0, .int c), (1, .int 1), (2, .int 8)]) (S1 := [.int 1, .int c]) 2 0 (fun n => rfl) ?_
                  refine RP_cond (decide (c < 1)) (fun n => rfl) (fun h => absurd (of_decide_eq_true h) (xi_nlt (x := c) (y := 1) (show 1 ≤ c.toInt by omega))) (fun _ => ?_)
                  show RP 55 _ 5 [(0, .int c), (1, .int 1), (2, .int 8)] [] _
                  refine RP_step (pc1 := 7) (L1 := [(0, .int c), (1, .int 1), (2, .int 8)]) (S1 := [.int 8, .int c]) 2 0 (fun n => rfl) ?_
                  refine RP_cond (decide (8 < c)) (fun n => rfl) (fun h => absurd (of_decide_eq_true h) (xi_nlt (x := 8) (y := c) (show c.toInt ≤ 8 by omega))) (fun _ => ?_)
                  show RP 55 _ 10 [(0, .int c), (1, .int 1), (2, .int 8)] [] _
                  refine RP_done 5 (fun n => rfl) ?_
                  refine Or.inr ⟨1, rfl, ?_⟩
                  show RP 58 _ 14 [(0, .int b), (1, .int c)] [.int 1] _
                  refine RP_step (pc1 := 19) (L1 := [(0, .int b), (1, .int c)]) (S1 := [.int c, .int b]) 3 0 (fun n => rfl) ?_
                  refine RP_bin (fun x y => x + y) (fun n => rfl) ?_
                  show RP 58 _ 20 [(0, .int b), (1, .int c)] [.int (b + c)] _
                  refine RP_step (pc1 := 22) (L1 := [(0, .int b), (1, .int c)]) (S1 := [.int 16, .int (b + c)]) 1 0 (fun n => rfl) ?_
                  refine RP_cond (decide (16 < (b + c))) (fun n => rfl) (fun _ => ?_) (fun h => absurd (xi_lt (x := 16) (y := (b + c)) (show 16 < (b + c).toInt by omega)) (of_decide_eq_false h))
                  show RP 58 _ 29 [(0, .int b), (1, .int c)] [] _
                  refine RP_done 4 (fun n => rfl) ?_
                  refine Or.inr ⟨0, rfl, ?_⟩
                  show RP 59 _ 253 [(0, .int 7), (1, .int a), (2, .int b), (3, .int c), (4, .int d)] [.int 0] _
                  refine RP_done 5 (fun n => rfl) ?_
                  exact ⟨rfl, rfl⟩
                · have h185 := of_decide_eq_false hh
                  have h186 : (b + c).toInt ≤ 16 := xj_nlt h185
                  show RP 24 _ 26 [(0, .int b), (1, .int c)] [] _
                  refine RP_done 5 (fun n => rfl) ?_
                  refine Or.inr ⟨1, rfl, ?_⟩
                  show RP 25 _ 254 [(0, .int 7), (1, .int a), (2, .int b), (3, .int c), (4, .int d)] [.int 1] _
                  refine RP_step (pc1 := 259) (L1 := [(0, .int 7), (1, .int a), (2, .int b), (3, .int c), (4, .int d)]) (S1 := [.int d]) 2 0 (fun n => rfl) ?_
                  refine RP_call 23 [.int d] (fun n => rfl) ?_
                  show RP 23 _ 0 [(0, .int d)] [] _
                  refine RP_step (pc1 := 1) (L1 := [(0, .int d)]) (S1 := [.int d]) 1 0 (fun n => rfl) ?_
                  refine RP_cond (decide (d < 0)) (fun n => rfl) (fun hh => ?_) (fun hh => ?_)
                  · have h187 := of_decide_eq_true hh
                    have h188 : d.toInt < 0 := xj_lt h187
                    show RP 23 _ 14 [(0, .int d)] [] _
                    refine RP_done 4 (fun n => rfl) ?_
                    refine Or.inr ⟨0, rfl, ?_⟩
                    show RP 25 _ 262 [(0, .int 7), (1, .int a), (2, .int b), (3, .int c), (4, .int d)] [.int 0] _
                    refine RP_done 5 (fun n => rfl) ?_
                    refine ⟨Or.inl rfl, rfl, ?_⟩
                    show RP 59 _ 0 [(0, .int 7), (1, .int a), (2, .int b), (3, .int c), (4, .int d)] [] _
                    refine RP_step (pc1 := 242) (L1 := [(0, .int 7), (1, .int a), (2, .int b), (3, .int c), (4, .int d)]) (S1 := [.int a]) 3 0 (fun n => rfl) ?_
                    refine RP_call 57 [.int a] (fun n => rfl) ?_
                    show RP 57 _ 0 [(0, .int a)] [] _
                    refine RP_step (pc1 := 4) (L1 := [(0, .int a)]) (S1 := [.int 15, .int 0, .int a]) 3 0 (fun n => rfl) ?_
                    refine RP_call 55 [.int a, .int 0, .int 15] (fun n => rfl) ?_
                    show RP 55 _ 0 [(0, .int a), (1, .int 0), (2, .int 15)] [] _
                    refine RP_step (pc1 := 2) (L1 := [(0, .int a), (1, .int 0), (2, .int 15)]) (S1 := [.int 0, .int a]) 2 0 (fun n => rfl) ?_
                    refine RP_cond (decide (a < 0)) (fun n => rfl) (fun h => absurd (of_decide_eq_true h) (xi_nlt (x := a) (y := 0) (show 0 ≤ a.toInt by omega))) (fun _ => ?_)
                    show RP 55 _ 5 [(0, .int a), (1, .int 0), (2, .int 15)] [] _
                    refine RP_step (pc1 := 7) (L1 := [(0, .int a), (1, .int 0), (2, .int 15)]) (S1 := [.int 15, .int a]) 2 0 (fun n => rfl) ?_
                    refine RP_cond (decide (15 < a)) (fun n => rfl) (fun h => absurd (of_decide_eq_true h) (xi_nlt (x := 15) (y := a) (show a.toInt ≤ 15 by omega))) (fun _ => ?_)
                    show RP 55 _ 10 [(0, .int a), (1, .int 0), (2, .int 15)] [] _
                    refine RP_done 5 (fun n => rfl) ?_
                    refine Or.inr ⟨1, rfl, ?_⟩
                    show RP 57 _ 7 [(0, .int a)] [.int 1] _
                    refine RP_done 3 (fun n => rfl) ?_
                    refine Or.inr ⟨1, rfl, ?_⟩
                    show RP 59 _ 245 [(0, .int 7), (1, .int a), (2, .int b), (3, .int c), (4, .int d)] [.int 1] _
                    refine RP_step (pc1 := 250) (L1 := [(0, .int 7), (1, .int a), (2, .int b), (3, .int c), (4, .int d)]) (S1 := [.int c, .int b]) 3 0 (fun n => rfl) ?_
                    refine RP_call 58 [.int b, .int c] (fun n => rfl) ?_
                    show RP 58 _ 0 [(0, .int b), (1, .int c)] [] _
                    refine RP_step (pc1 := 1) (L1 := [(0, .int b), (1, .int c)]) (S1 := [.int b]) 1 0 (fun n => rfl) ?_
                    refine RP_call 57 [.int b] (fun n => rfl) ?_
                    show RP 57 _ 0 [(0, .int b)] [] _
                    refine RP_step (pc1 := 4) (L1 := [(0, .int b)]) (S1 := [.int 15, .int 0, .int b]) 3 0 (fun n => rfl) ?_
                    refine RP_call 55 [.int b, .int 0, .int 15] (fun n => rfl) ?_
                    show RP 55 _ 0 [(0, .int b), (1, .int 0), (2, .int 15)] [] _
                    refine RP_step (pc1 := 2) (L1 := [(0, .int b), (1, .int 0), (2, .int 15)]) (S1 := [.int 0, .int b]) 2 0 (fun n => rfl) ?_
                    refine RP_cond (decide (b < 0)) (fun n => rfl) (fun h => absurd (of_decide_eq_true h) (xi_nlt (x := b) (y := 0) (show 0 ≤ b.toInt by omega))) (fun _ => ?_)
                    show RP 55 _ 5 [(0, .int b), (1, .int 0), (2, .int 15)] [] _
                    refine RP_step (pc1 := 7) (L1 := [(0, .int b), (1, .int 0), (2, .int 15)]) (S1 := [.int 15, .int b]) 2 0 (fun n => rfl) ?_
                    refine RP_cond (decide (15 < b)) (fun n => rfl) (fun h => absurd (of_decide_eq_true h) (xi_nlt (x := 15) (y := b) (show b.toInt ≤ 15 by omega))) (fun _ => ?_)
                    show RP 55 _ 10 [(0, .int b), (1, .int 0), (2, .int 15)] [] _
                    refine RP_done 5 (fun n => rfl) ?_
                    refine Or.inr ⟨1, rfl, ?_⟩
                    show RP 57 _ 7 [(0, .int b)] [.int 1] _
                    refine RP_done 3 (fun n => rfl) ?_
                    refine Or.inr ⟨1, rfl, ?_⟩
                    show RP 58 _ 4 [(0, .int b), (1, .int c)] [.int 1] _
                    refine RP_step (pc1 := 11) (L1 := [(0, .int b), (1, .int c)]) (S1 := [.int 8, .int 1, .int c]) 4 0 (fun n => rfl) ?_
                    refine RP_call 55 [.int c, .int 1, .int 8] (fun n => rfl) ?_
                    show RP 55 _ 0 [(0, .int c), (1, .int 1), (2, .int 8)] [] _
                    refine RP_step (pc1 := 2) (L1 := [(0, .int c), (1, .int 1), (2, .int 8)]) (S1 := [.int 1, .int c]) 2 0 (fun n => rfl) ?_
                    refine RP_cond (decide (c < 1)) (fun n => rfl) (fun h => absurd (of_decide_eq_true h) (xi_nlt (x := c) (y := 1) (show 1 ≤ c.toInt by omega))) (fun _ => ?_)
                    show RP 55 _ 5 [(0, .int c), (1, .int 1), (2, .int 8)] [] _
                    refine RP_step (pc1 := 7) (L1 := [(0, .int c), (1, .int 1), (2, .int 8)]) (S1 := [.int 8, .int c]) 2 0 (fun n => rfl) ?_
                    refine RP_cond (decide (8 < c)) (fun n => rfl) (fun h => absurd (of_decide_eq_true h) (xi_nlt (x := 8) (y := c) (show c.toInt ≤ 8 by omega))) (fun _ => ?_)
                    show RP 55 _ 10 [(0, .int c), (1, .int 1), (2, .int 8)] [] _
                    refine RP_done 5 (fun n => rfl) ?_
                    refine Or.inr ⟨1, rfl, ?_⟩
                    show RP 58 _ 14 [(0, .int b), (1, .int c)] [.int 1] _
                    refine RP_step (pc1 := 19) (L1 := [(0, .int b), (1, .int c)]) (S1 := [.int c, .int b]) 3 0 (fun n => rfl) ?_
                    refine RP_bin (fun x y => x + y) (fun n => rfl) ?_
                    show RP 58 _ 20 [(0, .int b), (1, .int c)] [.int (b + c)] _
                    refine RP_step (pc1 := 22) (L1 := [(0, .int b), (1, .int c)]) (S1 := [.int 16, .int (b + c)]) 1 0 (fun n => rfl) ?_
                    refine RP_cond (decide (16 < (b + c))) (fun n => rfl) (fun h => absurd (of_decide_eq_true h) (xi_nlt (x := 16) (y := (b + c)) (show (b + c).toInt ≤ 16 by omega))) (fun _ => ?_)
                    show RP 58 _ 25 [(0, .int b), (1, .int c)] [] _
                    refine RP_done 5 (fun n => rfl) ?_
                    refine Or.inr ⟨1, rfl, ?_⟩
                    show RP 59 _ 253 [(0, .int 7), (1, .int a), (2, .int b), (3, .int c), (4, .int d)] [.int 1] _
                    refine RP_step (pc1 := 258) (L1 := [(0, .int 7), (1, .int a), (2, .int b), (3, .int c), (4, .int d)]) (S1 := [.int d]) 2 0 (fun n => rfl) ?_
                    refine RP_call 57 [.int d] (fun n => rfl) ?_
                    show RP 57 _ 0 [(0, .int d)] [] _
                    refine RP_step (pc1 := 4) (L1 := [(0, .int d)]) (S1 := [.int 15, .int 0, .int d]) 3 0 (fun n => rfl) ?_
                    refine RP_call 55 [.int d, .int 0, .int 15] (fun n => rfl) ?_
                    show RP 55 _ 0 [(0, .int d), (1, .int 0), (2, .int 15)] [] _
                    refine RP_step (pc1 := 2) (L1 := [(0, .int d), (1, .int 0), (2, .int 15)]) (S1 := [.int 0, .int d]) 2 0 (fun n => rfl) ?_
                    refine RP_cond (decide (d < 0)) (fun n => rfl) (fun _ => ?_) (fun h => absurd (xi_lt (x := d) (y := 0) (show d.toInt < 0 by omega)) (of_decide_eq_false h))
                    show RP 55 _ 14 [(0, .int d), (1, .int 0), (2, .int 15)] [] _
                    refine RP_done 4 (fun n => rfl) ?_
                    refine Or.inr ⟨0, rfl, ?_⟩
                    show RP 57 _ 7 [(0, .int d)] [.int 0] _
                    refine RP_done 3 (fun n => rfl) ?_
                    refine Or.inr ⟨0, rfl, ?_⟩
                    show RP 59 _ 261 [(0, .int 7), (1, .int a), (2, .int b), (3, .int c), (4, .int d)] [.int 0] _
                    refine RP_done 5 (fun n => rfl) ?_
                    exact ⟨rfl, rfl⟩
                  · have h189 := of_decide_eq_false hh
                    have h190 : 0 ≤ d.toInt := xj_nlt h189
                    show RP 23 _ 4 [(0, .int d)] [] _
                    refine RP_step (pc1 := 7) (L1 := [(0, .int d)]) (S1 := [.int 16, .int d]) 2 0 (fun n => rfl) ?_
                    refine RP_cond (decide (16 ≤ d)) (fun n => rfl) (fun hh => ?_) (fun hh => ?_)
                    · have h191 := of_decide_eq_true hh
                      have h192 : 16 ≤ d.toInt := xj_le h191
                      show RP 23 _ 14 [(0, .int d)] [] _
                      refine RP_done 4 (fun n => rfl) ?_
                      refine Or.inr ⟨0, rfl, ?_⟩
                      show RP 25 _ 262 [(0, .int 7), (1, .int a), (2, .int b), (3, .int c), (4, .int d)] [.int 0] _
                      refine RP_done 5 (fun n => rfl) ?_
                      refine ⟨Or.inl rfl, rfl, ?_⟩
                      show RP 59 _ 0 [(0, .int 7), (1, .int a), (2, .int b), (3, .int c), (4, .int d)] [] _
                      refine RP_step (pc1 := 242) (L1 := [(0, .int 7), (1, .int a), (2, .int b), (3, .int c), (4, .int d)]) (S1 := [.int a]) 3 0 (fun n => rfl) ?_
                      refine RP_call 57 [.int a] (fun n => rfl) ?_
                      show RP 57 _ 0 [(0, .int a)] [] _
                      refine RP_step (pc1 := 4) (L1 := [(0, .int a)]) (S1 := [.int 15, .int 0, .int a]) 3 0 (fun n => rfl) ?_
                      refine RP_call 55 [.int a, .int 0, .int 15] (fun n => rfl) ?_
                      show RP 55 _ 0 [(0, .int a), (1, .int 0), (2, .int 15)] [] _
                      refine RP_step (pc1 := 2) (L1 := [(0, .int a), (1, .int 0), (2, .int 15)]) (S1 := [.int 0, .int a]) 2 0 (fun n => rfl) ?_
                      refine RP_cond (decide (a < 0)) (fun n => rfl) (fun h => absurd (of_decide_eq_true h) (xi_nlt (x := a) (y := 0) (show 0 ≤ a.toInt by omega))) (fun _ => ?_)
                      show RP 55 _ 5 [(0, .int a), (1, .int 0), (2, .int 15)] [] _
                      refine RP_step (pc1 := 7) (L1 := [(0, .int a), (1, .int 0), (2, .int 15)]) (S1 := [.int 15, .int a]) 2 0 (fun n => rfl) ?_
                      refine RP_cond (decide (15 < a)) (fun n => rfl) (fun h => absurd (of_decide_eq_true h) (xi_nlt (x := 15) (y := a) (show a.toInt ≤ 15 by omega))) (fun _ => ?_)
                      show RP 55 _ 10 [(0, .int a), (1, .int 0), (2, .int 15)] [] _
                      refine RP_done 5 (fun n => rfl) ?_
                      refine Or.inr ⟨1, rfl, ?_⟩
                      show RP 57 _ 7 [(0, .int a)] [.int 1] _
                      refine RP_done 3 (fun n => rfl) ?_
                      refine Or.inr ⟨1, rfl, ?_⟩
                      show RP 59 _ 245 [(0, .int 7), (1, .int a), (2, .int b), (3, .int c), (4, .int d)] [.int 1] _
                      refine RP_step (pc1 := 250) (L1 := [(0, .int 7), (1, .int a), (2, .int b), (3, .int c), (4, .int d)]) (S1 := [.int c, .int b]) 3 0 (fun n => rfl) ?_
                      refine RP_call 58 [.int b, .int c] (fun n => rfl) ?_
                      show RP 58 _ 0 [(0, .int b), (1, .int c)] [] _
                      refine RP_step (pc1 := 1) (L1 := [(0, .int b), (1, .int c)]) (S1 := [.int b]) 1 0 (fun n => rfl) ?_
                      refine RP_call 57 [.int b] (fun n => rfl) ?_
                      show RP 57 _ 0 [(0, .int b)] [] _
                      refine RP_step (pc1 := 4) (L1 := [(0, .int b)]) (S1 := [.int 15, .int 0, .int b]) 3 0 (fun n => rfl) ?_
                      refine RP_call 55 [.int b, .int 0, .int 15] (fun n => rfl) ?_
                      show RP 55 _ 0 [(0, .int b), (1, .int 0), (2, .int 15)] [] _
                      refine RP_step (pc1 := 2) (L1 := [(0, .int b), (1, .int 0), (2, .int 15)]) (S1 := [.int 0, .int b]) 2 0 (fun n => rfl) ?_
                      refine RP_cond (decide (b < 0)) (fun n => rfl) (fun h => absurd (of_decide_eq_true h) (xi_nlt (x := b) (y := 0) (show 0 ≤ b.toInt by omega))) (fun _ => ?_)
                      show RP 55 _ 5 [(0, .int b), (1, .int 0), (2, .int 15)] [] _
                      refine RP_step (pc1 := 7) (L1 := [(0, .int b), (1, .int 0), (2, .int 15)]) (S1 := [.int 15, .int b]) 2 0 (fun n => rfl) ?_
                      refine RP_cond (decide (15 < b)) (fun n => rfl) (fun h => absurd (of_decide_eq_true h) (xi_nlt (x := 15) (y := b) (show b.toInt ≤ 15 by omega))) (fun _ => ?_)
                      show RP 55 _ 10 [(0, .int b), (1, .int 0), (2, .int 15)] [] _
                      refine RP_done 5 (fun n => rfl) ?_
                      refine Or.inr ⟨1, rfl, ?_⟩
                      show RP 57 _ 7 [(0, .int b)] [.int 1] _
                      refine RP_done 3 (fun n => rfl) ?_
                      refine Or.inr ⟨1, rfl, ?_⟩
                      show RP 58 _ 4 [(0, .int b), (1, .int c)] [.int 1] _
                      refine RP_step (pc1 := 11) (L1 := [(0, .int b), (1, .int c)]) (S1 := [.int 8, .int 1, .int c]) 4 0 (fun n => rfl) ?_
                      refine RP_call 55 [.int c, .int 1, .int 8] (fun n => rfl) ?_
                      show RP 55 _ 0 [(0, .int c), (1, .int 1), (2, .int 8)] [] _
                      refine RP_step (pc1 := 2) (L1 := [(0, .int c), (1, .int 1), (2, .int 8)]) (S1 := [.int 1, .int c]) 2 0 (fun n => rfl) ?_
                      refine RP_cond (decide (c < 1)) (fun n => rfl) (fun h => absurd (of_decide_eq_true h) (xi_nlt (x := c) (y := 1) (show 1 ≤ c.toInt by omega))) (fun _ => ?_)
                      show RP 55 _ 5 [(0, .int c), (1, .int 1), (2, .int 8)] [] _
                      refine RP_step (pc1 := 7) (L1 := [(0, .int c), (1, .int 1), (2, .int 8)]) (S1 := [.int 8, .int c]) 2 0 (fun n => rfl) ?_
                      refine RP_cond (decide (8 < c)) (fun n => rfl) (fun h => absurd (of_decide_eq_true h) (xi_nlt (x := 8) (y := c) (show c.toInt ≤ 8 by omega))) (fun _ => ?_)
                      show RP 55 _ 10 [(0, .int c), (1, .int 1), (2, .int 8)] [] _
                      refine RP_done 5 (fun n => rfl) ?_
                      refine Or.inr ⟨1, rfl, ?_⟩
                      show RP 58 _ 14 [(0, .int b), (1, .int c)] [.int 1] _
                      refine RP_step (pc1 := 19) (L1 := [(0, .int b), (1, .int c)]) (S1 := [.int c, .int b]) 3 0 (fun n => rfl) ?_
                      refine RP_bin (fun x y => x + y) (fun n => rfl) ?_
                      show RP 58 _ 20 [(0, .int b), (1, .int c)] [.int (b + c)] _
                      refine RP_step (pc1 := 22) (L1 := [(0, .int b), (1, .int c)]) (S1 := [.int 16, .int (b + c)]) 1 0 (fun n => rfl) ?_
                      refine RP_cond (decide (16 < (b + c))) (fun n => rfl) (fun h => absurd (of_decide_eq_true h) (xi_nlt (x := 16) (y := (b + c)) (show (b + c).toInt ≤ 16 by omega))) (fun _ => ?_)
                      show RP 58 _ 25 [(0, .int b), (1, .int c)] [] _
                      refine RP_done 5 (fun n => rfl) ?_
                      refine Or.inr ⟨1, rfl, ?_⟩
                      show RP 59 _ 253 [(0, .int 7), (1, .int a), (2, .int b), (3, .int c), (4, .int d)] [.int 1] _
                      refine RP_step (pc1 := 258) (L1 := [(0, .int 7), (1, .int a), (2, .int b), (3, .int c), (4, .int d)]) (S1 := [.int d]) 2 0 (fun n => rfl) ?_
                      refine RP_call 57 [.int d] (fun n => rfl) ?_
                      show RP 57 _ 0 [(0, .int d)] [] _
                      refine RP_step (pc1 := 4) (L1 := [(0, .int d)]) (S1 := [.int 15, .int 0, .int d]) 3 0 (fun n => rfl) ?_
                      refine RP_call 55 [.int d, .int 0, .int 15] (fun n => rfl) ?_
                      show RP 55 _ 0 [(0, .int d), (1, .int 0), (2, .int 15)] [] _
                      refine RP_step (pc1 := 2) (L1 := [(0, .int d), (1, .int 0), (2, .int 15)]) (S1 := [.int 0, .int d]) 2 0 (fun n => rfl) ?_
                      refine RP_cond (decide (d < 0)) (fun n => rfl) (fun h => absurd (of_decide_eq_true h) (xi_nlt (x := d) (y := 0) (show 0 ≤ d.toInt by omega))) (fun _ => ?_)
                      show RP 55 _ 5 [(0, .int d), (1, .int 0), (2, .int 15)] [] _
                      refine RP_step (pc1 := 7) (L1 := [(0, .int d), (1, .int 0), (2, .int 15)]) (S1 := [.int 15, .int d]) 2 0 (fun n => rfl) ?_
                      refine RP_cond (decide (15 < d)) (fun n => rfl) (fun _ => ?_) (fun h => absurd (xi_lt (x := 15) (y := d) (show 15 < d.toInt by omega)) (of_decide_eq_false h))
                      show RP 55 _ 14 [(0, .int d), (1, .int 0), (2, .int 15)] [] _
                      refine RP_done 4 (fun n => rfl) ?_
                      refine Or.inr ⟨0, rfl, ?_⟩
                      show RP 57 _ 7 [(0, .int d)] [.int 0] _
                      refine RP_done 3 (fun n => rfl) ?_
                      refine Or.inr ⟨0, rfl, ?_⟩
                      show RP 59 _ 261 [(0, .int 7), (1, .int a), (2, .int b), (3, .int c), (4, .int d)] [.int 0] _
                      refine RP_done 5 (fun n => rfl) ?_
                      exact ⟨rfl, rfl⟩
                    · have h193 := of_decide_eq_false hh
                      have h194 : d.toInt < 16 := xj_nle h193
                      show RP 23 _ 10 [(0, .int d)] [] _
                      refine RP_done 5 (fun n => rfl) ?_
                      refine Or.inr ⟨1, rfl, ?_⟩
                      show RP 25 _ 262 [(0, .int 7), (1, .int a), (2, .int b), (3, .int c), (4, .int d)] [.int 1] _
                      refine RP_done 6 (fun n => rfl) ?_
                      refine ⟨Or.inr rfl, rfl, ?_⟩
                      show RP 59 _ 0 [(0, .int 7), (1, .int a), (2, .int b), (3, .int c), (4, .int d)] [] _
                      refine RP_step (pc1 := 242) (L1 := [(0, .int 7), (1, .int a), (2, .int b), (3, .int c), (4, .int d)]) (S1 := [.int a]) 3 0 (fun n => rfl) ?_
                      refine RP_call 57 [.int a] (fun n => rfl) ?_
                      show RP 57 _ 0 [(0, .int a)] [] _
                      refine RP_step (pc1 := 4) (L1 := [(0, .int a)]) (S1 := [.int 15, .int 0, .int a]) 3 0 (fun n => rfl) ?_
                      refine RP_call 55 [.int a, .int 0, .int 15] (fun n => rfl) ?_
                      show RP 55 _ 0 [(0, .int a), (1, .int 0), (2, .int 15)] [] _
                      refine RP_step (pc1 := 2) (L1 := [(0, .int a), (1, .int 0), (2, .int 15)]) (S1 := [.int 0, .int a]) 2 0 (fun n => rfl) ?_
                      refine RP_cond (decide (a < 0)) (fun n => rfl) (fun h => absurd (of_decide_eq_true h) (xi_nlt (x := a) (y := 0) (show 0 ≤ a.toInt by omega))) (fun _ => ?_)
                      show RP 55 _ 5 [(0, .int a), (1, .int 0), (2, .int 15)] [] _
                      refine RP_step (pc1 := 7) (L1 := [(0, .int a), (1, .int 0), (2, .int 15)]) (S1 := [.int 15, .int a]) 2 0 (fun n => rfl) ?_
                      refine RP_cond (decide (15 < a)) (fun n => rfl) (fun h => absurd (of_decide_eq_true h) (xi_nlt (x := 15) (y := a) (show a.toInt ≤ 15 by omega))) (fun _ => ?_)
                      show RP 55 _ 10 [(0, .int a), (1, .int 0), (2, .int 15)] [] _
                      refine RP_done 5 (fun n => rfl) ?_
                      refine Or.inr ⟨1, rfl, ?_⟩
                      show RP 57 _ 7 [(0, .int a)] [.int 1] _
                      refine RP_done 3 (fun n => rfl) ?_
                      refine Or.inr ⟨1, rfl, ?_⟩
                      show RP 59 _ 245 [(0, .int 7), (1, .int a), (2, .int b), (3, .int c), (4, .int d)] [.int 1] _
                      refine RP_step (pc1 := 250) (L1 := [(0, .int 7), (1, .int a), (2, .int b), (3, .int c), (4, .int d)]) (S1 := [.int c, .int b]) 3 0 (fun n => rfl) ?_
                      refine RP_call 58 [.int b, .int c] (fun n => rfl) ?_
                      show RP 58 _ 0 [(0, .int b), (1, .int c)] [] _
                      refine RP_step (pc1 := 1) (L1 := [(0, .int b), (1, .int c)]) (S1 := [.int b]) 1 0 (fun n => rfl) ?_
                      refine RP_call 57 [.int b] (fun n => rfl) ?_
                      show RP 57 _ 0 [(0, .int b)] [] _
                      refine RP_step (pc1 := 4) (L1 := [(0, .int b)]) (S1 := [.int 15, .int 0, .int b]) 3 0 (fun n => rfl) ?_
                      refine RP_call 55 [.int b, .int 0, .int 15] (fun n => rfl) ?_
                      show RP 55 _ 0 [(0, .int b), (1, .int 0), (2, .int 15)] [] _
                      refine RP_step (pc1 := 2) (L1 := [(0, .int b), (1, .int 0), (2, .int 15)]) (S1 := [.int 0, .int b]) 2 0 (fun n => rfl) ?_
                      refine RP_cond (decide (b < 0)) (fun n => rfl) (fun h => absurd (of_decide_eq_true h) (xi_nlt (x := b) (y := 0) (show 0 ≤ b.toInt by omega))) (fun _ => ?_)
                      show RP 55 _ 5 [(0, .int b), (1, .int 0), (2, .int 15)] [] _
                      refine RP_step (pc1 := 7) (L1 := [(0, .int b), (1, .int 0), (2, .int 15)]) (S1 := [.int 15, .int b]) 2 0 (fun n => rfl) ?_
                      refine RP_cond (decide (15 < b)) (fun n => rfl) (fun h => absurd (of_decide_eq_true h) (xi_nlt (x := 15) (y := b) (show b.toInt ≤ 15 by omega))) (fun _ => ?_)
                      show RP 55 _ 10 [(0, .int b), (1, .int 0), (2, .int 15)] [] _
                      refine RP_done 5 (fun n => rfl) ?_
                      refine Or.inr ⟨1, rfl, ?_⟩
                      show RP 57 _ 7 [(0, .int b)] [.int 1] _
                      refine RP_done 3 (fun n => rfl) ?_
                      refine Or.inr ⟨1, rfl, ?_⟩
                      show RP 58 _ 4 [(0, .int b), (1, .int c)] [.int 1] _
                      refine RP_step (pc1 := 11) (L1 := [(0, .int b), (1, .int c)]) (S1 := [.int 8, .int 1, .int c]) 4 0 (fun n => rfl) ?_
                      refine RP_call 55 [.int c, .int 1, .int 8] (fun n => rfl) ?_
                      show RP 55 _ 0 [(0, .int c), (1, .int 1), (2, .int 8)] [] _
                      refine RP_step (pc1 := 2) (L1 := [(0, .int c), (1, .int 1), (2, .int 8)]) (S1 := [.int 1, .int c]) 2 0 (fun n => rfl) ?_
                      refine RP_cond (decide (c < 1)) (fun n => rfl) (fun h => absurd (of_decide_eq_true h) (xi_nlt (x := c) (y := 1) (show 1 ≤ c.toInt by omega))) (fun _ => ?_)
                      show RP 55 _ 5 [(0, .int c), (1, .int 1), (2, .int 8)] [] _
                      refine RP_step (pc1 := 7) (L1 := [(0, .int c), (1, .int 1), (2, .int 8)]) (S1 := [.int 8, .int c]) 2 0 (fun n => rfl) ?_
                      refine RP_cond (decide (8 < c)) (fun n => rfl) (fun h => absurd (of_decide_eq_true h) (xi_nlt (x := 8) (y := c) (show c.toInt ≤ 8 by omega))) (fun _ => ?_)
                      show RP 55 _ 10 [(0, .int c), (1, .int 1), (2, .int 8)] [] _
                      refine RP_done 5 (fun n => rfl) ?_
                      refine Or.inr ⟨1, rfl, ?_⟩
                      show RP 58 _ 14 [(0, .int b), (1, .int c)] [.int 1] _
                      refine RP_step (pc1 := 19) (L1 := [(0, .int b), (1, .int c)]) (S1 := [.int c, .int b]) 3 0 (fun n => rfl) ?_
                      refine RP_bin (fun x y => x + y) (fun n => rfl) ?_
                      show RP 58 _ 20 [(0, .int b), (1, .int c)] [.int (b + c)] _
                      refine RP_step (pc1 := 22) (L1 := [(0, .int b), (1, .int c)]) (S1 := [.int 16, .int (b + c)]) 1 0 (fun n => rfl) ?_
                      refine RP_cond (decide (16 < (b + c))) (fun n => rfl) (fun h => absurd (of_decide_eq_true h) (xi_nlt (x := 16) (y := (b + c)) (show (b + c).toInt ≤ 16 by omega))) (fun _ => ?_)
                      show RP 58 _ 25 [(0, .int b), (1, .int c)] [] _
                      refine RP_done 5 (fun n => rfl) ?_
                      refine Or.inr ⟨1, rfl, ?_⟩
                      show RP 59 _ 253 [(0, .int 7), (1, .int a), (2, .int b), (3, .int c), (4, .int d)] [.int 1] _
                      refine RP_step (pc1 := 258) (L1 := [(0, .int 7), (1, .int a), (2, .int b), (3, .int c), (4, .int d)]) (S1 := [.int d]) 2 0 (fun n => rfl) ?_
                      refine RP_call 57 [.int d] (fun n => rfl) ?_
                      show RP 57 _ 0 [(0, .int d)] [] _
                      refine RP_step (pc1 := 4) (L1 := [(0, .int d)]) (S1 := [.int 15, .int 0, .int d]) 3 0 (fun n => rfl) ?_
                      refine RP_call 55 [.int d, .int 0, .int 15] (fun n => rfl) ?_
                      show RP 55 _ 0 [(0, .int d), (1, .int 0), (2, .int 15)] [] _
                      refine RP_step (pc1 := 2) (L1 := [(0, .int d), (1, .int 0), (2, .int 15)]) (S1 := [.int 0, .int d]) 2 0 (fun n => rfl) ?_
                      refine RP_cond (decide (d < 0)) (fun n => rfl) (fun h => absurd (of_decide_eq_true h) (xi_nlt (x := d) (y := 0) (show 0 ≤ d.toInt by omega))) (fun _ => ?_)
                      show RP 55 _ 5 [(0, .int d), (1, .int 0), (2, .int 15)] [] _
                      refine RP_step (pc1 := 7) (L1 := [(0, .int d), (1, .int 0), (2, .int 15)]) (S1 := [.int 15, .int d]) 2 0 (fun n => rfl) ?_
                      refine RP_cond (decide (15 < d)) (fun n => rfl) (fun h => absurd (of_decide_eq_true h) (xi_nlt (x := 15) (y := d) (show d.toInt ≤ 15 by omega))) (fun _ => ?_)
                      show RP 55 _ 10 [(0, .int d), (1, .int 0), (2, .int 15)] [] _
                      refine RP_done 5 (fun n => rfl) ?_
                      refine Or.inr ⟨1, rfl, ?_⟩
                      show RP 57 _ 7 [(0, .int d)] [.int 1] _
                      refine RP_done 3 (fun n => rfl) ?_
                      refine Or.inr ⟨1, rfl, ?_⟩
                      show RP 59 _ 261 [(0, .int 7), (1, .int a), (2, .int b), (3, .int c), (4, .int d)] [.int 1] _
                      refine RP_done 6 (fun n => rfl) ?_
                      exact ⟨rfl, rfl⟩
  · skip
    show RP 25 _ 0 [(0, .int 8), (1, .int a), (2, .int b), (3, .int c), (4, .int d)] [] _
    refine RP_step (pc1 := 272) (L1 := [(0, .int 8), (1, .int a), (2, .int b), (3, .int c), (4, .int d)]) (S1 := [.int a]) 3 0 (fun n => rfl) ?_
    refine RP_call 22 [.int a] (fun n => rfl) ?_
    show RP 22 _ 0 [(0, .int a)] [] _
    refine RP_step (pc1 := 1) (L1 := [(0, .int a)]) (S1 := [.int a]) 1 0 (fun n => rfl) ?_
    refine RP_cond (decide (a < 0)) (fun n => rfl) (fun hh => ?_) (fun hh => ?_)
    · have h195 := of_decide_eq_true hh
      have h196 : a.toInt < 0 := xj_lt h195
      show RP 22 _ 14 [(0, .int a)] [] _
      refine RP_done 4 (fun n => rfl) ?_
      refine Or.inr ⟨0, rfl, ?_⟩
      show RP 25 _ 275 [(0, .int 8), (1, .int a), (2, .int b), (3, .int c), (4, .int d)] [.int 0] _
      refine RP_done 5 (fun n => rfl) ?_
      refine ⟨Or.inl rfl, rfl, ?_⟩
      show RP 59 _ 0 [(0, .int 8), (1, .int a), (2, .int b), (3, .int c), (4, .int d)] [] _
      refine RP_step (pc1 := 271) (L1 := [(0, .int 8), (1, .int a), (2, .int b), (3, .int c), (4, .int d)]) (S1 := [.int a]) 3 0 (fun n => rfl) ?_
      refine RP_call 56 [.int a] (fun n => rfl) ?_
      show RP 56 _ 0 [(0, .int a)] [] _
      refine RP_step (pc1 := 3) (L1 := [(0, .int a)]) (S1 := [.int 5, .int 0, .int a]) 3 0 (fun n => rfl) ?_
      refine RP_call 55 [.int a, .int 0, .int 5] (fun n => rfl) ?_
      show RP 55 _ 0 [(0, .int a), (1, .int 0), (2, .int 5)] [] _
      refine RP_step (pc1 := 2) (L1 := [(0, .int a), (1, .int 0), (2, .int 5)]) (S1 := [.int 0, .int a]) 2 0 (fun n => rfl) ?_
      refine RP_cond (decide (a < 0)) (fun n => rfl) (fun _ => ?_) (fun h => absurd (xi_lt (x := a) (y := 0) (show a.toInt < 0 by omega)) (of_decide_eq_false h))
      show RP 55 _ 14 [(0, .int a), (1, .int 0), (2, .int 5)] [] _
      refine RP_done 4 (fun n => rfl) ?_
      refine Or.inr ⟨0, rfl, ?_⟩
      show RP 56 _ 6 [(0, .int a)] [.int 0] _
      refine RP_done 3 (fun n => rfl) ?_
      refine Or.inr ⟨0, rfl, ?_⟩
      show RP 59 _ 274 [(0, .int 8), (1, .int a), (2, .int b), (3, .int c), (4, .int d)] [.int 0] _
      refine RP_done 5 (fun n => rfl) ?_
      exact ⟨rfl, rfl⟩
    · have h197 := of_decide_eq_false hh
      have h198 : 0 ≤ a.toInt := xj_nlt h197
      show RP 22 _ 4 [(0, .int a)] [] _
      refine RP_step (pc1 := 7) (L1 := [(0, .int a)]) (S1 := [.int 6, .int a]) 2 0 (fun n => rfl) ?_
      refine RP_cond (decide (6 ≤ a)) (fun n => rfl) (fun hh => ?_) (fun hh => ?_)
      · have h199 := of_decide_eq_true hh
        have h200 : 6 ≤ a.toInt := xj_le h199
        show RP 22 _ 14 [(0, .int a)] [] _
        refine RP_done 4 (fun n => rfl) ?_
        refine Or.inr ⟨0, rfl, ?_⟩
        show RP 25 _ 275 [(0, .int 8), (1, .int a), (2, .int b), (3, .int c), (4, .int d)] [.int 0] _
        refine RP_done 5 (fun n => rfl) ?_
        refine ⟨Or.inl rfl, rfl, ?_⟩
        show RP 59 _ 0 [(0, .int 8), (1, .int a), (2, .int b), (3, .int c), (4, .int d)] [] _
        refine RP_step (pc1 := 271) (L1 := [(0, .int 8), (1, .int a), (2, .int b), (3, .int c), (4, .int d)]) (S1 := [.int a]) 3 0 (fun n => rfl) ?_
        refine RP_call 56 [.int a] (fun n => rfl) ?_
        show RP 56 _ 0 [(0, .int a)] [] _
        refine RP_step (pc1 := 3) (L1 := [(0, .int a)]) (S1 := [.int 5, .int 0, .int a]) 3 0 (fun n => rfl) ?_
        refine RP_call 55 [.int a, .int 0, .int 5] (fun n => rfl) ?_
        show RP 55 _ 0 [(0, .int a), (1, .int 0), (2, .int 5)] [] _
        refine RP_step (pc1 := 2) (L1 := [(0, .int a), (1, .int 0), (2, .int 5)]) (S1 := [.int 0, .int a]) 2 0 (fun n => rfl) ?_
        refine RP_cond (decide (a < 0)) (fun n => rfl) (fun h => absurd (of_decide_eq_true h) (xi_nlt (x := a) (y := 0) (show 0 ≤ a.toInt by omega))) (fun _ => ?_)
        show RP 55 _ 5 [(0, .int a), (1, .int 0), (2, .int 5)] [] _
        refine RP_step (pc1 := 7) (L1 := [(0, .int a), (1, .int 0), (2, .int 5)]) (S1 := [.int 5, .int a]) 2 0 (fun n => rfl) ?_
        refine RP_cond (decide (5 < a)) (fun n => rfl) (fun _ => ?_) (fun h => absurd (xi_lt (x := 5) (y := a) (show 5 < a.toInt by omega)) (of_decide_eq_false h))
        show RP 55 _ 14 [(0, .int a), (1, .int 0), (2, .int 5)] [] _
        refine RP_done 4 (fun n => rfl) ?_
        refine Or.inr ⟨0, rfl, ?_⟩
        show RP 56 _ 6 [(0, .int a)] [.int 0] _
        refine RP_done 3 (fun n => rfl) ?_
        refine Or.inr ⟨0, rfl, ?_⟩
        show RP 59 _ 274 [(0, .int 8), (1, .int a), (2, .int b), (3, .int c), (4, .int d)] [.int 0] _
        refine RP_done 5 (fun n => rfl) ?_
        exact ⟨rfl, rfl⟩
      · have h201 := of_decide_eq_false hh
        have h202 : a.toInt < 6 := xj_nle h201
        show RP 22 _ 10 [(0, .int a)] [] _
        refine RP_done 5 (fun n => rfl) ?_
        refine Or.inr ⟨1, rfl, ?_⟩
        show RP 25 _ 275 [(0, .int 8), (1, .int a), (2, .int b), (3, .int c), (4, .int d)] [.int 1] _
        refine RP_step (pc1 := 279) (L1 := [(0, .int 8), (1, .int a), (2, .int b), (3, .int c), (4, .int d)]) (S1 := [.int b]) 2 0 (fun n => rfl) ?_
        refine RP_cond (decide (b ≠ 0)) (fun n => rfl) (fun hh => ?_) (fun hh => ?_)
        · have h203 := of_decide_eq_true hh
          show RP 25 _ 295 [(0, .int 8), (1, .int a), (2, .int b), (3, .int c), (4, .int d)] [] _
          refine RP_done 4 (fun n => rfl) ?_
          refine ⟨Or.inl rfl, rfl, ?_⟩
          show RP 59 _ 0 [(0, .int 8), (1, .int a), (2, .int b), (3, .int c), (4, .int d)] [] _
          refine RP_step (pc1 := 271) (L1 := [(0, .int 8), (1, .int a), (2, .int b), (3, .int c), (4, .int d)]) (S1 := [.int a]) 3 0 (fun n => rfl) ?_
          refine RP_call 56 [.int a] (fun n => rfl) ?_
          show RP 56 _ 0 [(0, .int a)] [] _
          refine RP_step (pc1 := 3) (L1 := [(0, .int a)]) (S1 := [.int 5, .int 0, .int a]) 3 0 (fun n => rfl) ?_
          refine RP_call 55 [.int a, .int 0, .int 5] (fun n => rfl) ?_
          show RP 55 _ 0 [(0, .int a), (1, .int 0), (2, .int 5)] [] _
          refine RP_step (pc1 := 2) (L1 := [(0, .int a), (1, .int 0), (2, .int 5)]) (S1 := [.int 0, .int a]) 2 0 (fun n => rfl) ?_
          refine RP_cond (decide (a < 0)) (fun n => rfl) (fun h => absurd (of_decide_eq_true h) (xi_nlt (x := a) (y := 0) (show 0 ≤ a.toInt by omega))) (fun _ => ?_)
          show RP 55 _ 5 [(0, .int a), (1, .int 0), (2, .int 5)] [] _
          refine RP_step (pc1 := 7) (L1 := [(0, .int a), (1, .int 0), (2, .int 5)]) (S1 := [.int 5, .int a]) 2 0 (fun n => rfl) ?_
          refine RP_cond (decide (5 < a)) (fun n => rfl) (fun h => absurd (of_decide_eq_true h) (xi_nlt (x := 5) (y := a) (show a.toInt ≤ 5 by omega))) (fun _ => ?_)
          show RP 55 _ 10 [(0, .int a), (1, .int 0), (2, .int 5)] [] _
          refine RP_done 5 (fun n => rfl) ?_
          refine Or.inr ⟨1, rfl, ?_⟩
          show RP 56 _ 6 [(0, .int a)] [.int 1] _
          refine RP_done 3 (fun n => rfl) ?_
          refine Or.inr ⟨1, rfl, ?_⟩
          show RP 59 _ 274 [(0, .int 8), (1, .int a), (2, .int b), (3, .int c), (4, .int d)] [.int 1] _
          refine RP_step (pc1 := 278) (L1 := [(0, .int 8), (1, .int a), (2, .int b), (3, .int c), (4, .int d)]) (S1 := [.int b]) 2 0 (fun n => rfl) ?_
          refine RP_cond (decide (b ≠ 0)) (fun n => rfl) (fun _ => ?_) (fun h => absurd (by assumption) (of_decide_eq_false h))
          show RP 59 _ 294 [(0, .int 8), (1, .int a), (2, .int b), (3, .int c), (4, .int d)] [] _
          refine RP_done 4 (fun n => rfl) ?_
          exact ⟨rfl, rfl⟩
        · have h204 := of_decide_eq_false hh
          replace h204 := Decidable.of_not_not h204
          clear hh
          subst h204
          show RP 25 _ 282 [(0, .int 8), (1, .int a), (2, .int 0), (3, .int c), (4, .int d)] [] _
          refine RP_step (pc1 := 283) (L1 := [(0, .int 8), (1, .int a), (2, .int 0), (3, .int c), (4, .int d)]) (S1 := [.int c]) 1 0 (fun n => rfl) ?_
          refine RP_cond (decide (c ≠ 0)) (fun n => rfl) (fun hh => ?_) (fun hh => ?_)
          · have h205 := of_decide_eq_true hh
            show RP 25 _ 295 [(0, .int 8), (1, .int a), (2, .int 0), (3, .int c), (4, .int d)] [] _
            refine RP_done 4 (fun n => rfl) ?_
            refine ⟨Or.inl rfl, rfl, ?_⟩
            show RP 59 _ 0 [(0, .int 8), (1, .int a), (2, .int 0), (3, .int c), (4, .int d)] [] _
            refine RP_step (pc1 := 271) (L1 := [(0, .int 8), (1, .int a), (2, .int 0), (3, .int c), (4, .int d)]) (S1 := [.int a]) 3 0 (fun n => rfl) ?_
            refine RP_call 56 [.int a] (fun n => rfl) ?_
            show RP 56 _ 0 [(0, .int a)] [] _
            refine RP_step (pc1 := 3) (L1 := [(0, .int a)]) (S1 := [.int 5, .int 0, .int a]) 3 0 (fun n => rfl) ?_
            refine RP_call 55 [.int a, .int 0, .int 5] (fun n => rfl) ?_
            show RP 55 _ 0 [(0, .int a), (1, .int 0), (2, .int 5)] [] _
            refine RP_step (pc1 := 2) (L1 := [(0, .int a), (1, .int 0), (2, .int 5)]) (S1 := [.int 0, .int a]) 2 0 (fun n => rfl) ?_
            refine RP_cond (decide (a < 0)) (fun n => rfl) (fun h => absurd (of_decide_eq_true h) (xi_nlt (x := a) (y := 0) (show 0 ≤ a.toInt by omega))) (fun _ => ?_)
            show RP 55 _ 5 [(0, .int a), (1, .int 0), (2, .int 5)] [] _
            refine RP_step (pc1 := 7) (L1 := [(0, .int a), (1, .int 0), (2, .int 5)]) (S1 := [.int 5, .int a]) 2 0 (fun n => rfl) ?_
            refine RP_cond (decide (5 < a)) (fun n => rfl) (fun h => absurd (of_decide_eq_true h) (xi_nlt (x := 5) (y := a) (show a.toInt ≤ 5 by omega))) (fun _ => ?_)
            show RP 55 _ 10 [(0, .int a), (1, .int 0), (2, .int 5)] [] _
            refine RP_done 5 (fun n => rfl) ?_
            refine Or.inr ⟨1, rfl, ?_⟩
            show RP 56 _ 6 [(0, .int a)] [.int 1] _
            refine RP_done 3 (fun n => rfl) ?_
            refine Or.inr ⟨1, rfl, ?_⟩
            show RP 59 _ 274 [(0, .int 8), (1, .int a), (2, .int 0), (3, .int c), (4, .int d)] [.int 1] _
            refine RP_step (pc1 := 282) (L1 := [(0, .int 8), (1, .int a), (2, .int 0), (3, .int c), (4, .int d)]) (S1 := [.int c]) 4 0 (fun n => rfl) ?_
            refine RP_cond (decide (c ≠ 0)) (fun n => rfl) (fun _ => ?_) (fun h => absurd (by assumption) (of_decide_eq_false h))
            show RP 59 _ 294 [(0, .int 8), (1, .int a), (2, .int 0), (3, .int c), (4, .int d)] [] _
            refine RP_done 4 (fun n => rfl) ?_
            exact ⟨rfl, rfl⟩
          · have h206 := of_decide_eq_false hh
            replace h206 := Decidable.of_not_not h206
            clear hh
            subst h206
            show RP 25 _ 286 [(0, .int 8), (1, .int a), (2, .int 0), (3, .int 0), (4, .int d)] [] _
            refine RP_step (pc1 := 288) (L1 := [(0, .int 8), (1, .int a), (2, .int 0), (3, .int 0), (4, .int d)]) (S1 := [.int d]) 1 0 (fun n => rfl) ?_
            refine RP_cond (decide (d ≠ 0)) (fun n => rfl) (fun hh => ?_) (fun hh => ?_)
            · have h207 := of_decide_eq_true hh
              show RP 25 _ 295 [(0, .int 8), (1, .int a), (2, .int 0), (3, .int 0), (4, .int d)] [] _
              refine RP_done 4 (fun n => rfl) ?_
              refine ⟨Or.inl rfl, rfl, ?_⟩
              show RP 59 _ 0 [(0, .int 8), (1, .int a), (2, .int 0), (3, .int 0), (4, .int d)] [] _
              refine RP_step (pc1 := 271) (L1 := [(0, .int 8), (1, .int a), (2, .int 0), (3, .int 0), (4, .int d)]) (S1 := [.int a]) 3 0 (fun n => rfl) ?_
              refine RP_call 56 [.int a] (fun n => rfl) ?_
              show RP 56 _ 0 [(0, .int a)] [] _
              refine RP_step (pc1 := 3) (L1 := [(0, .int a)]) (S1 := [.int 5, .int 0, .int a]) 3 0 (fun n => rfl) ?_
              refine RP_call 55 [.int a, .int 0, .int 5] (fun n => rfl) ?_
              show RP 55 _ 0 [(0, .int a), (1, .int 0), (2, .int 5)] [] _
              refine RP_step (pc1 := 2) (L1 := [(0, .int a), (1, .int 0), (2, .int 5)]) (S1 := [.int 0, .int a]) 2 0 (fun n => rfl) ?_
              refine RP_cond (decide (a < 0)) (fun n => rfl) (fun h => absurd (of_decide_eq_true h) (xi_nlt (x := a) (y := 0) (show 0 ≤ a.toInt by omega))) (fun _ => ?_)
              show RP 55 _ 5 [(0, .int a), (1, .int 0), (2, .int 5)] [] _
              refine RP_step (pc1 := 7) (L1 := [(0, .int a), (1, .int 0), (2, .int 5)]) (S1 := [.int 5, .int a]) 2 0 (fun n => rfl) ?_
              refine RP_cond (decide (5 < a)) (fun n => rfl) (fun h => absurd (of_decide_eq_true h) (xi_nlt (x := 5) (y := a) (show a.toInt ≤ 5 by omega))) (fun _ => ?_)
              show RP 55 _ 10 [(0, .int a), (1, .int 0), (2, .int 5)] [] _
              refine RP_done 5 (fun n => rfl) ?_
              refine Or.inr ⟨1, rfl, ?_⟩
              show RP 56 _ 6 [(0, .int a)] [.int 1] _
              refine RP_done 3 (fun n => rfl) ?_
              refine Or.inr ⟨1, rfl, ?_⟩
              show RP 59 _ 274 [(0, .int 8), (1, .int a), (2, .int 0), (3, .int 0), (4, .int d)] [.int 1] _
              refine RP_step (pc1 := 287) (L1 := [(0, .int 8), (1, .int a), (2, .int 0), (3, .int 0), (4, .int d)]) (S1 := [.int d]) 6 0 (fun n => rfl) ?_
              refine RP_cond (decide (d ≠ 0)) (fun n => rfl) (fun _ => ?_) (fun h => absurd (by assumption) (of_decide_eq_false h))
              show RP 59 _ 294 [(0, .int 8), (1, .int a), (2, .int 0), (3, .int 0), (4, .int d)] [] _
              refine RP_done 4 (fun n => rfl) ?_
              exact ⟨rfl, rfl⟩
            · have h208 := of_decide_eq_false hh
              replace h208 := Decidable.of_not_not h208
              clear hh
              subst h208
              show RP 25 _ 291 [(0, .int 8), (1, .int a), (2, .int 0), (3, .int 0), (4, .int 0)] [] _
              refine RP_done 5 (fun n => rfl) ?_
              refine ⟨Or.inr rfl, rfl, ?_⟩
              show RP 59 _ 0 [(0, .int 8), (1, .int a), (2, .int 0), (3, .int 0), (4, .int 0)] [] _
              refine RP_step (pc1 := 271) (L1 := [(0, .int 8), (1, .int a), (2, .int 0), (3, .int 0), (4, .int 0)]) (S1 := [.int a]) 3 0 (fun n => rfl) ?_
              refine RP_call 56 [.int a] (fun n => rfl) ?_
              show RP 56 _ 0 [(0, .int a)] [] _
              refine RP_step (pc1 := 3) (L1 := [(0, .int a)]) (S1 := [.int 5, .int 0, .int a]) 3 0 (fun n => rfl) ?_
              refine RP_call 55 [.int a, .int 0, .int 5] (fun n => rfl) ?_
              show RP 55 _ 0 [(0, .int a), (1, .int 0), (2, .int 5)] [] _
              refine RP_step (pc1 := 2) (L1 := [(0, .int a), (1, .int 0), (2, .int 5)]) (S1 := [.int 0, .int a]) 2 0 (fun n => rfl) ?_
              refine RP_cond (decide (a < 0)) (fun n => rfl) (fun h => absurd (of_decide_eq_true h) (xi_nlt (x := a) (y := 0) (show 0 ≤ a.toInt by omega))) (fun _ => ?_)
              show RP 55 _ 5 [(0, .int a), (1, .int 0), (2, .int 5)] [] _
              refine RP_step (pc1 := 7) (L1 := [(0, .int a), (1, .int 0), (2, .int 5)]) (S1 := [.int 5, .int a]) 2 0 (fun n => rfl) ?_
              refine RP_cond (decide (5 < a)) (fun n => rfl) (fun h => absurd (of_decide_eq_true h) (xi_nlt (x := 5) (y := a) (show a.toInt ≤ 5 by omega))) (fun _ => ?_)
              show RP 55 _ 10 [(0, .int a), (1, .int 0), (2, .int 5)] [] _
              refine RP_done 5 (fun n => rfl) ?_
              refine Or.inr ⟨1, rfl, ?_⟩
              show RP 56 _ 6 [(0, .int a)] [.int 1] _
              refine RP_done 3 (fun n => rfl) ?_
              refine Or.inr ⟨1, rfl, ?_⟩
              show RP 59 _ 274 [(0, .int 8), (1, .int a), (2, .int 0), (3, .int 0), (4, .int 0)] [.int 1] _
              refine RP_done 12 (fun n => rfl) ?_
              exact ⟨rfl, rfl⟩
  · skip
    show RP 25 _ 0 [(0, .int 9), (1, .int a), (2, .int b), (3, .int c), (4, .int d)] [] _
    refine RP_step (pc1 := 298) (L1 := [(0, .int 9), (1, .int a), (2, .int b), (3, .int c), (4, .int d)]) (S1 := [.int a]) 3 0 (fun n => rfl) ?_
    refine RP_cond (decide (a ≠ 0)) (fun n => rfl) (fun hh => ?_) (fun hh => ?_)
    · have h209 := of_decide_eq_true hh
      show RP 25 _ 318 [(0, .int 9), (1, .int a), (2, .int b), (3, .int c), (4, .int d)] [] _
      refine RP_done 4 (fun n => rfl) ?_
      refine ⟨Or.inl rfl, rfl, ?_⟩
      show RP 59 _ 0 [(0, .int 9), (1, .int a), (2, .int b), (3, .int c), (4, .int d)] [] _
      refine RP_step (pc1 := 297) (L1 := [(0, .int 9), (1, .int a), (2, .int b), (3, .int c), (4, .int d)]) (S1 := [.int a]) 3 0 (fun n => rfl) ?_
      refine RP_cond (decide (a ≠ 0)) (fun n => rfl) (fun _ => ?_) (fun h => absurd (by assumption) (of_decide_eq_false h))
      show RP 59 _ 317 [(0, .int 9), (1, .int a), (2, .int b), (3, .int c), (4, .int d)] [] _
      refine RP_done 4 (fun n => rfl) ?_
      exact ⟨rfl, rfl⟩
    · have h210 := of_decide_eq_false hh
      replace h210 := Decidable.of_not_not h210
      clear hh
      subst h210
      show RP 25 _ 301 [(0, .int 9), (1, .int 0), (2, .int b), (3, .int c), (4, .int d)] [] _
      refine RP_step (pc1 := 302) (L1 := [(0, .int 9), (1, .int 0), (2, .int b), (3, .int c), (4, .int d)]) (S1 := [.int b]) 1 0 (fun n => rfl) ?_
      refine RP_cond (decide (b ≠ 0)) (fun n => rfl) (fun hh => ?_) (fun hh => ?_)
      · have h211 := of_decide_eq_true hh
        show RP 25 _ 318 [(0, .int 9), (1, .int 0), (2, .int b), (3, .int c), (4, .int d)] [] _
        refine RP_done 4 (fun n => rfl) ?_
        refine ⟨Or.inl rfl, rfl, ?_⟩
        show RP 59 _ 0 [(0, .int 9), (1, .int 0), (2, .int b), (3, .int c), (4, .int d)] [] _
        refine RP_step (pc1 := 301) (L1 := [(0, .int 9), (1, .int 0), (2, .int b), (3, .int c), (4, .int d)]) (S1 := [.int b]) 5 0 (fun n => rfl) ?_
        refine RP_cond (decide (b ≠ 0)) (fun n => rfl) (fun _ => ?_) (fun h => absurd (by assumption) (of_decide_eq_false h))
        show RP 59 _ 317 [(0, .int 9), (1, .int 0), (2, .int b), (3, .int c), (4, .int d)] [] _
        refine RP_done 4 (fun n => rfl) ?_
        exact ⟨rfl, rfl⟩
      · have h212 := of_decide_eq_false hh
        replace h212 := Decidable.of_not_not h212
        clear hh
        subst h212
        show RP 25 _ 305 [(0, .int 9), (1, .int 0), (2, .int 0), (3, .int c), (4, .int d)] [] _
        refine RP_step (pc1 := 306) (L1 := [(0, .int 9), (1, .int 0), (2, .int 0), (3, .int c), (4, .int d)]) (S1 := [.int c]) 1 0 (fun n => rfl) ?_
        refine RP_cond (decide (c ≠ 0)) (fun n => rfl) (fun hh => ?_) (fun hh => ?_)
        · have h213 := of_decide_eq_true hh
          show RP 25 _ 318 [(0, .int 9), (1, .int 0), (2, .int 0), (3, .int c), (4, .int d)] [] _
          refine RP_done 4 (fun n => rfl) ?_
          refine ⟨Or.inl rfl, rfl, ?_⟩
          show RP 59 _ 0 [(0, .int 9), (1, .int 0), (2, .int 0), (3, .int c), (4, .int d)] [] _
          refine RP_step (pc1 := 305) (L1 := [(0, .int 9), (1, .int 0), (2, .int 0), (3, .int c), (4, .int d)]) (S1 := [.int c]) 7 0 (fun n => rfl) ?_
          refine RP_cond (decide (c ≠ 0)) (fun n => rfl) (fun _ => ?_) (fun h => absurd (by assumption) (of_decide_eq_false h))
          show RP 59 _ 317 [(0, .int 9), (1, .int 0), (2, .int 0), (3, .int c), (4, .int d)] [] _
          refine RP_done 4 (fun n => rfl) ?_
          exact ⟨rfl, rfl⟩
        · have h214 := of_decide_eq_false hh
          replace h214 := Decidable.of_not_not h214
          clear hh
          subst h214
          show RP 25 _ 309 [(0, .int 9), (1, .int 0), (2, .int 0), (3, .int 0), (4, .int d)] [] _
          refine RP_step (pc1 := 311) (L1 := [(0, .int 9), (1, .int 0), (2, .int 0), (3, .int 0), (4, .int d)]) (S1 := [.int d]) 1 0 (fun n => rfl) ?_
          refine RP_cond (decide (d ≠ 0)) (fun n => rfl) (fun hh => ?_) (fun hh => ?_)
          · have h215 := of_decide_eq_true hh
            show RP 25 _ 318 [(0, .int 9), (1, .int 0), (2, .int 0), (3, .int 0), (4, .int d)] [] _
            refine RP_done 4 (fun n => rfl) ?_
            refine ⟨Or.inl rfl, rfl, ?_⟩
            show RP 59 _ 0 [(0, .int 9), (1, .int 0), (2, .int 0), (3, .int 0), (4, .int d)] [] _
            refine RP_step (pc1 := 310) (L1 := [(0, .int 9), (1, .int 0), (2, .int 0), (3, .int 0), (4, .int d)]) (S1 := [.int d]) 9 0 (fun n => rfl) ?_
            refine RP_cond (decide (d ≠ 0)) (fun n => rfl) (fun _ => ?_) (fun h => absurd (by assumption) (of_decide_eq_false h))
            show RP 59 _ 317 [(0, .int 9), (1, .int 0), (2, .int 0), (3, .int 0), (4, .int d)] [] _
            refine RP_done 4 (fun n => rfl) ?_
            exact ⟨rfl, rfl⟩
          · have h216 := of_decide_eq_false hh
            replace h216 := Decidable.of_not_not h216
            clear hh
            subst h216
            show RP 25 _ 314 [(0, .int 9), (1, .int 0), (2, .int 0), (3, .int 0), (4, .int 0)] [] _
            refine RP_done 5 (fun n => rfl) ?_
            refine ⟨Or.inr rfl, rfl, ?_⟩
            show RP 59 _ 0 [(0, .int 9), (1, .int 0), (2, .int 0), (3, .int 0), (4, .int 0)] [] _
            refine RP_done 15 (fun n => rfl) ?_
            exact ⟨rfl, rfl⟩
  · skip
    show RP 25 _ 0 [(0, .int 10), (1, .int a), (2, .int b), (3, .int c), (4, .int d)] [] _
    refine RP_step (pc1 := 322) (L1 := [(0, .int 10), (1, .int a), (2, .int b), (3, .int c), (4, .int d)]) (S1 := [.int b, .int a]) 4 0 (fun n => rfl) ?_
    refine RP_call 24 [.int a, .int b] (fun n => rfl) ?_
    show RP 24 _ 0 [(0, .int a), (1, .int b)] [] _
    refine RP_step (pc1 := 1) (L1 := [(0, .int a), (1, .int b)]) (S1 := [.int a]) 1 0 (fun n => rfl) ?_
    refine RP_call 23 [.int a] (fun n => rfl) ?_
    show RP 23 _ 0 [(0, .int a)] [] _
    refine RP_step (pc1 := 1) (L1 := [(0, .int a)]) (S1 := [.int a]) 1 0 (fun n => rfl) ?_
    refine RP_cond (decide (a < 0)) (fun n => rfl) (fun hh => ?_) (fun hh => ?_)
    · have h217 := of_decide_eq_true hh
      have h218 : a.toInt < 0 := xj_lt h217
      show RP 23 _ 14 [(0, .int a)] [] _
      refine RP_done 4 (fun n => rfl) ?_
      refine Or.inr ⟨0, rfl, ?_⟩
      show RP 24 _ 4 [(0, .int a), (1, .int b)] [.int 0] _
      refine RP_done 5 (fun n => rfl) ?_
      refine Or.inr ⟨0, rfl, ?_⟩
      show RP 25 _ 325 [(0, .int 10), (1, .int a), (2, .int b), (3, .int c), (4, .int d)] [.int 0] _
      refine RP_done 5 (fun n => rfl) ?_
      refine ⟨Or.inl rfl, rfl, ?_⟩
      show RP 59 _ 0 [(0, .int 10), (1, .int a), (2, .int b), (3, .int c), (4, .int d)] [] _
      refine RP_step (pc1 := 321) (L1 := [(0, .int 10), (1, .int a), (2, .int b), (3, .int c), (4, .int d)]) (S1 := [.int b, .int a]) 4 0 (fun n => rfl) ?_
      refine RP_call 58 [.int a, .int b] (fun n => rfl) ?_
      show RP 58 _ 0 [(0, .int a), (1, .int b)] [] _
      refine RP_step (pc1 := 1) (L1 := [(0, .int a), (1, .int b)]) (S1 := [.int a]) 1 0 (fun n => rfl) ?_
      refine RP_call 57 [.int a] (fun n => rfl) ?_
      show RP 57 _ 0 [(0, .int a)] [] _
      refine RP_step (pc1 := 4) (L1 := [(0, .int a)]) (S1 := [.int 15, .int 0, .int a]) 3 0 (fun n => rfl) ?_
      refine RP_call 55 [.int a, .int 0, .int 15] (fun n => rfl) ?_
      show RP 55 _ 0 [(0, .int a), (1, .int 0), (2, .int 15)] [] _
      refine RP_step (pc1 := 2) (L1 := [(0, .int a), (1, .int 0), (2, .int 15)]) (S1 := [.int 0, .int a]) 2 0 (fun n => rfl) ?_
      refine RP_cond (decide (a < 0)) (fun n => rfl) (fun _ => ?_) (fun h => absurd (xi_lt (x := a) (y := 0) (show a.toInt < 0 by omega)) (of_decide_eq_false h))
      show RP 55 _ 14 [(0, .int a), (1, .int 0), (2, .int 15)] [] _
      refine RP_done 4 (fun n => rfl) ?_
      refine Or.inr ⟨0, rfl, ?_⟩
      show RP 57 _ 7 [(0, .int a)] [.int 0] _
      refine RP_done 3 (fun n => rfl) ?_
      refine Or.inr ⟨0, rfl, ?_⟩
      show RP 58 _ 4 [(0, .int a), (1, .int b)] [.int 0] _
      refine RP_done 5 (fun n => rfl) ?_
      refine Or.inr ⟨0, rfl, ?_⟩
      show RP 59 _ 324 [(0, .int 10), (1, .int a), (2, .int b), (3, .int c), (4, .int d)] [.int 0] _
      refine RP_done 5 (fun n => rfl) ?_
      exact ⟨rfl, rfl⟩
    · have h219 := of_decide_eq_false hh
      have h220 : 0 ≤ a.toInt := xj_nlt h219
      show RP 23 _ 4 [(0, .int a)] [] _
      refine RP_step (pc1 := 7) (L1 := [(0, .int a)]) (S1 := [.int 16, .int a]) 2 0 (fun n => rfl) ?_
      refine RP_cond (decide (16 ≤ a)) (fun n => rfl) (fun hh => ?_) (fun hh => ?_)
      · have h221 := of_decide_eq_true hh
        have h222 : 16 ≤ a.toInt := xj_le h221
        show RP 23 _ 14 [(0, .int a)] [] _
        refine RP_done 4 (fun n => rfl) ?_
        refine Or.inr ⟨0, rfl, ?_⟩
        show RP 24 _ 4 [(0, .int a), (1, .int b)] [.int 0] _
        refine RP_done 5 (fun n => rfl) ?_
        refine Or.inr ⟨0, rfl, ?_⟩
        show RP 25 _ 325 [(0, .int 10), (1, .int a), (2, .int b), (3, .int c), (4, .int d)] [.int 0] _
        refine RP_done 5 (fun n => rfl) ?_
        refine ⟨Or.inl rfl, rfl, ?_⟩
        show RP 59 _ 0 [(0, .int 10), (1, .int a), (2, .int b), (3, .int c), (4, .int d)] [] _
        refine RP_step (pc1 := 321) (L1 := [(0, .int 10), (1, .int a), (2, .int b), (3, .int c), (4, .int d)]) (S1 := [.int b, .int a]) 4 0 (fun n => rfl) ?_
        refine RP_call 58 [.int a, .int b] (fun n => rfl) ?_
        show RP 58 _ 0 [(0, .int a), (1, .int b)] [] _
        refine RP_step (pc1 := 1) (L1 := [(0, .int a), (1, .int b)]) (S1 := [.int a]) 1 0 (fun n => rfl) ?_
        refine RP_call 57 [.int a] (fun n => rfl) ?_
        show RP 57 _ 0 [(0, .int a)] [] _
        refine RP_step (pc1 := 4) (L1 := [(0, .int a)]) (S1 := [.int 15, .int 0, .int a]) 3 0 (fun n => rfl) ?_
        refine RP_call 55 [.int a, .int 0, .int 15] (fun n => rfl) ?_
        show RP 55 _ 0 [(0, .int a), (1, .int 0), (2, .int 15)] [] _
        refine RP_step (pc1 := 2) (L1 := [(0, .int a), (1, .int 0), (2, .int 15)]) (S1 := [.int 0, .int a]) 2 0 (fun n => rfl) ?_
        refine RP_cond (decide (a < 0)) (fun n => rfl) (fun h => absurd (of_decide_eq_true h) (xi_nlt (x := a) (y := 0) (show 0 ≤ a.toInt by omega))) (fun _ => ?_)
        show RP 55 _ 5 [(0, .int a), (1, .int 0), (2, .int 15)] [] _
        refine RP_step (pc1 := 7) (L1 := [(0, .int a), (1, .int 0), (2, .int 15)]) (S1 := [.int 15, .int a]) 2 0 (fun n => rfl) ?_
        refine RP_cond (decide (15 < a)) (fun n => rfl) (fun _ => ?_) (fun h => absurd (xi_lt (x := 15) (y := a) (show 15 < a.toInt by omega)) (of_decide_eq_false h))
        show RP 55 _ 14 [(0, .int a), (1, .int 0), (2, .int 15)] [] _
        refine RP_done 4 (fun n => rfl) ?_
        refine Or.inr ⟨0, rfl, ?_⟩
        show RP 57 _ 7 [(0, .int a)] [.int 0] _
        refine RP_done 3 (fun n => rfl) ?_
        refine Or.inr ⟨0, rfl, ?_⟩
        show RP 58 _ 4 [(0, .int a), (1, .int b)] [.int 0] _
        refine RP_done 5 (fun n => rfl) ?_
        refine Or.inr ⟨0, rfl, ?_⟩
        show RP 59 _ 324 [(0, .int 10), (1, .int a), (2, .int b), (3, .int c), (4, .int d)] [.int 0] _
        refine RP_done 5 (fun n => rfl) ?_
        exact ⟨rfl, rfl⟩
      · have h223 := of_decide_eq_false hh
        have h224 : a.toInt < 16 := xj_nle h223
        show RP 23 _ 10 [(0, .int a)] [] _
        refine RP_done 5 (fun n => rfl) ?_
        refine Or.inr ⟨1, rfl, ?_⟩
        show RP 24 _ 4 [(0, .int a), (1, .int b)] [.int 1] _
        refine RP_step (pc1 := 9) (L1 := [(0, .int a), (1, .int b)]) (S1 := [.int 1, .int b]) 3 0 (fun n => rfl) ?_
        refine RP_cond (decide (b < 1)) (fun n => rfl) (fun hh => ?_) (fun hh => ?_)
        · have h225 := of_decide_eq_true hh
          have h226 : b.toInt < 1 := xj_lt h225
          show RP 24 _ 30 [(0, .int a), (1, .int b)] [] _
          refine RP_done 4 (fun n => rfl) ?_
          refine Or.inr ⟨0, rfl, ?_⟩
          show RP 25 _ 325 [(0, .int 10), (1, .int a), (2, .int b), (3, .int c), (4, .int d)] [.int 0] _
          refine RP_done 5 (fun n => rfl) ?_
          refine ⟨Or.inl rfl, rfl, ?_⟩
          show RP 59 _ 0 [(0, .int 10), (1, .int a), (2, .int b), (3, .int c), (4, .int d)] [] _
          refine RP_step (pc1 := 321) (L1 := [(0, .int 10), (1, .int a), (2, .int b), (3, .int c), (4, .int d)]) (S1 := [.int b, .int a]) 4 0 (fun n => rfl) ?_
          refine RP_call 58 [.int a, .int b] (fun n => rfl) ?_
          show RP 58 _ 0 [(0, .int a), (1, .int b)] [] _
          refine RP_step (pc1 := 1) (L1 := [(0, .int a), (1, .int b)]) (S1 := [.int a]) 1 0 (fun n => rfl) ?_
          refine RP_call 57 [.int a] (fun n => rfl) ?_
          show RP 57 _ 0 [(0, .int a)] [] _
          refine RP_step (pc1 := 4) (L1 := [(0, .int a)]) (S1 := [.int 15, .int 0, .int a]) 3 0 (fun n => rfl) ?_
          refine RP_call 55 [.int a, .int 0, .int 15] (fun n => rfl) ?_
          show RP 55 _ 0 [(0, .int a), (1, .int 0), (2, .int 15)] [] _
          refine RP_step (pc1 := 2) (L1 := [(0, .int a), (1, .int 0), (2, .int 15)]) (S1 := [.int 0, .int a]) 2 0 (fun n => rfl) ?_
          refine RP_cond (decide (a < 0)) (fun n => rfl) (fun h => absurd (of_decide_eq_true h) (xi_nlt (x := a) (y := 0) (show 0 ≤ a.toInt by omega))) (fun _ => ?_)
          show RP 55 _ 5 [(0, .int a), (1, .int 0), (2, .int 15)] [] _
          refine RP_step (pc1 := 7) (L1 := [(0, .int a), (1, .int 0), (2, .int 15)]) (S1 := [.int 15, .int a]) 2 0 (fun n => rfl) ?_
          refine RP_cond (decide (15 < a)) (fun n => rfl) (fun h => absurd (of_decide_eq_true h) (xi_nlt (x := 15) (y := a) (show a.toInt ≤ 15 by omega))) (fun _ => ?_)
          show RP 55 _ 10 [(0, .int a), (1, .int 0), (2, .int 15)] [] _
          refine RP_done 5 (fun n => rfl) ?_
          refine Or.inr ⟨1, rfl, ?_⟩
          show RP 57 _ 7 [(0, .int a)] [.int 1] _
          refine RP_done 3 (fun n => rfl) ?_
          refine Or.inr ⟨1, rfl, ?_⟩
          show RP 58 _ 4 [(0, .int a), (1, .int b)] [.int 1] _
          refine RP_step (pc1 := 11) (L1 := [(0, .int a), (1, .int b)]) (S1 := [.int 8, .int 1, .int b]) 4 0 (fun n => rfl) ?_
          refine RP_call 55 [.int b, .int 1, .int 8] (fun n => rfl) ?_
          show RP 55 _ 0 [(0, .int b), (1, .int 1), (2, .int 8)] [] _
          refine RP_step (pc1 := 2) (L1 := [(0, .int b), (1, .int 1), (2, .int 8)]) (S1 := [.int 1, .int b]) 2 0 (fun n => rfl) ?_
          refine RP_cond (decide (b < 1)) (fun n => rfl) (fun _ => ?_) (fun h => absurd (xi_lt (x := b) (y := 1) (show b.toInt < 1 by omega)) (of_decide_eq_false h))
          show RP 55 _ 14 [(0, .int b), (1, .int 1), (2, .int 8)] [] _
          refine RP_done 4 (fun n => rfl) ?_
          refine Or.inr ⟨0, rfl, ?_⟩
          show RP 58 _ 14 [(0, .int a), (1, .int b)] [.int 0] _
          refine RP_done 5 (fun n => rfl) ?_
          refine Or.inr ⟨0, rfl, ?_⟩
          show RP 59 _ 324 [(0, .int 10), (1, .int a), (2, .int b), (3, .int c), (4, .int d)] [.int 0] _
          refine RP_done 5 (fun n => rfl) ?_
          exact ⟨rfl, rfl⟩
        · have h227 := of_decide_eq_false hh
          have h228 : 1 ≤ b.toInt := xj_nlt h227
          show RP 24 _ 12 [(0, .int a), (1, .int b)] [] _
          refine RP_step (pc1 := 15) (L1 := [(0, .int a), (1, .int b)]) (S1 := [.int 8, .int b]) 2 0 (fun n => rfl) ?_
          refine RP_cond (decide (8 < b)) (fun n => rfl) (fun hh => ?_) (fun hh => ?_)
          · have h229 := of_decide_eq_true hh
            have h230 : 8 < b.toInt := xj_lt h229
            show RP 24 _ 30 [(0, .int a), (1, .int b)] [] _
            refine RP_done 4 (fun n => rfl) ?_
            refine Or.inr ⟨0, rfl, ?_⟩
            show RP 25 _ 325 [(0, .int 10), (1, .int a), (2, .int b), (3, .int c), (4, .int d)] [.int 0] _
            refine RP_done 5 (fun n => rfl) ?_
            refine ⟨Or.inl rfl, rfl, ?_⟩
            show RP 59 _ 0 [(0, .int 10), (1, .int a), (2, .int b), (3, .int c), (4, .int d)] [] _
            refine RP_step (pc1 := 321) (L1 := [(0, .int 10), (1, .int a), (2, .int b), (3, .int c), (4, .int d)]) (S1 := [.int b, .int a]) 4 0 (fun n => rfl) ?_
            refine RP_call 58 [.int a, .int b] (fun n => rfl) ?_
            show RP 58 _ 0 [(0, .int a), (1, .int b)] [] _
            refine RP_step (pc1 := 1) (L1 := [(0, .int a), (1, .int b)]) (S1 := [.int a]) 1 0 (fun n => rfl) ?_
            refine RP_call 57 [.int a] (fun n => rfl) ?_
            show RP 57 _ 0 [(0, .int a)] [] _
            refine RP_step (pc1 := 4) (L1 := [(0, .int a)]) (S1 := [.int 15, .int 0, .int a]) 3 0 (fun n => rfl) ?_
            refine RP_call 55 [.int a, .int 0, .int 15] (fun n => rfl) ?_
            show RP 55 _ 0 [(0, .int a), (1, .int 0), (2, .int 15)] [] _
            refine RP_step (pc1 := 2) (L1 := [(0, .int a), (1, .int 0), (2, .int 15)]) (S1 := [.int 0, .int a]) 2 0 (fun n => rfl) ?_
            refine RP_cond (decide (a < 0)) (fun n => rfl) (fun h => absurd (of_decide_eq_true h) (xi_nlt (x := a) (y := 0) (show 0 ≤ a.toInt by omega))) (fun _ => ?_)
            show RP 55 _ 5 [(0, .int a), (1, .int 0), (2, .int 15)] [] _
            refine RP_step (pc1 := 7) (L1 := [(0, .int a), (1, .int 0), (2, .int 15)]) (S1 := [.int 15, .int a]) 2 0 (fun n => rfl) ?_
            refine RP_cond (decide (15 < a)) (fun n => rfl) (fun h => absurd (of_decide_eq_true h) (xi_nlt (x := 15) (y := a) (show a.toInt ≤ 15 by omega))) (fun _ => ?_)
            show RP 55 _ 10 [(0, .int a), (1, .int 0), (2, .int 15)] [] _
            refine RP_done 5 (fun n => rfl) ?_
            refine Or.inr ⟨1, rfl, ?_⟩
            show RP 57 _ 7 [(0, .int a)] [.int 1] _
            refine RP_done 3 (fun n => rfl) ?_
            refine Or.inr ⟨1, rfl, ?_⟩
            show RP 58 _ 4 [(0, .int a), (1, .int b)] [.int 1] _
            refine RP_step (pc1 := 11) (L1 := [(0, .int a), (1, .int b)]) (S1 := [.int 8, .int 1, .int b]) 4 0 (fun n => rfl) ?_
            refine RP_call 55 [.int b, .int 1, .int 8] (fun n => rfl) ?_
            show RP 55 _ 0 [(0, .int b), (1, .int 1), (2, .int 8)] [] _
            refine RP_step (pc1 := 2) (L1 := [(0, .int b), (1, .int 1), (2, .int 8)]) (S1 := [.int 1, .int b]) 2 0 (fun n => rfl) ?_
            refine RP_cond (decide (b < 1)) (fun n => rfl) (fun h => absurd (of_decide_eq_true h) (xi_nlt (x := b) (y := 1) (show 1 ≤ b.toInt by omega))) (fun _ => ?_)
            show RP 55 _ 5 [(0, .int b), (1, .int 1), (2, .int 8)] [] _
            refine RP_step (pc1 := 7) (L1 := [(0, .int b), (1, .int 1), (2, .int 8)]) (S1 := [.int 8, .int b]) 2 0 (fun n => rfl) ?_
            refine RP_cond (decide (8 < b)) (fun n => rfl) (fun _ => ?_) (fun h => absurd (xi_lt (x := 8) (y := b) (show 8 < b.toInt by omega)) (of_decide_eq_false h))
            show RP 55 _ 14 [(0, .int b), (1, .int 1), (2, .int 8)] [] _
            refine RP_done 4 (fun n => rfl) ?_
            refine Or.inr ⟨0, rfl, ?_⟩
            show RP 58 _ 14 [(0, .int a), (1, .int b)] [.int 0] _
            refine RP_done 5 (fun n => rfl) ?_
            refine Or.inr ⟨0, rfl, ?_⟩
            show RP 59 _ 324 [(0, .int 10), (1, .int a), (2, .int b), (3, .int c), (4, .int d)] [.int 0] _
            refine RP_done 5 (fun n => rfl) ?_
            exact ⟨rfl, rfl⟩
          · have h231 := of_decide_eq_false hh
            have h232 : b.toInt ≤ 8 := xj_nlt h231
            show RP 24 _ 18 [(0, .int a), (1, .int b)] [] _
            refine RP_step (pc1 := 20) (L1 := [(0, .int a), (1, .int b)]) (S1 := [.int b, .int a]) 2 0 (fun n => rfl) ?_
            refine RP_bin (fun x y => x + y) (fun n => rfl) ?_
            show RP 24 _ 21 [(0, .int a), (1, .int b)] [.int (a + b)] _
            refine RP_step (pc1 := 23) (L1 := [(0, .int a), (1, .int b)]) (S1 := [.int 16, .int (a + b)]) 1 0 (fun n => rfl) ?_
            refine RP_cond (decide (16 < (a + b))) (fun n => rfl) (fun hh => ?_) (fun hh => ?_)
            · have h233 := of_decide_eq_true hh
              have h234 : 16 < (a + b).toInt := xj_lt h233
              show RP 24 _ 30 [(0, .int a), (1, .int b)] [] _
              refine RP_done 4 (fun n => rfl) ?_
              refine Or.inr ⟨0, rfl, ?_⟩
              show RP 25 _ 325 [(0, .int 10), (1, .int a), (2, .int b), (3, .int c), (4, .int d)] [.int 0] _
              refine RP_done 5 (fun n => rfl) ?_
              refine ⟨Or.inl rfl, rfl, ?_⟩
              show RP 59 _ 0 [(0, .int 10), (1, .int a), (2, .int b), (3, .int c), (4, .int d)] [] _
              refine RP_step (pc1 := 321) (L1 := [(0, .int 10), (1, .int a), (2, .int b), (3, .int c), (4, .int d)]) (S1 := [.int b, .int a]) 4 0 (fun n => rfl) ?_
              refine RP_call 58 [.int a, .int b] (fun n => rfl) ?_
              show RP 58 _ 0 [(0, .int a), (1, .int b)] [] _
              refine RP_step (pc1 := 1) (L1 := [(0, .int a), (1, .int b)]) (S1 := [.int a]) 1 0 (fun n => rfl) ?_
              refine RP_call 57 [.int a] (fun n => rfl) ?_
              show RP 57 _ 0 [(0, .int a)] [] _
              refine RP_step (pc1 := 4) (L1 := [(0, .int a)]) (S1 := [.int 15, .int 0, .int a]) 3 0 (fun n => rfl) ?_
              refine RP_call 55 [.int a, .int 0, .int 15] (fun n => rfl) ?_
              show RP 55 _ 0 [(0, .int a), (1, .int 0), (2, .int 15)] [] _
              refine RP_step (pc1 := 2) (L1 := [(0, .int a), (1, .int 0), (2, .int 15)]) (S1 := [.int 0, .int a]) 2 0 (fun n => rfl) ?_
              refine RP_cond (decide (a < 0)) (fun n => rfl) (fun h => absurd (of_decide_eq_true h) (xi_nlt (x := a) (y := 0) (show 0 ≤ a.toInt by omega))) (fun _ => ?_)
              show RP 55 _ 5 [(0, .int a), (1, .int 0), (2, .int 15)] [] _
              refine RP_step (pc1 := 7) (L1 := [(0, .int a), (1, .int 0), (2, .int 15)]) (S1 := [.int 15, .int a]) 2 0 (fun n => rfl) ?_
              refine RP_cond (decide (15 < a)) (fun n => rfl) (fun h => absurd (of_decide_eq_true h) (xi_nlt (x := 15) (y := a) (show a.toInt ≤ 15 by omega))) (fun _ => ?_)
              show RP 55 _ 10 [(0, .int a), (1, .int 0), (2, .int 15)] [] _
              refine RP_done 5 (fun n => rfl) ?_
              refine Or.inr ⟨1, rfl, ?_⟩
              show RP 57 _ 7 [(0, .int a)] [.int 1] _
              refine RP_done 3 (fun n => rfl) ?_
              refine Or.inr ⟨1, rfl, ?_⟩
              show RP 58 _ 4 [(0, .int a), (1, .int b)] [.int 1] _
              refine RP_step (pc1 := 11) (L1 := [(0, .int a), (1, .int b)]) (S1 := [.int 8, .int 1, .int b]) 4 0 (fun n => rfl) ?_
              refine RP_call 55 [.int b, .int 1, .int 8] (fun n => rfl) ?_
              show RP 55 _ 0 [(0, .int b), (1, .int 1), (2, .int 8)] [] _
              refine RP_step (pc1 := 2) (L1 := [(0, .int b), (1, .int 1), (2, .int 8)]) (S1 := [.int 1, .int b]) 2 0 (fun n => rfl) ?_
              refine RP_cond (decide (b < 1)) (fun n => rfl) (fun h => absurd (of_decide_eq_true h) (xi_nlt (x := b) (y := 1) (show 1 ≤ b.toInt by omega))) (fun _ => ?_)
              show RP 55 _ 5 [(0, .int b), (1, .int 1), (2, .int 8)] [] _
              refine RP_step (pc1 := 7) (L1 := [(0, .int b), (1, .int 1), (2, .int 8)]) (S1 := [.int 8, .int b]) 2 0 (fun n => rfl) ?_
              refine RP_cond (decide (8 < b)) (fun n => rfl) (fun h => absurd (of_decide_eq_true h) (xi_nlt (x := 8) (y := b) (show b.toInt ≤ 8 by omega))) (fun _ => ?_)
              show RP 55 _ 10 [(0, .int b), (1, .int 1), (2, .int 8)] [] _
              refine RP_done 5 (fun n => rfl) ?_
              refine Or.inr ⟨1, rfl, ?_⟩
              show RP 58 _ 14 [(0, .int a), (1, .int b)] [.int 1] _
              refine RP_step (pc1 := 19) (L1 := [(0, .int a), (1, .int b)]) (S1 := [.int b, .int a]) 3 0 (fun n => rfl) ?_
              refine RP_bin (fun x y => x + y) (fun n => rfl) ?_
              show RP 58 _ 20 [(0, .int a), (1, .int b)] [.int (a + b)] _
              refine RP_step (pc1 := 22) (L1 := [(0, .int a), (1, .int b)]) (S1 := [.int 16, .int (a + b)]) 1 0 (fun n => rfl) ?_
              refine RP_cond (decide (16 < (a + b))) (fun n => rfl) (fun _ => ?_) (fun h => absurd (xi_lt (x := 16) (y := (a + b)) (show 16 < (a + b).toInt by omega)) (of_decide_eq_false h))
              show RP 58 _ 29 [(0, .int a), (1, .int b)] [] _
              refine RP_done 4 (fun n => rfl) ?_
              refine Or.inr ⟨0, rfl, ?_⟩
              show RP 59 _ 324 [(0, .int 10), (1, .int a), (2, .int b), (3, .int c), (4, .int d)] [.int 0] _
              refine RP_done 5 (fun n => rfl) ?_
              exact ⟨rfl, rfl⟩
            · have h235 := of_decide_eq_false hh
              have h236 : (a + b).toInt ≤ 16 := xj_nlt h235
              show RP 24 _ 26 [(0, .int a), (1, .int b)] [] _
              refine RP_done 5 (fun n => rfl) ?_
              refine Or.inr ⟨1, rfl, ?_⟩
              show RP 25 _ 325 [(0, .int 10), (1, .int a), (2, .int b), (3, .int c), (4, .int d)] [.int 1] _
              refine RP_step (pc1 := 329) (L1 := [(0, .int 10), (1, .int a), (2, .int b), (3, .int c), (4, .int d)]) (S1 := [.int c]) 2 0 (fun n => rfl) ?_
              refine RP_cond (decide (c ≠ 0)) (fun n => rfl) (fun hh => ?_) (fun hh => ?_)
              · have h237 := of_decide_eq_true hh
                show RP 25 _ 341 [(0, .int 10), (1, .int a), (2, .int b), (3, .int c), (4, .int d)] [] _
                refine RP_done 4 (fun n => rfl) ?_
                refine ⟨Or.inl rfl, rfl, ?_⟩
                show RP 59 _ 0 [(0, .int 10), (1, .int a), (2, .int b), (3, .int c), (4, .int d)] [] _
                refine RP_step (pc1 := 321) (L1 := [(0, .int 10), (1, .int a), (2, .int b), (3, .int c), (4, .int d)]) (S1 := [.int b, .int a]) 4 0 (fun n => rfl) ?_
                refine RP_call 58 [.int a, .int b] (fun n => rfl) ?_
                show RP 58 _ 0 [(0, .int a), (1, .int b)] [] _
                refine RP_step (pc1 := 1) (L1 := [(0, .int a), (1, .int b)]) (S1 := [.int a]) 1 0 (fun n => rfl) ?_
                refine RP_call 57 [.int a] (fun n => rfl) ?_
                show RP 57 _ 0 [(0, .int a)] [] _
                refine RP_step (pc1 := 4) (L1 := [(0, .int a)]) (S1 := [.int 15, .int 0, .int a]) 3 0 (fun n => rfl) ?_
                refine RP_call 55 [.int a, .int 0, .int 15] (fun n => rfl) ?_
                show RP 55 _ 0 [(0, .int a), (1, .int 0), (2, .int 15)] [] _
                refine RP_step (pc1 := 2) (L1 := [(0, .int a), (1, .int 0), (2, .int 15)]) (S1 := [.int 0, .int a]) 2 0 (fun n => rfl) ?_
                refine RP_cond (decide (a < 0)) (fun n => rfl) (fun h => absurd (of_decide_eq_true h) (xi_nlt (x := a) (y := 0) (show 0 ≤ a.toInt by omega))) (fun _ => ?_)
                show RP 55 _ 5 [(0, .int a), (1, .int 0), (2, .int 15)] [] _
                refine RP_step (pc1 := 7) (L1 := [(0, .int a), (1, .int 0), (2, .int 15)]) (S1 := [.int 15, .int a]) 2 0 (fun n => rfl) ?_
                refine RP_cond (decide (15 < a)) (fun n => rfl) (fun h => absurd (of_decide_eq_true h) (xi_nlt (x := 15) (y := a) (show a.toInt ≤ 15 by omega))) (fun _ => ?_)
                show RP 55 _ 10 [(0, .int a), (1, .int 0), (2, .int 15)] [] _
                refine RP_done 5 (fun n => rfl) ?_
                refine Or.inr ⟨1, rfl, ?_⟩
                show RP 57 _ 7 [(0, .int a)] [.int 1] _
                refine RP_done 3 (fun n => rfl) ?_
                refine Or.inr ⟨1, rfl, ?_⟩
                show RP 58 _ 4 [(0, .int a), (1, .int b)] [.int 1] _
                refine RP_step (pc1 := 11) (L1 := [(0, .int a), (1, .int b)]) (S1 := [.int 8, .int 1, .int b]) 4 0 (fun n => rfl) ?_
                refine RP_call 55 [.int b, .int 1, .int 8] (fun n => rfl) ?_
                show RP 55 _ 0 [(0, .int b), (1, .int 1), (2, .int 8)] [] _
                refine RP_step (pc1 := 2) (L1 := [(0, .int b), (1, .int 1), (2, .int 8)]) (S1 := [.int 1, .int b]) 2 0 (fun n => rfl) ?_
                refine RP_cond (decide (b < 1)) (fun n => rfl) (fun h => absurd (of_decide_eq_true h) (xi_nlt (x := b) (y := 1) (show 1 ≤ b.toInt by omega))) (fun _ => ?_)
                show RP 55 _ 5 [(0, .int b), (1, .int 1), (2, .int 8)] [] _
                refine RP_step (pc1 := 7) (L1 := [(0, .int b), (1, .int 1), (2, .int 8)]) (S1 := [.int 8, .int b]) 2 0 (fun n => rfl) ?_
                refine RP_cond (decide (8 < b)) (fun n => rfl) (fun h => absurd (of_decide_eq_true h) (xi_nlt (x := 8) (y := b) (show b.toInt ≤ 8 by omega))) (fun _ => ?_)
                show RP 55 _ 10 [(0, .int b), (1, .int 1), (2, .int 8)] [] _
                refine RP_done 5 (fun n => rfl) ?_
                refine Or.inr ⟨1, rfl, ?_⟩
                show RP 58 _ 14 [(0, .int a), (1, .int b)] [.int 1] _
                refine RP_step (pc1 := 19) (L1 := [(0, .int a), (1, .int b)]) (S1 := [.int b, .int a]) 3 0 (fun n => rfl) ?_
                refine RP_bin (fun x y => x + y) (fun n => rfl) ?_
                show RP 58 _ 20 [(0, .int a), (1, .int b)] [.int (a + b)] _
                refine RP_step (pc1 := 22) (L1 := [(0, .int a), (1, .int b)]) (S1 := [.int 16, .int (a + b)]) 1 0 (fun n => rfl) ?_
                refine RP_cond (decide (16 < (a + b))) (fun n => rfl) (fun h => absurd (of_decide_eq_true h) (xi_nlt (x := 16) (y := (a + b)) (show (a + b).toInt ≤ 16 by omega))) (fun _ => ?_)
                show RP 58 _ 25 [(0, .int a), (1, .int b)] [] _
                refine RP_done 5 (fun n => rfl) ?_
                refine Or.inr ⟨1, rfl, ?_⟩
                show RP 59 _ 324 [(0, .int 10), (1, .int a), (2, .int b), (3, .int c), (4, .int d)] [.int 1] _
                refine RP_step (pc1 := 328) (L1 := [(0, .int 10), (1, .int a), (2, .int b), (3, .int c), (4, .int d)]) (S1 := [.int c]) 2 0 (fun n => rfl) ?_
                refine RP_cond (decide (c ≠ 0)) (fun n => rfl) (fun _ => ?_) (fun h => absurd (by assumption) (of_decide_eq_false h))
                show RP 59 _ 340 [(0, .int 10), (1, .int a), (2, .int b), (3, .int c), (4, .int d)] [] _
                refine RP_done 4 (fun n => rfl) ?_
                exact ⟨rfl, rfl⟩
              · have h238 := of_decide_eq_false hh
                replace h238 := Decidable.of_not_not h238
                clear hh
                subst h238
                show RP 25 _ 332 [(0, .int 10), (1, .int a), (2, .int b), (3, .int 0), (4, .int d)] [] _
                refine RP_step (pc1 := 334) (L1 := [(0, .int 10), (1, .int a), (2, .int b), (3, .int 0), (4, .int d)]) (S1 := [.int d]) 1 0 (fun n => rfl) ?_
                refine RP_cond (decide (d ≠ 0)) (fun n => rfl) (fun hh => ?_) (fun hh => ?_)
                · have h239 := of_decide_eq_true hh
                  show RP 25 _ 341 [(0, .int 10), (1, .int a), (2, .int b), (3, .int 0), (4, .int d)] [] _
                  refine RP_done 4 (fun n => rfl) ?_
                  refine ⟨Or.inl rfl, rfl, ?_⟩
                  show RP 59 _ 0 [(0, .int 10), (1, .int a), (2, .int b), (3, .int 0), (4, .int d)] [] _
                  refine RP_step (pc1 := 321) (L1 := [(0, .int 10), (1, .int a), (2, .int b), (3, .int 0), (4, .int d)]) (S1 := [.int b, .int a]) 4 0 (fun n => rfl) ?_
                  refine RP_call 58 [.int a, .int b] (fun n => rfl) ?_
                  show RP 58 _ 0 [(0, .int a), (1, .int b)] [] _
                  refine RP_step (pc1 := 1) (L1 := [(0, .int a), (1, .int b)]) (S1 := [.int a]) 1 0 (fun n => rfl) ?_
                  refine RP_call 57 [.int a] (fun n => rfl) ?_
                  show RP 57 _ 0 [(0, .int a)] [] _
                  refine RP_step (pc1 := 4) (L1 := [(0, .int a)]) (S1 := [.int 15, .int 0, .int a]) 3 0 (fun n => rfl) ?_
                  refine RP_call 55 [.int a, .int 0, .int 15] (fun n => rfl) ?_
                  show RP 55 _ 0 [(0, .int a), (1, .int 0), (2, .int 15)] [] _
                  refine RP_step (pc1 := 2) (L1 := [(0, .int a), (1, .int 0), (2, .int 15)]) (S1 := [.int 0, .int a]) 2 0 (fun n => rfl) ?_
                  refine RP_cond (decide (a < 0)) (fun n => rfl) (fun h => absurd (of_decide_eq_true h) (xi_nlt (x := a) (y := 0) (show 0 ≤ a.toInt by omega))) (fun _ => ?_)
                  show RP 55 _ 5 [(0, .int a), (1, .int 0), (2, .int 15)] [] _
                  refine RP_step (pc1 := 7) (L1 := [(0, .int a), (1, .int 0), (2, .int 15)]) (S1 := [.int 15, .int a]) 2 0 (fun n => rfl) ?_
                  refine RP_cond (decide (15 < a)) (fun n => rfl) (fun h => absurd (of_decide_eq_true h) (xi_nlt (x := 15) (y := a) (show a.toInt ≤ 15 by omega))) (fun _ => ?_)
                  show RP 55 _ 10 [(0, .int a), (1, .int 0), (2, .int 15)] [] _
                  refine RP_done 5 (fun n => rfl) ?_
                  refine Or.inr ⟨1, rfl, ?_⟩
                  show RP 57 _ 7 [(0, .int a)] [.int 1] _
                  refine RP_done 3 (fun n => rfl) ?_
                  refine Or.inr ⟨1, rfl, ?_⟩
                  show RP 58 _ 4 [(0, .int a), (1, .int b)] [.int 1] _
                  refine RP_step (pc1 := 11) (L1 := [(0, .int a), (1, .int b)]) (S1 := [.int 8, .int 1, .int b]) 4 0 (fun n => rfl) ?_
                  refine RP_call 55 [.int b, .int 1, .int 8] (fun n => rfl) ?_
                  show RP 55 _ 0 [(0, .int b), (1, .int 1), (2, .int 8)] [] _
                  refine RP_step (pc1 := 2) (L1 := [(0, .int b), (1, .int 1), (2, .int 8)]) (S1 := [.int 1, .int b]) 2 0 (fun n => rfl) ?_
                  refine RP_cond (decide (b < 1)) (fun n => rfl) (fun h => absurd (of_decide_eq_true h) (xi_nlt (x := b) (y := 1) (show 1 ≤ b.toInt by omega))) (fun _ => ?_)
                  show RP 55 _ 5 [(0, .int b), (1, .int 1), (2, .int 8)] [] _
                  refine RP_step (pc1 := 7) (L1 := [(0, .int b), (1, .int 1), (2, .int 8)]) (S1 := [.int 8, .int b]) 2 0 (fun n => rfl) ?_
                  refine RP_cond (decide (8 < b)) (fun n => rfl) (fun h => absurd (of_decide_eq_true h) (xi_nlt (x := 8) (y := b) (show b.toInt ≤ 8 by omega))) (fun _ => ?_)
                  show RP 55 _ 10 [(0, .int b), (1, .int 1), (2, .int 8)] [] _
                  refine RP_done 5 (fun n => rfl) ?_
                  refine Or.inr ⟨1, rfl, ?_⟩
                  show RP 58 _ 14 [(0, .int a), (1, .int b)] [.int 1] _
                  refine RP_step (pc1 := 19) (L1 := [(0, .int a), (1, .int b)]) (S1 := [.int b, .int a]) 3 0 (fun n => rfl) ?_
                  refine RP_bin (fun x y => x + y) (fun n => rfl) ?_
                  show RP 58 _ 20 [(0, .int a), (1, .int b)] [.int (a + b)] _
                  refine RP_step (pc1 := 22) (L1 := [(0, .int a), (1, .int b)]) (S1 := [.int 16, .int (a + b)]) 1 0 (fun n => rfl) ?_
                  refine RP_cond (decide (16 < (a + b))) (fun n => rfl) (fun h => absurd (of_decide_eq_true h) (xi_nlt (x := 16) (y := (a + b)) (show (a + b).toInt ≤ 16 by omega))) (fun _ => ?_)
                  show RP 58 _ 25 [(0, .int a), (1, .int b)] [] _
                  refine RP_done 5 (fun n => rfl) ?_
                  refine Or.inr ⟨1, rfl, ?_⟩
                  show RP 59 _ 324 [(0, .int 10), (1, .int a), (2, .int b), (3, .int 0), (4, .int d)] [.int 1] _
                  refine RP_step (pc1 := 333) (L1 := [(0, .int 10), (1, .int a), (2, .int b), (3, .int 0), (4, .int d)]) (S1 := [.int d]) 4 0 (fun n => rfl) ?_
                  refine RP_cond (decide (d ≠ 0)) (fun n => rfl) (fun _ => ?_) (fun h => absurd (by assumption) (of_decide_eq_false h))
                  show RP 59 _ 340 [(0, .int 10), (1, .int a), (2, .int b), (3, .int 0), (4, .int d)] [] _
                  refine RP_done 4 (fun n => rfl) ?_
                  exact ⟨rfl, rfl⟩
                · have h240 := of_decide_eq_false hh
                  replace h240 := Decidable.of_not_not h240
                  clear hh
                  subst h240
                  show RP 25 _ 337 [(0, .int 10), (1, .int a), (2, .int b), (3, .int 0), (4, .int 0)] [] _
                  refine RP_done 5 (fun n => rfl) ?_
                  refine ⟨Or.inr rfl, rfl, ?_⟩
                  show RP 59 _ 0 [(0, .int 10), (1, .int a), (2, .int b), (3, .int 0), (4, .int 0)] [] _
                  refine RP_step (pc1 := 321) (L1 := [(0, .int 10), (1, .int a), (2, .int b), (3, .int 0), (4, .int 0)]) (S1 := [.int b, .int a]) 4 0 (fun n => rfl) ?_
                  refine RP_call 58 [.int a, .int b] (fun n => rfl) ?_
                  show RP 58 _ 0 [(0, .int a), (1, .int b)] [] _
                  refine RP_step (pc1 := 1) (L1 := [(0, .int a), (1, .int b)]) (S1 := [.int a]) 1 0 (fun n => rfl) ?_
                  refine RP_call 57 [.int a] (fun n => rfl) ?_
                  show RP 57 _ 0 [(0, .int a)] [] _
                  refine RP_step (pc1 := 4) (L1 := [(0, .int a)]) (S1 := [.int 15, .int 0, .int a]) 3 0 (fun n => rfl) ?_
                  refine RP_call 55 [.int a, .int 0, .int 15] (fun n => rfl) ?_
                  show RP 55 _ 0 [(0, .int a), (1, .int 0), (2, .int 15)] [] _
                  refine RP_step (pc1 := 2) (L1 := [(0, .int a), (1, .int 0), (2, .int 15)]) (S1 := [.int 0, .int a]) 2 0 (fun n => rfl) ?_
                  refine RP_cond (decide (a < 0)) (fun n => rfl) (fun h => absurd (of_decide_eq_true h) (xi_nlt (x := a) (y := 0) (show 0 ≤ a.toInt by omega))) (fun _ => ?_)
                  show RP 55 _ 5 [(0, .int a), (1, .int 0), (2, .int 15)] [] _
                  refine RP_step (pc1 := 7) (L1 := [(0, .int a), (1, .int 0), (2, .int 15)]) (S1 := [.int 15, .int a]) 2 0 (fun n => rfl) ?_
                  refine RP_cond (decide (15 < a)) (fun n => rfl) (fun h => absurd (of_decide_eq_true h) (xi_nlt (x := 15) (y := a) (show a.toInt ≤ 15 by omega))) (fun _ => ?_)
                  show RP 55 _ 10 [(0, .int a), (1, .int 0), (2, .int 15)] [] _
                  refine RP_done 5 (fun n => rfl) ?_
                  refine Or.inr ⟨1, rfl, ?_⟩
                  show RP 57 _ 7 [(0, .int a)] [.int 1] _
                  refine RP_done 3 (fun n => rfl) ?_
                  refine Or.inr ⟨1, rfl, ?_⟩
                  show RP 58 _ 4 [(0, .int a), (1, .int b)] [.int 1] _
                  refine RP_step (pc1 := 11) (L1 := [(0, .int a), (1, .int b)]) (S1 := [.int 8, .int 1, .int b]) 4 0 (fun n => rfl) ?_
                  refine RP_call 55 [.int b, .int 1, .int 8] (fun n => rfl) ?_
                  show RP 55 _ 0 [(0, .int b), (1, .int 1), (2, .int 8)] [] _
                  refine RP_step (pc1 := 2) (L1 := [(0, .int b), (1, .int 1), (2, .int 8)]) (S1 := [.int 1, .int b]) 2 0 (fun n => rfl) ?_
                  refine RP_cond (decide (b < 1)) (fun n => rfl) (fun h => absurd (of_decide_eq_true h) (xi_nlt (x := b) (y := 1) (show 1 ≤ b.toInt by omega))) (fun _ => ?_)
                  show RP 55 _ 5 [(0, .int b), (1, .int 1), (2, .int 8)] [] _
                  refine RP_step (pc1 := 7) (L1 := [(0, .int b), (1, .int 1), (2, .int 8)]) (S1 := [.int 8, .int b]) 2 0 (fun n => rfl) ?_
                  refine RP_cond (decide (8 < b)) (fun n => rfl) (fun h => absurd (of_decide_eq_true h) (xi_nlt (x := 8) (y := b) (show b.toInt ≤ 8 by omega))) (fun _ => ?_)
                  show RP 55 _ 10 [(0, .int b), (1, .int 1), (2, .int 8)] [] _
                  refine RP_done 5 (fun n => rfl) ?_
                  refine Or.inr ⟨1, rfl, ?_⟩
                  show RP 58 _ 14 [(0, .int a), (1, .int b)] [.int 1] _
                  refine RP_step (pc1 := 19) (L1 := [(0, .int a), (1, .int b)]) (S1 := [.int b, .int a]) 3 0 (fun n => rfl) ?_
                  refine RP_bin (fun x y => x + y) (fun n => rfl) ?_
                  show RP 58 _ 20 [(0, .int a), (1, .int b)] [.int (a + b)] _
                  refine RP_step (pc1 := 22) (L1 := [(0, .int a), (1, .int b)]) (S1 := [.int 16, .int (a + b)]) 1 0 (fun n => rfl) ?_
                  refine RP_cond (decide (16 < (a + b))) (fun n => rfl) (fun h => absurd (of_decide_eq_true h) (xi_nlt (x := 16) (y := (a + b)) (show (a + b).toInt ≤ 16 by omega))) (fun _ => ?_)
                  show RP 58 _ 25 [(0, .int a), (1, .int b)] [] _
                  refine RP_done 5 (fun n => rfl) ?_
                  refine Or.inr ⟨1, rfl, ?_⟩
                  show RP 59 _ 324 [(0, .int 10), (1, .int a), (2, .int b), (3, .int 0), (4, .int 0)] [.int 1] _
                  refine RP_done 10 (fun n => rfl) ?_
                  exact ⟨rfl, rfl⟩
  · skip
    show RP 25 _ 0 [(0, .int 11), (1, .int a), (2, .int b), (3, .int c), (4, .int d)] [] _
    refine RP_step (pc1 := 322) (L1 := [(0, .int 11), (1, .int a), (2, .int b), (3, .int c), (4, .int d)]) (S1 := [.int b, .int a]) 4 0 (fun n => rfl) ?_
    refine RP_call 24 [.int a, .int b] (fun n => rfl) ?_
    show RP 24 _ 0 [(0, .int a), (1, .int b)] [] _
    refine RP_step (pc1 := 1) (L1 := [(0, .int a), (1, .int b)]) (S1 := [.int a]) 1 0 (fun n => rfl) ?_
    refine RP_call 23 [.int a] (fun n => rfl) ?_
    show RP 23 _ 0 [(0, .int a)] [] _
    refine RP_step (pc1 := 1) (L1 := [(0, .int a)]) (S1 := [.int a]) 1 0 (fun n => rfl) ?_
    refine RP_cond (decide (a < 0)) (fun n => rfl) (fun hh => ?_) (fun hh => ?_)
    · have h241 := of_decide_eq_true hh
      have h242 : a.toInt < 0 := xj_lt h241
      show RP 23 _ 14 [(0, .int a)] [] _
      refine RP_done 4 (fun n => rfl) ?_
      refine Or.inr ⟨0, rfl, ?_⟩
      show RP 24 _ 4 [(0, .int a), (1, .int b)] [.int 0] _
      refine RP_done 5 (fun n => rfl) ?_
      refine Or.inr ⟨0, rfl, ?_⟩
      show RP 25 _ 325 [(0, .int 11), (1, .int a), (2, .int b), (3, .int c), (4, .int d)] [.int 0] _
      refine RP_done 5 (fun n => rfl) ?_
      refine ⟨Or.inl rfl, rfl, ?_⟩
      show RP 59 _ 0 [(0, .int 11), (1, .int a), (2, .int b), (3, .int c), (4, .int d)] [] _
      refine RP_step (pc1 := 321) (L1 := [(0, .int 11), (1, .int a), (2, .int b), (3, .int c), (4, .int d)]) (S1 := [.int b, .int a]) 4 0 (fun n => rfl) ?_
      refine RP_call 58 [.int a, .int b] (fun n => rfl) ?_
      show RP 58 _ 0 [(0, .int a), (1, .int b)] [] _
      refine RP_step (pc1 := 1) (L1 := [(0, .int a), (1, .int b)]) (S1 := [.int a]) 1 0 (fun n => rfl) ?_
      refine RP_call 57 [.int a] (fun n => rfl) ?_
      show RP 57 _ 0 [(0, .int a)] [] _
      refine RP_step (pc1 := 4) (L1 := [(0, .int a)]) (S1 := [.int 15, .int 0, .int a]) 3 0 (fun n => rfl) ?_
      refine RP_call 55 [.int a, .int 0, .int 15] (fun n => rfl) ?_
      show RP 55 _ 0 [(0, .int a), (1, .int 0), (2, .int 15)] [] _
      refine RP_step (pc1 := 2) (L1 := [(0, .int a), (1, .int 0), (2, .int 15)]) (S1 := [.int 0, .int a]) 2 0 (fun n => rfl) ?_
      refine RP_cond (decide (a < 0)) (fun n => rfl) (fun _ => ?_) (fun h => absurd (xi_lt (x := a) (y := 0) (show a.toInt < 0 by omega)) (of_decide_eq_false h))
      show RP 55 _ 14 [(0, .int a), (1, .int 0), (2, .int 15)] [] _
      refine RP_done 4 (fun n => rfl) ?_
      refine Or.inr ⟨0, rfl, ?_⟩
      show RP 57 _ 7 [(0, .int a)] [.int 0] _
      refine RP_done 3 (fun n => rfl) ?_
      refine Or.inr ⟨0, rfl, ?_⟩
      show RP 58 _ 4 [(0, .int a), (1, .int b)] [.int 0] _
      refine RP_done 5 (fun n => rfl) ?_
      refine Or.inr ⟨0, rfl, ?_⟩
      show RP 59 _ 324 [(0, .int 11), (1, .int a), (2, .int b), (3, .int c), (4, .int d)] [.int 0] _
      refine RP_done 5 (fun n => rfl) ?_
      exact ⟨rfl, rfl⟩
    · have h243 := of_decide_eq_false hh
      have h244 : 0 ≤ a.toInt := xj_nlt h243
      show RP 23 _ 4 [(0, .int a)] [] _
      refine RP_step (pc1 := 7) (L1 := [(0, .int a)]) (S1 := [.int 16, .int a]) 2 0 (fun n => rfl) ?_
      refine RP_cond (decide (16 ≤ a)) (fun n => rfl) (fun hh => ?_) (fun hh => ?_)
      · have h245 := of_decide_eq_true hh
        have h246 : 16 ≤ a.toInt := xj_le h245
        show RP 23 _ 14 [(0, .int a)] [] _
        refine RP_done 4 (fun n => rfl) ?_
        refine Or.inr ⟨0, rfl, ?_⟩
        show RP 24 _ 4 [(0, .int a), (1, .int b)] [.int 0] _
        refine RP_done 5 (fun n => rfl) ?_
        refine Or.inr ⟨0, rfl, ?_⟩
        show RP 25 _ 325 [(0, .int 11), (1, .int a), (2, .int b), (3, .int c), (4, .int d)] [.int 0] _
        refine RP_done 5 (fun n => rfl) ?_
        refine ⟨Or.inl rfl, rfl, ?_⟩
        show RP 59 _ 0 [(0, .int 11), (1, .int a), (2, .int b), (3, .int c), (4, .int d)] [] _
        refine RP_step (pc1 := 321) (L1 := [(0, .int 11), (1, .int a), (2, .int b), (3, .int c), (4, .int d)]) (S1 := [.int b, .int a]) 4 0 (fun n => rfl) ?_
        refine RP_call 58 [.int a, .int b] (fun n => rfl) ?_
        show RP 58 _ 0 [(0, .int a), (1, .int b)] [] _
        refine RP_step (pc1 := 1) (L1 := [(0, .int a), (1, .int b)]) (S1 := [.int a]) 1 0 (fun n => rfl) ?_
        refine RP_call 57 [.int a] (fun n => rfl) ?_
        show RP 57 _ 0 [(0, .int a)] [] _
        refine RP_step (pc1 := 4) (L1 := [(0, .int a)]) (S1 := [.int 15, .int 0, .int a]) 3 0 (fun n => rfl) ?_
        refine RP_call 55 [.int a, .int 0, .int 15] (fun n => rfl) ?_
        show RP 55 _ 0 [(0, .int a), (1, .int 0), (2, .int 15)] [] _
        refine RP_step (pc1 := 2) (L1 := [(0, .int a), (1, .int 0), (2, .int 15)]) (S1 := [.int 0, .int a]) 2 0 (fun n => rfl) ?_
        refine RP_cond (decide (a < 0)) (fun n => rfl) (fun h => absurd (of_decide_eq_true h) (xi_nlt (x := a) (y := 0) (show 0 ≤ a.toInt by omega))) (fun _ => ?_)
        show RP 55 _ 5 [(0, .int a), (1, .int 0), (2, .int 15)] [] _
        refine RP_step (pc1 := 7) (L1 := [(0, .int a), (1, .int 0), (2, .int 15)]) (S1 := [.int 15, .int a]) 2 0 (fun n => rfl) ?_
        refine RP_cond (decide (15 < a)) (fun n => rfl) (fun _ => ?_) (fun h => absurd (xi_lt (x := 15) (y := a) (show 15 < a.toInt by omega)) (of_decide_eq_false h))
        show RP 55 _ 14 [(0, .int a), (1, .int 0), (2, .int 15)] [] _
        refine RP_done 4 (fun n => rfl) ?_
        refine Or.inr ⟨0, rfl, ?_⟩
        show RP 57 _ 7 [(0, .int a)] [.int 0] _
        refine RP_done 3 (fun n => rfl) ?_
        refine Or.inr ⟨0, rfl, ?_⟩
        show RP 58 _ 4 [(0, .int a), (1, .int b)] [.int 0] _
        refine RP_done 5 (fun n => rfl) ?_
        refine Or.inr ⟨0, rfl, ?_⟩
        show RP 59 _ 324 [(0, .int 11), (1, .int a), (2, .int b), (3, .int c), (4, .int d)] [.int 0] _
        refine RP_done 5 (fun n => rfl) ?_
        exact ⟨rfl, rfl⟩
      · have h247 := of_decide_eq_false hh
        have h248 : a.toInt < 16 := xj_nle h247
        show RP 23 _ 10 [(0, .int a)] [] _
        refine RP_done 5 (fun n => rfl) ?_
        refine Or.inr ⟨1, rfl, ?_⟩
        show RP 24 _ 4 [(0, .int a), (1, .int b)] [.int 1] _
        refine RP_step (pc1 := 9) (L1 := [(0, .int a), (1, .int b)]) (S1 := [.int 1, .int b]) 3 0 (fun n => rfl) ?_
        refine RP_cond (decide (b < 1)) (fun n => rfl) (fun hh => ?_) (fun hh => ?_)
        · have h249 := of_decide_eq_true hh
          have h250 : b.toInt < 1 := xj_lt h249
          show RP 24 _ 30 [(0, .int a), (1, .int b)] [] _
          refine RP_done 4 (fun n => rfl) ?_
          refine Or.inr ⟨0, rfl, ?_⟩
          show RP 25 _ 325 [(0, .int 11), (1, .int a), (2, .int b), (3, .int c), (4, .int d)] [.int 0] _
          refine RP_done 5 (fun n => rfl) ?_
          refine ⟨Or.inl rfl, rfl, ?_⟩
          show RP 59 _ 0 [(0, .int 11), (1, .int a), (2, .int b), (3, .int c), (4, .int d)] [] _
          refine RP_step (pc1 := 321) (L1 := [(0, .int 11), (1, .int a), (2, .int b), (3, .int c), (4, .int d)]) (S1 := [.int b, .int a]) 4 0 (fun n => rfl) ?_
          refine RP_call 58 [.int a, .int b] (fun n => rfl) ?_
          show RP 58 _ 0 [(0, .int a), (1, .int b)] [] _
          refine RP_step (pc1 := 1) (L1 := [(0, .int a), (1, .int b)]) (S1 := [.int a]) 1 0 (fun n => rfl) ?_
          refine RP_call 57 [.int a] (fun n => rfl) ?_
          show RP 57 _ 0 [(0, .int a)] [] _
          refine RP_step (pc1 := 4) (L1 := [(0, .int a)]) (S1 := [.int 15, .int 0, .int a]) 3 0 (fun n => rfl) ?_
          refine RP_call 55 [.int a, .int 0, .int 15] (fun n => rfl) ?_
          show RP 55 _ 0 [(0, .int a), (1, .int 0), (2, .int 15)] [] _
          refine RP_step (pc1 := 2) (L1 := [(0, .int a), (1, .int 0), (2, .int 15)]) (S1 := [.int 0, .int a]) 2 0 (fun n => rfl) ?_
          refine RP_cond (decide (a < 0)) (fun n => rfl) (fun h => absurd (of_decide_eq_true h) (xi_nlt (x := a) (y := 0) (show 0 ≤ a.toInt by omega))) (fun _ => ?_)
          show RP 55 _ 5 [(0, .int a), (1, .int 0), (2, .int 15)] [] _
          refine RP_step (pc1 := 7) (L1 := [(0, .int a), (1, .int 0), (2, .int 15)]) (S1 := [.int 15, .int a]) 2 0 (fun n => rfl) ?_
          refine RP_cond (decide (15 < a)) (fun n => rfl) (fun h => absurd (of_decide_eq_true h) (xi_nlt (x := 15) (y := a) (show a.toInt ≤ 15 by omega))) (fun _ => ?_)
          show RP 55 _ 10 [(0, .int a), (1, .int 0), (2, .int 15)] [] _
          refine RP_done 5 (fun n => rfl) ?_
          refine Or.inr ⟨1, rfl, ?_⟩
          show RP 57 _ 7 [(0, .int a)] [.int 1] _
          refine RP_done 3 (fun n => rfl) ?_
          refine Or.inr ⟨1, rfl, ?_⟩
          show RP 58 _ 4 [(0, .int a), (1, .int b)] [.int 1] _
          refine RP_step (pc1 := 11) (L1 := [(0, .int a), (1, .int b)]) (S1 := [.int 8, .int 1, .int b]) 4 0 (fun n => rfl) ?_
          refine RP_call 55 [.int b, .int 1, .int 8] (fun n => rfl) ?_
          show RP 55 _ 0 [(0, .int b), (1, .int 1), (2, .int 8)] [] _
          refine RP_step (pc1 := 2) (L1 := [(0, .int b), (1, .int 1), (2, .int 8)]) (S1 := [.int 1, .int b]) 2 0 (fun n => rfl) ?_
          refine RP_cond (decide (b < 1)) (fun n => rfl) (fun _ => ?_) (fun h => absurd (xi_lt (x := b) (y := 1) (show b.toInt < 1 by omega)) (of_decide_eq_false h))
          show RP 55 _ 14 [(0, .int b), (1, .int 1), (2, .int 8)] [] _
          refine RP_done 4 (fun n => rfl) ?_
          refine Or.inr ⟨0, rfl, ?_⟩
          show RP 58 _ 14 [(0, .int a), (1, .int b)] [.int 0] _
          refine RP_done 5 (fun n => rfl) ?_
          refine Or.inr ⟨0, rfl, ?_⟩
          show RP 59 _ 324 [(0, .int 11), (1, .int a), (2, .int b), (3, .int c), (4, .int d)] [.int 0] _
          refine RP_done 5 (fun n => rfl) ?_
          exact ⟨rfl, rfl⟩
        · have h251 := of_decide_eq_false hh
          have h252 : 1 ≤ b.toInt := xj_nlt h251
          show RP 24 _ 12 [(0, .int a), (1, .int b)] [] _
          refine RP_step (pc1 := 15) (L1 := [(0, .int a), (1, .int b)]) (S1 := [.int 8, .int b]) 2 0 (fun n => rfl) ?_
          refine RP_cond (decide (8 < b)) (fun n => rfl) (fun hh => ?_) (fun hh => ?_)
          · have h253 := of_decide_eq_true hh
            have h254 : 8 < b.toInt := xj_lt h253
            show RP 24 _ 30 [(0, .int a), (1, .int b)] [] _
            refine RP_done 4 (fun n => rfl) ?_
            refine Or.inr ⟨0, rfl, ?_⟩
            show RP 25 _ 325 [(0, .int 11), (1, .int a), (2, .int b), (3, .int c), (4, .int d)] [.int 0] _
            refine RP_done 5 (fun n => rfl) ?_
            refine ⟨Or.inl rfl, rfl, ?_⟩
            show RP 59 _ 0 [(0, .int 11), (1, .int a), (2, .int b), (3, .int c), (4, .int d)] [] _
            refine RP_step (pc1 := 321) (L1 := [(0, .int 11), (1, .int a), (2, .int b), (3, .int c), (4, .int d)]) (S1 := [.int b, .int a]) 4 0 (fun n => rfl) ?_
            refine RP_call 58 [.int a, .int b] (fun n => rfl) ?_
            show RP 58 _ 0 [(0, .int a), (1, .int b)] [] _
            refine RP_step (pc1 := 1) (L1 := [(0, .int a), (1, .int b)]) (S1 := [.int a]) 1 0 (fun n => rfl) ?_
            refine RP_call 57 [.int a] (fun n => rfl) ?_
            show RP 57 _ 0 [(0, .int a)] [] _
            refine RP_step (pc1 := 4) (L1 := [(0, .int a)]) (S1 := [.int 15, .int 0, .int a]) 3 0 (fun n => rfl) ?_
            refine RP_call 55 [.int a, .int 0, .int 15] (fun n => rfl) ?_
            show RP 55 _ 0 [(0, .int a), (1, .int 0), (2, .int 15)] [] _
            refine RP_step (pc1 := 2) (L1 := [(0, .int a), (1, .int 0), (2, .int 15)]) (S1 := [.int 0, .int a]) 2 0 (fun n => rfl) ?_
            refine RP_cond (decide (a < 0)) (fun n => rfl) (fun h => absurd (of_decide_eq_true h) (xi_nlt (x := a) (y := 0) (show 0 ≤ a.toInt by omega))) (fun _ => ?_)
            show RP 55 _ 5 [(0, .int a), (1, .int 0), (2, .int 15)] [] _
            refine RP_step (pc1 := 7) (L1 := [(0, .int a), (1, .int 0), (2, .int 15)]) (S1 := [.int 15, .int a]) 2 0 (fun n => rfl) ?_
            refine RP_cond (decide (15 < a)) (fun n => rfl) (fun h => absurd (of_decide_eq_true h) (xi_nlt (x := 15) (y := a) (show a.toInt ≤ 15 by omega))) (fun _ => ?_)
            show RP 55 _ 10 [(0, .int a), (1, .int 0), (2, .int 15)] [] _
            refine RP_done 5 (fun n => rfl) ?_
            refine Or.inr ⟨1, rfl, ?_⟩
            show RP 57 _ 7 [(0, .int a)] [.int 1] _
            refine RP_done 3 (fun n => rfl) ?_
            refine Or.inr ⟨1, rfl, ?_⟩
            show RP 58 _ 4 [(0, .int a), (1, .int b)] [.int 1] _
            refine RP_step (pc1 := 11) (L1 := [(0, .int a), (1, .int b)]) (S1 := [.int 8, .int 1, .int b]) 4 0 (fun n => rfl) ?_
            refine RP_call 55 [.int b, .int 1, .int 8] (fun n => rfl) ?_
            show RP 55 _ 0 [(0, .int b), (1, .int 1), (2, .int 8)] [] _
            refine RP_step (pc1 := 2) (L1 := [(0, .int b), (1, .int 1), (2, .int 8)]) (S1 := [.int 1, .int b]) 2 0 (fun n => rfl) ?_
            refine RP_cond (decide (b < 1)) (fun n => rfl) (fun h => absurd (of_decide_eq_true h) (xi_nlt (x := b) (y := 1) (show 1 ≤ b.toInt by omega))) (fun _ => ?_)
            show RP 55 _ 5 [(0, .int b), (1, .int 1), (2, .int 8)] [] _
            refine RP_step (pc1 := 7) (L1 := [(0, .int b), (1, .int 1), (2, .int 8)]) (S1 := [.int 8, .int b]) 2 0 (fun n => rfl) ?_
            refine RP_cond (decide (8 < b)) (fun n => rfl) (fun _ => ?_) (fun h => absurd (xi_lt (x := 8) (y := b) (show 8 < b.toInt by omega)) (of_decide_eq_false h))
            show RP 55 _ 14 [(0, .int b), (1, .int 1), (2, .int 8)] [] _
            refine RP_done 4 (fun n => rfl) ?_
            refine Or.inr ⟨0, rfl, ?_⟩
            show RP 58 _ 14 [(0, .int a), (1, .int b)] [.int 0] _
            refine RP_done 5 (fun n => rfl) ?_
            refine Or.inr ⟨0, rfl, ?_⟩
            show RP 59 _ 324 [(0, .int 11), (1, .int a), (2, .int b), (3, .int c), (4, .int d)] [.int 0] _
            refine RP_done 5 (fun n => rfl) ?_
            exact ⟨rfl, rfl⟩
          · have h255 := of_decide_eq_false hh
            have h256 : b.toInt ≤ 8 := xj_nlt h255
            show RP 24 _ 18 [(0, .int a), (1, .int b)] [] _
            refine RP_step (pc1 := 20) (L1 := [(0, .int a), (1, .int b)]) (S1 := [.int b, .int a]) 2 0 (fun n => rfl) ?_
            refine RP_bin (fun x y => x + y) (fun n => rfl) ?_
            show RP 24 _ 21 [(0, .int a), (1, .int b)] [.int (a + b)] _
            refine RP_step (pc1 := 23) (L1 := [(0, .int a), (1, .int b)]) (S1 := [.int 16, .int (a + b)]) 1 0 (fun n => rfl) ?_
            refine RP_cond (decide (16 < (a + b))) (fun n => rfl) (fun hh => ?_) (fun hh => ?_)
            · have h257 := of_decide_eq_true hh
              have h258 : 16 < (a + b).toInt := xj_lt h257
              show RP 24 _ 30 [(0, .int a), (1, .int b)] [] _
              refine RP_done 4 (fun n => rfl) ?_
              refine Or.inr ⟨0, rfl, ?_⟩
              show RP 25 _ 325 [(0, .int 11), (1, .int a), (2, .int b), (3, .int c), (4, .int d)] [.int 0] _
              refine RP_done 5 (fun n => rfl) ?_
              refine ⟨Or.inl rfl, rfl, ?_⟩
              show RP 59 _ 0 [(0, .int 11), (1, .int a), (2, .int b), (3, .int c), (4, .int d)] [] _
              refine RP_step (pc1 := 321) (L1 := [(0, .int 11), (1, .int a), (2, .int b), (3, .int c), (4, .int d)]) (S1 := [.int b, .int a]) 4 0 (fun n => rfl) ?_
              refine RP_call 58 [.int a, .int b] (fun n => rfl) ?_
              show RP 58 _ 0 [(0, .int a), (1, .int b)] [] _
              refine RP_step (pc1 := 1) (L1 := [(0, .int a), (1, .int b)]) (S1 := [.int a]) 1 0 (fun n => rfl) ?_
              refine RP_call 57 [.int a] (fun n => rfl) ?_
              show RP 57 _ 0 [(0, .int a)] [] _
              refine RP_step (pc1 := 4) (L1 := [(0, .int a)]) (S1 := [.int 15, .int 0, .int a]) 3 0 (fun n => rfl) ?_
              refine RP_call 55 [.int a, .int 0, .int 15] (fun n => rfl) ?_
              show RP 55 _ 0 [(0, .int a), (1, .int 0), (2, .int 15)] [] _
              refine RP_step (pc1 := 2) (L1 := [(0, .int a), (1, .int 0), (2, .int 15)]) (S1 := [.int 0, .int a]) 2 0 (fun n => rfl) ?_
              refine RP_cond (decide (a < 0)) (fun n => rfl) (fun h => absurd (of_decide_eq_true h) (xi_nlt (x := a) (y := 0) (show 0 ≤ a.toInt by omega))) (fun _ => ?_)
              show RP 55 _ 5 [(0, .int a), (1, .int 0), (2, .int 15)] [] _
              refine RP_step (pc1 := 7) (L1 := [(0, .int a), (1, .int 0), (2, .int 15)]) (S1 := [.int 15, .int a]) 2 0 (fun n => rfl) ?_
              refine RP_cond (decide (15 < a)) (fun n => rfl) (fun h => absurd (of_decide_eq_true h) (xi_nlt (x := 15) (y := a) (show a.toInt ≤ 15 by omega))) (fun _ => ?_)
              show RP 55 _ 10 [(0, .int a), (1, .int 0), (2, .int 15)] [] _
              refine RP_done 5 (fun n => rfl) ?_
              refine Or.inr ⟨1, rfl, ?_⟩
              show RP 57 _ 7 [(0, .int a)] [.int 1] _
              refine RP_done 3 (fun n => rfl) ?_
              refine Or.inr ⟨1, rfl, ?_⟩
              show RP 58 _ 4 [(0, .int a), (1, .int b)] [.int 1] _
              refine RP_step (pc1 := 11) (L1 := [(0, .int a), (1, .int b)]) (S1 := [.int 8, .int 1, .int b]) 4 0 (fun n => rfl) ?_
              refine RP_call 55 [.int b, .int 1, .int 8] (fun n => rfl) ?_
              show RP 55 _ 0 [(0, .int b), (1, .int 1), (2, .int 8)] [] _
              refine RP_step (pc1 := 2) (L1 := [(0, .int b), (1, .int 1), (2, .int 8)]) (S1 := [.int 1, .int b]) 2 0 (fun n => rfl) ?_
              refine RP_cond (decide (b < 1)) (fun n => rfl) (fun h => absurd (of_decide_eq_true h) (xi_nlt (x := b) (y := 1) (show 1 ≤ b.toInt by omega))) (fun _ => ?_)
              show RP 55 _ 5 [(0, .int b), (1, .int 1), (2, .int 8)] [] _
              refine RP_step (pc1 := 7) (L1 := [(0, .int b), (1, .int 1), (2, .int 8)]) (S1 := [.int 8, .int b]) 2 0 (fun n => rfl) ?_
              refine RP_cond (decide (8 < b)) (fun n => rfl) (fun h => absurd (of_decide_eq_true h) (xi_nlt (x := 8) (y := b) (show b.toInt ≤ 8 by omega))) (fun _ => ?_)
              show RP 55 _ 10 [(0, .int b), (1, .int 1), (2, .int 8)] [] _
              refine RP_done 5 (fun n => rfl) ?_
              refine Or.inr ⟨1, rfl, ?_⟩
              show RP 58 _ 14 [(0, .int a), (1, .int b)] [.int 1] _
              refine RP_step (pc1 := 19) (L1 := [(0, .int a), (1, .int b)]) (S1 := [.int b, .int a]) 3 0 (fun n => rfl) ?_
              refine RP_bin (fun x y => x + y) (fun n => rfl) ?_
              show RP 58 _ 20 [(0, .int a), (1, .int b)] [.int (a + b)] _
              refine RP_step (pc1 := 22) (L1 := [(0, .int a), (1, .int b)]) (S1 := [.int 16, .int (a + b)]) 1 0 (fun n => rfl) ?_
              refine RP_cond (decide (16 < (a + b))) (fun n => rfl) (fun _ => ?_) (fun h => absurd (xi_lt (x := 16) (y := (a + b)) (show 16 < (a + b).toInt by omega)) (of_decide_eq_false h))
              show RP 58 _ 29 [(0, .int a), (1, .int b)] [] _
              refine RP_done 4 (fun n => rfl) ?_
              refine Or.inr ⟨0, rfl, ?_⟩
              show RP 59 _ 324 [(0, .int 11), (1, .int a), (2, .int b), (3, .int c), (4, .int d)] [.int 0] _
              refine RP_done 5 (fun n => rfl) ?_
              exact ⟨rfl, rfl⟩
            · have h259 := of_decide_eq_false hh
              have h260 : (a + b).toInt ≤ 16 := xj_nlt h259
              show RP 24 _ 26 [(0, .int a), (1, .int b)] [] _
              refine RP_done 5 (fun n => rfl) ?_
              refine Or.inr ⟨1, rfl, ?_⟩
              show RP 25 _ 325 [(0, .int 11), (1, .int a), (2, .int b), (3, .int c), (4, .int d)] [.int 1] _
              refine RP_step (pc1 := 329) (L1 := [(0, .int 11), (1, .int a), (2, .int b), (3, .int c), (4, .int d)]) (S1 := [.int c]) 2 0 (fun n => rfl) ?_
              refine RP_cond (decide (c ≠ 0)) (fun n => rfl) (fun hh => ?_) (fun hh => ?_)
              · have h261 := of_decide_eq_true hh
                show RP 25 _ 341 [(0, .int 11), (1, .int a), (2, .int b), (3, .int c), (4, .int d)] [] _
                refine RP_done 4 (fun n => rfl) ?_
                refine ⟨Or.inl rfl, rfl, ?_⟩
                show RP 59 _ 0 [(0, .int 11), (1, .int a), (2, .int b), (3, .int c), (4, .int d)] [] _
                refine RP_step (pc1 := 321) (L1 := [(0, .int 11), (1, .int a), (2, .int b), (3, .int c), (4, .int d)]) (S1 := [.int b, .int a]) 4 0 (fun n => rfl) ?_
                refine RP_call 58 [.int a, .int b] (fun n => rfl) ?_
                show RP 58 _ 0 [(0, .int a), (1, .int b)] [] _
                refine RP_step (pc1 := 1) (L1 := [(0, .int a), (1, .int b)]) (S1 := [.int a]) 1 0 (fun n => rfl) ?_
                refine RP_call 57 [.int a] (fun n => rfl) ?_
                show RP 57 _ 0 [(0, .int a)] [] _
                refine RP_step (pc1 := 4) (L1 := [(0, .int a)]) (S1 := [.int 15, .int 0, .int a]) 3 0 (fun n => rfl) ?_
                refine RP_call 55 [.int a, .int 0, .int 15] (fun n => rfl) ?_
                show RP 55 _ 0 [(0, .int a), (1, .int 0), (2, .int 15)] [] _
                refine RP_step (pc1 := 2) (L1 := [(0, .int a), (1, .int 0), (2, .int 15)]) (S1 := [.int 0, .int a]) 2 0 (fun n => rfl) ?_
                refine RP_cond (decide (a < 0)) (fun n => rfl) (fun h => absurd (of_decide_eq_true h) (xi_nlt (x := a) (y := 0) (show 0 ≤ a.toInt by omega))) (fun _ => ?_)
                show RP 55 _ 5 [(0, .int a), (1, .int 0), (2, .int 15)] [] _
                refine RP_step (pc1 := 7) (L1 := [(0, .int a), (1, .int 0), (2, .int 15)]) (S1 := [.int 15, .int a]) 2 0 (fun n => rfl) ?_
                refine RP_cond (decide (15 < a)) (fun n => rfl) (fun h => absurd (of_decide_eq_true h) (xi_nlt (x := 15) (y := a) (show a.toInt ≤ 15 by omega))) (fun _ => ?_)
                show RP 55 _ 10 [(0, .int a), (1, .int 0), (2, .int 15)] [] _
                refine RP_done 5 (fun n => rfl) ?_
                refine Or.inr ⟨1, rfl, ?_⟩
                show RP 57 _ 7 [(0, .int a)] [.int 1] _
                refine RP_done 3 (fun n => rfl) ?_
                refine Or.inr ⟨1, rfl, ?_⟩
                show RP 58 _ 4 [(0, .int a), (1, .int b)] [.int 1] _
                refine RP_step (pc1 := 11) (L1 := [(0, .int a), (1, .int b)]) (S1 := [.int 8, .int 1, .int b]) 4 0 (fun n => rfl) ?_
                refine RP_call 55 [.int b, .int 1, .int 8] (fun n => rfl) ?_
                show RP 55 _ 0 [(0, .int b), (1, .int 1), (2, .int 8)] [] _
                refine RP_step (pc1 := 2) (L1 := [(0, .int b), (1, .int 1), (2, .int 8)]) (S1 := [.int 1, .int b]) 2 0 (fun n => rfl) ?_
                refine RP_cond (decide (b < 1)) (fun n => rfl) (fun h => absurd (of_decide_eq_true h) (xi_nlt (x := b) (y := 1) (show 1 ≤ b.toInt by omega))) (fun _ => ?_)
                show RP 55 _ 5 [(0, .int b), (1, .int 1), (2, .int 8)] [] _
                refine RP_step (pc1 := 7) (L1 := [(0, .int b), (1, .int 1), (2, .int 8)]) (S1 := [.int 8, .int b]) 2 0 (fun n => rfl) ?_
                refine RP_cond (decide (8 < b)) (fun n => rfl) (fun h => absurd (of_decide_eq_true h) (xi_nlt (x := 8) (y := b) (show b.toInt ≤ 8 by omega))) (fun _ => ?_)
                show RP 55 _ 10 [(0, .int b), (1, .int 1), (2, .int 8)] [] _
                refine RP_done 5 (fun n => rfl) ?_
                refine Or.inr ⟨1, rfl, ?_⟩
                show RP 58 _ 14 [(0, .int a), (1, .int b)] [.int 1] _
                refine RP_step (pc1 := 19) (L1 := [(0, .int a), (1, .int b)]) (S1 := [.int b, .int a]) 3 0 (fun n => rfl) ?_
                refine RP_bin (fun x y => x + y) (fun n => rfl) ?_
                show RP 58 _ 20 [(0, .int a), (1, .int b)] [.int (a + b)] _
                refine RP_step (pc1 := 22) (L1 := [(0, .int a), (1, .int b)]) (S1 := [.int 16, .int (a + b)]) 1 0 (fun n => rfl) ?_
                refine RP_cond (decide (16 < (a + b))) (fun n => rfl) (fun h => absurd (of_decide_eq_true h) (xi_nlt (x := 16) (y := (a + b)) (show (a + b).toInt ≤ 16 by omega))) (fun _ => ?_)
                show RP 58 _ 25 [(0, .int a), (1, .int b)] [] _
                refine RP_done 5 (fun n => rfl) ?_
                refine Or.inr ⟨1, rfl, ?_⟩
                show RP 59 _ 324 [(0, .int 11), (1, .int a), (2, .int b), (3, .int c), (4, .int d)] [.int 1] _
                refine RP_step (pc1 := 328) (L1 := [(0, .int 11), (1, .int a), (2, .int b), (3, .int c), (4, .int d)]) (S1 := [.int c]) 2 0 (fun n => rfl) ?_
                refine RP_cond (decide (c ≠ 0)) (fun n => rfl) (fun _ => ?_) (fun h => absurd (by assumption) (of_decide_eq_false h))
                show RP 59 _ 340 [(0, .int 11), (1, .int a), (2, .int b), (3, .int c), (4, .int d)] [] _
                refine RP_done 4 (fun n => rfl) ?_
                exact ⟨rfl, rfl⟩
              · have h262 := of_decide_eq_false hh
                replace h262 := Decidable.of_not_not h262
                clear hh
                subst h262
                show RP 25 _ 332 [(0, .int 11), (1, .int a), (2, .int b), (3, .int 0), (4, .int d)] [] _
                refine RP_step (pc1 := 334) (L1 := [(0, .int 11), (1, .int a), (2, .int b), (3, .int 0), (4, .int d)]) (S1 := [.int d]) 1 0 (fun n => rfl) ?_
                refine RP_cond (decide (d ≠ 0)) (fun n => rfl) (fun hh => ?_) (fun hh => ?_)
                · have h263 := of_decide_eq_true hh
                  show RP 25 _ 341 [(0, .int 11), (1, .int a), (2, .int b), (3, .int 0), (4, .int d)] [] _
                  refine RP_done 4 (fun n => rfl) ?_
                  refine ⟨Or.inl rfl, rfl, ?_⟩
                  show RP 59 _ 0 [(0, .int 11), (1, .int a), (2, .int b), (3, .int 0), (4, .int d)] [] _
                  refine RP_step (pc1 := 321) (L1 := [(0, .int 11), (1, .int a), (2, .int b), (3, .int 0), (4, .int d)]) (S1 := [.int b, .int a]) 4 0 (fun n => rfl) ?_
                  refine RP_call 58 [.int a, .int b] (fun n => rfl) ?_
                  show RP 58 _ 0 [(0, .int a), (1, .int b)] [] _
                  refine RP_step (pc1 := 1) (L1 := [(0, .int a), (1, .int b)]) (S1 := [.int a]) 1 0 (fun n => rfl) ?_
                  refine RP_call 57 [.int a] (fun n => rfl) ?_
                  show RP 57 _ 0 [(0, .int a)] [] _
                  refine RP_step (pc1 := 4) (L1 := [(0, .int a)]) (S1 := [.int 15, .int 0, .int a]) 3 0 (fun n => rfl) ?_
                  refine RP_call 55 [.int a, .int 0, .int 15] (fun n => rfl) ?_
                  show RP 55 _ 0 [(0, .int a), (1, .int 0), (2, .int 15)] [] _
                  refine RP_step (pc1 := 2) (L1 := [(0, .int a), (1, .int 0), (2, .int 15)]) (S1 := [.int 0, .int a]) 2 0 (fun n => rfl) ?_
                  refine RP_cond (decide (a < 0)) (fun n => rfl) (fun h => absurd (of_decide_eq_true h) (xi_nlt (x := a) (y := 0) (show 0 ≤ a.toInt by omega))) (fun _ => ?_)
                  show RP 55 _ 5 [(0, .int a), (1, .int 0), (2, .int 15)] [] _
                  refine RP_step (pc1 := 7) (L1 := [(0, .int a), (1, .int 0), (2, .int 15)]) (S1 := [.int 15, .int a]) 2 0 (fun n => rfl) ?_
                  refine RP_cond (decide (15 < a)) (fun n => rfl) (fun h => absurd (of_decide_eq_true h) (xi_nlt (x := 15) (y := a) (show a.toInt ≤ 15 by omega))) (fun _ => ?_)
                  show RP 55 _ 10 [(0, .int a), (1, .int 0), (2, .int 15)] [] _
                  refine RP_done 5 (fun n => rfl) ?_
                  refine Or.inr ⟨1, rfl, ?_⟩
                  show RP 57 _ 7 [(0, .int a)] [.int 1] _
                  refine RP_done 3 (fun n => rfl) ?_
                  refine Or.inr ⟨1, rfl, ?_⟩
                  show RP 58 _ 4 [(0, .int a), (1, .int b)] [.int 1] _
                  refine RP_step (pc1 := 11) (L1 := [(0, .int a), (1, .int b)]) (S1 := [.int 8, .int 1, .int b]) 4 0 (fun n => rfl) ?_
                  refine RP_call 55 [.int b, .int 1, .int 8] (fun n => rfl) ?_
                  show RP 55 _ 0 [(0, .int b), (1, .int 1), (2, .int 8)] [] _
                  refine RP_step (pc1 := 2) (L1 := [(0, .int b), (1, .int 1), (2, .int 8)]) (S1 := [.int 1, .int b]) 2 0 (fun n => rfl) ?_
                  refine RP_cond (decide (b < 1)) (fun n => rfl) (fun h => absurd (of_decide_eq_true h) (xi_nlt (x := b) (y := 1) (show 1 ≤ b.toInt by omega))) (fun _ => ?_)
                  show RP 55 _ 5 [(0, .int b), (1, .int 1), (2, .int 8)] [] _
                  refine RP_step (pc1 := 7) (L1 := [(0, .int b), (1, .int 1), (2, .int 8)]) (S1 := [.int 8, .int b]) 2 0 (fun n => rfl) ?_
                  refine RP_cond (decide (8 < b)) (fun n => rfl) (fun h => absurd (of_decide_eq_true h) (xi_nlt (x := 8) (y := b) (show b.toInt ≤ 8 by omega))) (fun _ => ?_)
                  show RP 55 _ 10 [(0, .int b), (1, .int 1), (2, .int 8)] [] _
                  refine RP_done 5 (fun n => rfl) ?_
                  refine Or.inr ⟨1, rfl, ?_⟩
                  show RP 58 _ 14 [(0, .int a), (1, .int b)] [.int 1] _
                  refine RP_step (pc1 := 19) (L1 := [(0, .int a), (1, .int b)]) (S1 := [.int b, .int a]) 3 0 (fun n => rfl) ?_
                  refine RP_bin (fun x y => x + y) (fun n => rfl) ?_
                  show RP 58 _ 20 [(0, .int a), (1, .int b)] [.int (a + b)] _
                  refine RP_step (pc1 := 22) (L1 := [(0, .int a), (1, .int b)]) (S1 := [.int 16, .int (a + b)]) 1 0 (fun n => rfl) ?_
                  refine RP_cond (decide (16 < (a + b))) (fun n => rfl) (fun h => absurd (of_decide_eq_true h) (xi_nlt (x := 16) (y := (a + b)) (show (a + b).toInt ≤ 16 by omega))) (fun _ => ?_)
                  show RP 58 _ 25 [(0, .int a), (1, .int b)] [] _
                  refine RP_done 5 (fun n => rfl) ?_
                  refine Or.inr ⟨1, rfl, ?_⟩
                  show RP 59 _ 324 [(0, .int 11), (1, .int a), (2, .int b), (3, .int 0), (4, .int d)] [.int 1] _
                  refine RP_step (pc1 := 333) (L1 := [(0, .int 11), (1, .int a), (2, .int b), (3, .int 0), (4, .int d)]) (S1 := [.int d]) 4 0 (fun n => rfl) ?_
                  refine RP_cond (decide (d ≠ 0)) (fun n => rfl) (fun _ => ?_) (fun h => absurd (by assumption) (of_decide_eq_false h))
                  show RP 59 _ 340 [(0, .int 11), (1, .int a), (2, .int b), (3, .int 0), (4, .int d)] [] _
                  refine RP_done 4 (fun n => rfl) ?_
                  exact ⟨rfl, rfl⟩
                · have h264 := of_decide_eq_false hh
                  replace h264 := Decidable.of_not_not h264
                  clear hh
                  subst h264
                  show RP 25 _ 337 [(0, .int 11), (1, .int a), (2, .int b), (3, .int 0), (4, .int 0)] [] _
                  refine RP_done 5 (fun n => rfl) ?_
                  refine ⟨Or.inr rfl, rfl, ?_⟩
                  show RP 59 _ 0 [(0, .int 11), (1, .int a), (2, .int b), (3, .int 0), (4, .int 0)] [] _
                  refine RP_step (pc1 := 321) (L1 := [(0, .int 11), (1, .int a), (2, .int b), (3, .int 0), (4, .int 0)]) (S1 := [.int b, .int a]) 4 0 (fun n => rfl) ?_
                  refine RP_call 58 [.int a, .int b] (fun n => rfl) ?_
                  show RP 58 _ 0 [(0, .int a), (1, .int b)] [] _
                  refine RP_step (pc1 := 1) (L1 := [(0, .int a), (1, .int b)]) (S1 := [.int a]) 1 0 (fun n => rfl) ?_
                  refine RP_call 57 [.int a] (fun n => rfl) ?_
                  show RP 57 _ 0 [(0, .int a)] [] _
                  refine RP_step (pc1 := 4) (L1 := [(0, .int a)]) (S1 := [.int 15, .int 0, .int a]) 3 0 (fun n => rfl) ?_
                  refine RP_call 55 [.int a, .int 0, .int 15] (fun n => rfl) ?_
                  show RP 55 _ 0 [(0, .int a), (1, .int 0), (2, .int 15)] [] _
                  refine RP_step (pc1 := 2) (L1 := [(0, .int a), (1, .int 0), (2, .int 15)]) (S1 := [.int 0, .int a]) 2 0 (fun n => rfl) ?_
                  refine RP_cond (decide (a < 0)) (fun n => rfl) (fun h => absurd (of_decide_eq_true h) (xi_nlt (x := a) (y := 0) (show 0 ≤ a.toInt by omega))) (fun _ => ?_)
                  show RP 55 _ 5 [(0, .int a), (1, .int 0), (2, .int 15)] [] _
                  refine RP_step (pc1 := 7) (L1 := [(0, .int a), (1, .int 0), (2, .int 15)]) (S1 := [.int 15, .int a]) 2 0 (fun n => rfl) ?_
                  refine RP_cond (decide (15 < a)) (fun n => rfl) (fun h => absurd (of_decide_eq_true h) (xi_nlt (x := 15) (y := a) (show a.toInt ≤ 15 by omega))) (fun _ => ?_)
                  show RP 55 _ 10 [(0, .int a), (1, .int 0), (2, .int 15)] [] _
                  refine RP_done 5 (fun n => rfl) ?_
                  refine Or.inr ⟨1, rfl, ?_⟩
                  show RP 57 _ 7 [(0, .int a)] [.int 1] _
                  refine RP_done 3 (fun n => rfl) ?_
                  refine Or.inr ⟨1, rfl, ?_⟩
                  show RP 58 _ 4 [(0, .int a), (1, .int b)] [.int 1] _
                  refine RP_step (pc1 := 11) (L1 := [(0, .int a), (1, .int b)]) (S1 := [.int 8, .int 1, .int b]) 4 0 (fun n => rfl) ?_
                  refine RP_call 55 [.int b, .int 1, .int 8] (fun n => rfl) ?_
                  show RP 55 _ 0 [(0, .int b), (1, .int 1), (2, .int 8)] [] _
                  refine RP_step (pc1 := 2) (L1 := [(0, .int b), (1, .int 1), (2, .int 8)]) (S1 := [.int 1, .int b]) 2 0 (fun n => rfl) ?_
                  refine RP_cond (decide (b < 1)) (fun n => rfl) (fun h => absurd (of_decide_eq_true h) (xi_nlt (x := b) (y := 1) (show 1 ≤ b.toInt by omega))) (fun _ => ?_)
                  show RP 55 _ 5 [(0, .int b), (1, .int 1), (2, .int 8)] [] _
                  refine RP_step (pc1 := 7) (L1 := [(0, .int b), (1, .int 1), (2, .int 8)]) (S1 := [.int 8, .int b]) 2 0 (fun n => rfl) ?_
                  refine RP_cond (decide (8 < b)) (fun n => rfl) (fun h => absurd (of_decide_eq_true h) (xi_nlt (x := 8) (y := b) (show b.toInt ≤ 8 by omega))) (fun _ => ?_)
                  show RP 55 _ 10 [(0, .int b), (1, .int 1), (2, .int 8)] [] _
                  refine RP_done 5 (fun n => rfl) ?_
                  refine Or.inr ⟨1, rfl, ?_⟩
                  show RP 58 _ 14 [(0, .int a), (1, .int b)] [.int 1] _
                  refine RP_step (pc1 := 19) (L1 := [(0, .int a), (1, .int b)]) (S1 := [.int b, .int a]) 3 0 (fun n => rfl) ?_
                  refine RP_bin (fun x y => x + y) (fun n => rfl) ?_
                  show RP 58 _ 20 [(0, .int a), (1, .int b)] [.int (a + b)] _
                  refine RP_step (pc1 := 22) (L1 := [(0, .int a), (1, .int b)]) (S1 := [.int 16, .int (a + b)]) 1 0 (fun n => rfl) ?_
                  refine RP_cond (decide (16 < (a + b))) (fun n => rfl) (fun h => absurd (of_decide_eq_true h) (xi_nlt (x := 16) (y := (a + b)) (show (a + b).toInt ≤ 16 by omega))) (fun _ => ?_)
                  show RP 58 _ 25 [(0, .int a), (1, .int b)] [] _
                  refine RP_done 5 (fun n => rfl) ?_
                  refine Or.inr ⟨1, rfl, ?_⟩
                  show RP 59 _ 324 [(0, .int 11), (1, .int a), (2, .int b), (3, .int 0), (4, .int 0)] [.int 1] _
                  refine RP_done 10 (fun n => rfl) ?_
                  exact ⟨rfl, rfl⟩
  · skip
    show RP 25 _ 0 [(0, .int op), (1, .int a), (2, .int b), (3, .int c), (4, .int d)] [] _
    refine RP_step (pc1 := 1) (L1 := [(0, .int op), (1, .int a), (2, .int b), (3, .int c), (4, .int d)]) (S1 := [.int op]) 1 0 (fun n => rfl) ?_
    refine RP_swo (dflt := 342) (lo := 0) (hi := 11) (offs := #[63, 96, 123, 152, 152, 178, 212, 241, 270, 296, 319, 319]) (fun n => rfl) ho (t := 343) rfl ?_
    show RP 25 _ 343 [(0, .int op), (1, .int a), (2, .int b), (3, .int c), (4, .int d)] [] _
    refine RP_done 4 (fun n => rfl) ?_
    refine ⟨Or.inl rfl, rfl, ?_⟩
    show RP 59 _ 0 [(0, .int op), (1, .int a), (2, .int b), (3, .int c), (4, .int d)] [] _
    refine RP_step (pc1 := 1) (L1 := [(0, .int op), (1, .int a), (2, .int b), (3, .int c), (4, .int d)]) (S1 := [.int op]) 1 0 (fun n => rfl) ?_
    refine RP_swo (dflt := 341) (lo := 0) (hi := 11) (offs := #[63, 96, 123, 152, 152, 178, 211, 240, 269, 295, 318, 318]) (fun n => rfl) ho (t := 342) rfl ?_
    show RP 59 _ 342 [(0, .int op), (1, .int a), (2, .int b), (3, .int c), (4, .int d)] [] _
    refine RP_done 4 (fun n => rfl) ?_
    exact ⟨rfl, rfl⟩
