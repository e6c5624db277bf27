/-! RUNS: what a run of the executor comes to, goal first -/
def RP (k : Nat) (C : xC) (pc : Nat) (L : xL) (S : List Value) (Φ : Option Value → xC → Prop) : Prop := ∃ (m : Nat) (r : Option Value) (C' : xC), (∀ n : Nat, xe xMT xmac (n + m) k C pc L S = some (r, C')) ∧ Φ r C'
theorem RP_step {k : Nat} {C : xC} {pc : Nat} {L : xL} {S : List Value} {Φ : Option Value → xC → Prop} {C1 : xC} {pc1 : Nat} {L1 : xL} {S1 : List Value} (a b : Nat) (h : ∀ n : Nat, xe xMT xmac (n + a) k C pc L S = xe xMT xmac (n + b) k C1 pc1 L1 S1) (g : RP k C1 pc1 L1 S1 Φ) : RP k C pc L S Φ := by
  obtain ⟨m, r, C', h1, h2⟩ := g
  refine ⟨m + a, r, C', fun n => ?_, h2⟩
  rw [show n + (m + a) = (n + m) + a by omega, h, show n + m + b = n + b + m by omega]
  exact h1 _
theorem RP_done {k : Nat} {C : xC} {pc : Nat} {L : xL} {S : List Value} {Φ : Option Value → xC → Prop} {r : Option Value} {C' : xC} (a : Nat) (h : ∀ n : Nat, xe xMT xmac (n + a) k C pc L S = some (r, C')) (g : Φ r C') : RP k C pc L S Φ := ⟨a, r, C', h, g⟩
theorem RP_cond {k : Nat} {C : xC} {pc : Nat} {L : xL} {S : List Value} {Φ : Option Value → xC → Prop} {pc1 pc2 : Nat} {S1 S2 : List Value} (b : Bool) (h : ∀ n : Nat, xe xMT xmac (n + 1) k C pc L S = cond b (xe xMT xmac n k C pc1 L S1) (xe xMT xmac n k C pc2 L S2)) (g1 : b = true → RP k C pc1 L S1 Φ) (g2 : b = false → RP k C pc2 L S2 Φ) : RP k C pc L S Φ := by
  cases b with
  | true => exact RP_step 1 0 h (g1 rfl)
  | false => exact RP_step 1 0 h (g2 rfl)
theorem RP_call {k : Nat} {C : xC} {pc : Nat} {L : xL} {S : List Value} {Φ : Option Value → xC → Prop} {rest : List Value} (k' : Nat) (vs : List Value) (h : ∀ n : Nat, xe xMT xmac (n + 1) k C pc L S = match xe xMT xmac n k' C 0 (lv_args 0 vs) [] with
    | some (none, C1) => xe xMT xmac n k C1 (pc + 3) L rest
    | some (some (.int v), C1) => xe xMT xmac n k C1 (pc + 3) L (.int v :: rest)
    | _ => none) (g : RP k' C 0 (lv_args 0 vs) [] (fun r C1 => (r = none ∧ RP k C1 (pc + 3) L rest Φ) ∨ ∃ v : Int32, r = some (.int v) ∧ RP k C1 (pc + 3) L (.int v :: rest) Φ)) : RP k C pc L S Φ := by
  obtain ⟨m, r, C1, h1, h2⟩ := g
  rcases h2 with ⟨e, m2, r2, C2, h3, h4⟩ | ⟨v, e, m2, r2, C2, h3, h4⟩
  · subst e
    refine ⟨m + m2 + 1, r2, C2, fun n => ?_, h4⟩
    rw [show n + (m + m2 + 1) = (n + m2 + m) + 1 by omega, h, h1]
    show xe xMT xmac (n + m2 + m) k C1 (pc + 3) L rest = some (r2, C2)
    rw [show n + m2 + m = n + m + m2 by omega]
    exact h3 _
  · subst e
    refine ⟨m + m2 + 1, r2, C2, fun n => ?_, h4⟩
    rw [show n + (m + m2 + 1) = (n + m2 + m) + 1 by omega, h, h1]
    show xe xMT xmac (n + m2 + m) k C1 (pc + 3) L (.int v :: rest) = some (r2, C2)
    rw [show n + m2 + m = n + m + m2 by omega]
    exact h3 _
theorem RP_bin {k : Nat} {C : xC} {pc : Nat} {L : xL} {T : List Value} {x y : Int32} {Φ : Option Value → xC → Prop} (f : Int32 → Int32 → Int32) (h : ∀ n : Nat, xe xMT xmac (n + 1) k C pc L (.int y :: .int x :: T) = xe_bin f (.int y :: .int x :: T) (xe xMT xmac n k C (pc + 1) L)) (g : RP k C (pc + 1) L (.int (f x y) :: T) Φ) : RP k C pc L (.int y :: .int x :: T) Φ :=
  RP_step 1 0 (fun n => (h n).trans (xe_push_eq _ _ _)) g
theorem RP_ast {k : Nat} {C : xC} {pc : Nat} {L : xL} {T : List Value} {x i : Int32} {a N : Nat} {f : Nat → Int32} {Φ : Option Value → xC → Prop} (h : ∀ n : Nat, xe xMT xmac (n + 1) k C pc L (.int x :: .int i :: .ref a :: T) = xe_ast 0 (fun x => x) C (.int x :: .int i :: .ref a :: T) (fun C' T => xe xMT xmac n k C' (pc + 1) L T)) (hC : C[a]? = some (.inl (0, N, .inl f))) (hi : decide (¬ (i < 0 ∨ N ≤ i.toNatClampNeg)) = true) (g : RP k (C.set a (.inl (0, N, .inl (upd f i.toNatClampNeg x)))) (pc + 1) L T Φ) : RP k C pc L (.int x :: .int i :: .ref a :: T) Φ := by
  refine RP_step 1 0 (fun n => (h n).trans ?_) g
  unfold xe_ast
  simp only [xe_nth_eq, hC]
  rw [hi]
  simp only [xe_fn_eq, xe_f_eq, xe_set_eq]
  rfl
theorem RP_mono {k : Nat} {C : xC} {pc : Nat} {L : xL} {S : List Value} {Φ Ψ : Option Value → xC → Prop} (h : RP k C pc L S Φ) (g : ∀ r C', Φ r C' → Ψ r C') : RP k C pc L S Ψ := by
  obtain ⟨m, r, C', h1, h2⟩ := h
  exact ⟨m, r, C', h1, g r C' h2⟩
