/-! THE INVARIANT, and contracts -/
def slotsP (σ : aσ) (IS : List aSl) : Prop := ∀ (i : Nat) (q : aSl), IS[i]? = some q → (q.1 = 3 → ∀ j, q.2.2.2.1 ≤ σ i j ∧ σ i j ≤ q.2.2.2.2) ∧ (q.1 ≠ 3 → q.2.2.2.1 ≤ σ i 0 ∧ σ i 0 ≤ q.2.2.2.2)
def InvV (G : aG) (σ : aσ) : Prop := aBD σ ∧ slotsP σ G.2.2.2.2.1 ∧ ∃ cs, cids G.2.2.2.2.2 G.1 = some cs ∧ toldS σ cs
def frmP (sm : aSm) (σ τ : aσ) (IS : List aSl) : Prop := ∀ (i : Nat) (q : aSl), IS[i]? = some q → aInM sm q = false → (q.1 = 3 → τ i = σ i) ∧ (q.1 ≠ 3 → τ i 0 = σ i 0)
def retP : Option (Int × Int) → Option Value → Prop
  | none, r => r = none
  | some q, r => ∃ v : Int32, r = some (.int v) ∧ q.1 ≤ v.toInt ∧ v.toInt ≤ q.2
/-- a method at a place keeps its contract -/
def Con (G : aG) (k p : Nat) (sm : aSm) : Prop := ∀ (σ : aσ) (xs : List Int32), InvV G σ → rngP sm.1 (xs.map Int32.toInt) → RP k (cH σ G.2.2.2.2.2) 0 (lv_args 0 (.ref p :: xs.map .int)) [] (fun r C' => ∃ τ, InvV G τ ∧ C' = cH τ G.2.2.2.2.2 ∧ frmP sm σ τ G.2.2.2.2.1 ∧ retP sm.2.1 r)
/-- the side is well made -/
def aGok (G : aG) : Prop := repH G.2.2.2.2.1 0 G.2.2.2.2.2 0 = G.2.2.2.2.2 ∧ wHu G.2.2.2.2.1 0 G.2.2.2.2.2 ∧ wH G.2.2.2.2.1.length G.2.2.2.2.2 ∧ pmax G.2.1 G.2.2.2.2.2 ≤ G.2.2.1 ∧ G.2.1.Nodup ∧ ∀ (i : Nat) (z : aSl), G.2.2.2.2.1[i]? = some z → sIdx G.2.2.2.2.1 z.1 z.2.1 z.2.2.1 0 = some i
theorem inv_c {G : aG} {e : aE} {C : aH} {σ : aσ} (hG : aGok G) (h : aInv G e C = true) (hs : sat σ e) : InvV G (aTau σ G.2.2.2.2.1 0 C [] (0, [])) ∧ cH (aTau σ G.2.2.2.2.1 0 C [] (0, [])) G.2.2.2.2.2 = cH σ C ∧ repH G.2.2.2.2.1 0 C 0 = G.2.2.2.2.2 ∧ ∀ q ∈ G.2.2.2.2.1, q.1 ≠ 3 → ∃ f, sform C [] (0, []) q = some f := by
  obtain ⟨nv, V, AR, K, LD, OR, NE, TO, DF, g⟩ := e
  have hB : aBD σ := hs.1
  have hV : aRG σ V := hs.2.1
  have hA : aRA σ AR := hs.2.2.1
  have hK : aKK σ K := hs.2.2.2.1
  have hT : aTOs σ TO := hs.2.2.2.2.2.2.2.1
  unfold aInv at h
  dsimp only at h
  obtain ⟨h1, h2⟩ := cond_tf h
  obtain ⟨h1, h3⟩ := cond_tf h1
  have h1 := hEq_eq h1
  have h2 := lAll_true h2
  have hq : ∀ q ∈ G.2.2.2.2.1, (q.1 = 3 → ∃ i, cid C q.2.1 = some i ∧ ∀ j, q.2.2.2.1 ≤ σ i j ∧ σ i j ≤ q.2.2.2.2) ∧ (q.1 ≠ 3 → ∃ f, sform C [] (0, []) q = some f ∧ q.2.2.2.1 ≤ (Int32.ofInt (cF σ f)).toInt ∧ (Int32.ofInt (cF σ f)).toInt ≤ q.2.2.2.2) := by
    intro q hq
    have h4 := h2 q hq
    refine ⟨fun e3 => ?_, fun e3 => ?_⟩
    · rw [e3] at h4
      have h4 : (match cid C q.2.1 with
        | some i => match vrg AR i with
          | (a, b) => cond (iLe q.2.2.2.1 a) (iLe b q.2.2.2.2) false
        | none => false) = true := h4
      cases hc : cid C q.2.1 with
      | none => rw [hc] at h4; cases h4
      | some i =>
        rw [hc] at h4
        obtain ⟨h5, h6⟩ := cond_tf (show cond (iLe q.2.2.2.1 (vrg AR i).1) (iLe (vrg AR i).2 q.2.2.2.2) false = true from h4)
        refine ⟨i, rfl, fun j => ?_⟩
        have := vra_c hB hA i j
        have := iLe_le h5
        have := iLe_le h6
        omega
    · have hb : Nat.beq q.1 3 = false := by
        cases hb : Nat.beq q.1 3 with
        | true => exact absurd (Nat.eq_of_beq_eq_true hb) e3
        | false => rfl
      rw [hb] at h4
      simp only [cond_false] at h4
      cases hf : sform C [] (0, []) q with
      | none => rw [hf] at h4; cases h4
      | some f =>
        rw [hf] at h4
        refine ⟨f, rfl, ?_⟩
        have h4 : cond (cond (iEq q.2.2.2.1 aMN) (iEq q.2.2.2.2 aMX) false) true (cond (cond (iLe aMN q.2.2.2.1) (iLe q.2.2.2.2 aMX) false) (prB V K f q.2.2.2.1 q.2.2.2.2) false) = true := h4
        rcases cond_tt h4 with h5 | h5
        · obtain ⟨h5, h6⟩ := cond_tf h5
          rw [iEq_eq h5, iEq_eq h6]
          exact oi_le _
        · obtain ⟨h6, h5⟩ := cond_tf h5
          obtain ⟨h6, h7⟩ := cond_tf h6
          have h5 := prB_c hB hV hK h5
          have := iLe_le h6
          have := iLe_le h7
          rw [oi_toInt (by omega) (by omega)]
          exact h5
  have hz : cF σ ((0, []) : aF) = 0 := lcst_c σ 0
  have hv : ∀ q ∈ G.2.2.2.2.1, q.1 = 1 → ∃ f, sform C [] (0, []) q = some f := fun q h q1 => by
    obtain ⟨f, a, _⟩ := (hq q h).2 (by omega)
    exact ⟨f, a⟩
  have hcH : cH (aTau σ G.2.2.2.2.1 0 C [] (0, [])) (repH G.2.2.2.2.1 0 C 0) = cH σ C := rep_cH (C0 := G.2.2.2.2.2) (h1.trans hG.1.symm) hG.2.1 hv
  refine ⟨⟨aTau_bd hB (fun _ _ _ => by rw [hz]; exact ⟨by decide, by decide⟩), fun i q hi => ?_, ?_⟩, by rw [h1] at hcH; exact hcH, h1, fun q h q1 => by
    obtain ⟨f, a, _⟩ := (hq q h).2 q1
    exact ⟨f, a⟩⟩
  · have hm := List.mem_of_getElem? hi
    have hat := aTau_at (σ := σ) (n0 := 0) (C := C) (L := []) (g := (0, [])) hi
    rw [Nat.zero_add] at hat
    rw [hat]
    refine ⟨fun e3 j => ?_, fun e3 => ?_⟩
    · obtain ⟨r, a1, a2⟩ := (hq q hm).1 e3
      unfold sval
      rw [if_pos e3, a1]
      exact a2 j
    · obtain ⟨f, a1, a2⟩ := (hq q hm).2 e3
      unfold sval
      rw [if_neg e3]
      by_cases e2 : q.1 = 2
      · rw [if_pos e2]
        have : sform C [] (0, []) q = some (0, []) := by unfold sform; rw [e2]; rfl
        rw [this] at a1
        cases a1
        rw [hz] at a2 ⊢
        exact a2
      · rw [if_neg e2, a1]
        exact a2
  · unfold tfit at h3
    simp only [cond_true] at h3
    cases hcs : cids C G.1 with
    | none => rw [hcs] at h3; cases h3
    | some cs =>
      rw [hcs] at h3
      have hd : ∃ ds, cids (repH G.2.2.2.2.1 0 C 0) G.1 = some ds := by
        have : ∀ (ps cs : List Nat), cids C ps = some cs → ∃ ds, cids (repH G.2.2.2.2.1 0 C 0) ps = some ds := by
          intro ps
          induction ps with
          | nil => exact fun _ _ => ⟨[], rfl⟩
          | cons p t ih =>
            intro cs hc
            have hc : (match cid C p with
              | some i => match cids C t with
                | some t => some (i :: t)
                | none => none
              | none => none) = some cs := hc
            cases c1 : cid C p with
            | none => rw [c1] at hc; cases hc
            | some r =>
              rw [c1] at hc
              cases c2 : cids C t with
              | none => rw [c2] at hc; cases hc
              | some u =>
                obtain ⟨ds, hds⟩ := ih u c2
                unfold cid at c1
                rw [xe_nth_eq] at c1
                cases hC : C[p]? with
                | none => rw [hC] at c1; cases c1
                | some c =>
                  rw [hC] at c1
                  rcases c with ⟨t0, m0, r0⟩ | b
                  · refine ⟨(match sIdx G.2.2.2.2.1 3 p 0 0 with
                      | some v => v
                      | none => r0) :: ds, ?_⟩
                    show (match cid (repH G.2.2.2.2.1 0 C 0) p with
                      | some i => match cids (repH G.2.2.2.2.1 0 C 0) t with
                        | some t => some (i :: t)
                        | none => none
                      | none => none) = _
                    have : cid (repH G.2.2.2.2.1 0 C 0) p = some (match sIdx G.2.2.2.2.1 3 p 0 0 with
                      | some v => v
                      | none => r0) := by
                      unfold cid
                      rw [xe_nth_eq, repH_get, hC, Nat.zero_add]
                      rfl
                    rw [this, hds]
                  · cases c1
        exact this G.1 cs hcs
      obtain ⟨ds, hds⟩ := hd
      refine ⟨ds, by rw [← h1]; exact hds, toldS_map (cids_rep (C0 := G.2.2.2.2.2) (h1.trans hG.1.symm) hG.2.1 hcs hds) (hT cs (tol_mem h3))⟩
theorem aFrm_c {sm : aSm} {C : aH} {l : List aSl} {n : Nat} (h : aFrm sm C l n = true) : ∀ (i : Nat) (q : aSl), l[i]? = some q → aInM sm q = false → (q.1 = 3 → cid C q.2.1 = some (n + i)) ∧ (q.1 ≠ 3 → sform C [] (0, []) q = some (0, [(n + i, 1)])) := by
  induction l generalizing n with
  | nil => intro i q hi; cases hi
  | cons z t ih =>
    have h : cond (aInM sm z) (aFrm sm C t (n + 1)) (cond (cond (Nat.beq z.1 3) (match cid C z.2.1 with
      | some i => Nat.beq i n
      | none => false) (match sform C [] (0, []) z with
      | some f => lEq f (0, [(n, 1)])
      | none => false)) (aFrm sm C t (n + 1)) false) = true := h
    intro i q hi hm
    cases i with
    | succ i =>
      have h2 : aFrm sm C t (n + 1) = true := by
        cases hz : aInM sm z with
        | true => rw [hz] at h; exact h
        | false => rw [hz] at h; exact (cond_tf h).2
      have := ih h2 i q hi hm
      rw [show n + 1 + i = n + (i + 1) by omega] at this
      exact this
    | zero =>
      cases hi
      rw [hm] at h
      have h1 := (cond_tf h).1
      refine ⟨fun e3 => ?_, fun e3 => ?_⟩
      · rw [e3] at h1
        have h1 : (match cid C z.2.1 with
          | some i => Nat.beq i n
          | none => false) = true := h1
        cases hc : cid C z.2.1 with
        | none => rw [hc] at h1; cases h1
        | some i =>
          rw [hc] at h1
          rw [Nat.eq_of_beq_eq_true h1]
          rfl
      · have hb : Nat.beq z.1 3 = false := by
          cases hb : Nat.beq z.1 3 with
          | true => exact absurd (Nat.eq_of_beq_eq_true hb) e3
          | false => rfl
        rw [hb] at h1
        simp only [cond_false] at h1
        cases hf : sform C [] (0, []) z with
        | none => rw [hf] at h1; cases h1
        | some f =>
          rw [hf] at h1
          rw [lEq_eq h1]
          rfl
/-- a run of the interpreter gives the contract -/
theorem con_of {HN : List (List (Nat × aHn))} {G : aG} {sm : aSm} {k p n : Nat} (hG : aGok G) (hSM : SumOK G) (hr : ∀ q ∈ sm.2.1, aMN ≤ q.1 ∧ q.2 ≤ aMX) (h : aRun HN G none sm k p n = true) : Con G k p sm := by
  intro σ xs hI hx
  obtain ⟨i1, i2, cs, i3, i4⟩ := hI
  unfold aRun at h
  rw [i3] at h
  dsimp only at h
  simp only [fR_eq, fH_eq, fL_eq, xe_fn_eq] at h
  -- names for the arguments
  obtain ⟨σ0, hσ0⟩ : ∃ σ0 : aσ, σ0 = fun i => if i < G.2.2.2.2.1.length then σ i else match xs[i - G.2.2.2.2.1.length]? with
    | some x => fun _ => x.toInt
    | none => fun _ => 0 := ⟨_, rfl⟩
  have hag : aAg G.2.2.2.2.1.length σ σ0 := fun i hi => by rw [hσ0]; dsimp only; rw [if_pos hi]
  have hat : ∀ (m : Nat) (x : Int32), xs[m]? = some x → σ0 (G.2.2.2.2.1.length + m) = fun _ => x.toInt := fun m x hm => by
    rw [hσ0]
    dsimp only
    rw [if_neg (by omega), show G.2.2.2.2.1.length + m - G.2.2.2.2.1.length = m by omega, hm]
  have hB0 : aBD σ0 := by
    intro v j
    rw [hσ0]
    dsimp only
    by_cases hv : v < G.2.2.2.2.1.length
    · rw [if_pos hv]; exact i1 v j
    · rw [if_neg hv]
      cases xs[v - G.2.2.2.2.1.length]? with
      | none => exact (show aMN ≤ (0 : Int) ∧ (0 : Int) ≤ aMX from ⟨by decide, by decide⟩)
      | some x => exact oi_le x
  have hlen : ∀ (rs : List (Int × Int)) (ys : List Int), rngP rs ys → rs.length = ys.length := by
    intro rs
    induction rs with
    | nil => intro ys h; cases ys with
      | nil => rfl
      | cons y t => cases h
    | cons r t ih => intro ys h; cases ys with
      | nil => cases h
      | cons y u => exact congrArg (· + 1) (ih u h.2)
  have hl0 : sm.1.length = xs.length := by rw [hlen _ _ hx, List.length_map]
  have hpr : ∀ (rs : List (Int × Int)) (n : Nat) (W : List (Nat × Int × Int)) (q : Nat × Int × Int), q ∈ aPr rs n W → q ∈ W ∨ ∃ (m : Nat) (r : Int × Int), rs[m]? = some r ∧ q = (n + m, r.1, r.2) := by
    intro rs
    induction rs with
    | nil => exact fun n W q hq => Or.inl hq
    | cons r t ih =>
      intro n W q hq
      rcases List.mem_cons.mp (show q ∈ (n, r.1, r.2) :: aPr t (n + 1) W from hq) with e | e
      · exact Or.inr ⟨0, r, rfl, e⟩
      · rcases ih (n + 1) W q e with e | ⟨m, r', e1, e2⟩
        · exact Or.inl e
        · exact Or.inr ⟨m + 1, r', e1, by rw [e2, show n + 1 + m = n + (m + 1) by omega]⟩
  have hrp : ∀ (rs : List (Int × Int)) (ys : List Int) (m : Nat) (r : Int × Int), rngP rs ys → rs[m]? = some r → ∃ y, ys[m]? = some y ∧ r.1 ≤ y ∧ y ≤ r.2 := by
    intro rs
    induction rs with
    | nil => intro ys m r _ hr; cases hr
    | cons r t ih =>
      intro ys m r' h hr
      cases ys with
      | nil => cases h
      | cons y u =>
        cases m with
        | zero => cases hr; exact ⟨y, rfl, h.1.1, h.1.2⟩
        | succ m => exact ih u m r' h.2 hr
  have hcw := cids_w hG.2.2.1 i3
  have hle : G.2.2.2.2.1.length ≤ G.2.2.2.2.1.length + sm.1.length := Nat.le_add_right _ _
  have hps : ∀ (rs : List (Int × Int)) (n : Nat) (ys : List Int32), rs.length = ys.length → (∀ m x, ys[m]? = some x → σ0 (n + m) = fun _ => x.toInt) → (aPs rs n).map (cV σ0) = ys.map .int := by
    intro rs
    induction rs with
    | nil => intro n ys hl _; cases ys with
      | nil => rfl
      | cons y t => cases hl
    | cons r t ih =>
      intro n ys hl hy
      cases ys with
      | nil => cases hl
      | cons y u =>
        show cV σ0 (.inl (0, [(n, 1)])) :: (aPs t (n + 1)).map (cV σ0) = .int y :: u.map .int
        rw [ih (n + 1) u (by simpa using hl) (fun m x hm => by rw [show n + 1 + m = n + (m + 1) by omega]; exact hy (m + 1) x hm)]
        congr 1
        show Value.int (Int32.ofInt (cF σ0 (0, [(n, 1)]))) = Value.int y
        rw [lvar_c]
        have := hy 0 y rfl
        rw [Nat.add_zero] at this
        rw [this, oi_of]
  have hpw : ∀ (rs : List (Int × Int)) (n m : Nat), n + rs.length ≤ m → wS m (aPs rs n) := by
    intro rs
    induction rs with
    | nil => exact fun n m _ v hv => absurd hv List.not_mem_nil
    | cons r t ih =>
      intro n m hnm
      have hnm : n + (t.length + 1) ≤ m := hnm
      exact cons_w (v := .inl (0, [(n, 1)])) (lvar_w (by omega)) (ih (n + 1) m (by omega))
  have hw : wfs ((G.2.2.2.2.1.length + sm.1.length, aPr sm.1 G.2.2.2.2.1.length (nmV G.2.2.2.2.1 0 []), nmA G.2.2.2.2.1 0 [], [], [], [], [], [cs], [], (G.2.2.1, [])), k, G.2.2.2.2.2, 0, aArgs (.inr p :: aPs sm.1 G.2.2.2.2.1.length) 0, [], []) := by
    refine ⟨⟨fun q hq => ?_, fun q hq => ?_, fun f hf => absurd hf List.not_mem_nil, fun f hf => absurd hf List.not_mem_nil, fun f hf => absurd hf List.not_mem_nil, fun f hf => absurd hf List.not_mem_nil, fun l hl => ?_, fun f hf => absurd hf List.not_mem_nil, lcst_w⟩, wH_le hle hG.2.2.1, aArgs_w (cons_w (v := .inr p) trivial (hpw _ _ _ (Nat.le_refl _))) 0, fun v hv => absurd hv List.not_mem_nil, fun v hv => absurd hv List.not_mem_nil⟩
    · rcases hpr _ _ _ q hq with e | ⟨m, r, e1, e2⟩
      · rcases nmV_mem e with e | ⟨m, z, e1, _, e3⟩
        · exact absurd e List.not_mem_nil
        · rw [e3]
          have := (List.getElem?_eq_some_iff.mp e1).1
          show 0 + m < G.2.2.2.2.1.length + sm.1.length
          omega
      · rw [e2]
        have := (List.getElem?_eq_some_iff.mp e1).1
        show G.2.2.2.2.1.length + m < G.2.2.2.2.1.length + sm.1.length
        omega
    · rcases nmA_mem hq with e | ⟨m, z, e1, _, e3⟩
      · exact absurd e List.not_mem_nil
      · rw [e3]
        have := (List.getElem?_eq_some_iff.mp e1).1
        show 0 + m < G.2.2.2.2.1.length + sm.1.length
        omega
    · rcases List.mem_cons.mp hl with e | e
      · rw [e]; exact fun c hc => Nat.lt_of_lt_of_le (hcw c hc) hle
      · exact absurd e List.not_mem_nil
  have hs : satS G σ0 ((G.2.2.2.2.1.length + sm.1.length, aPr sm.1 G.2.2.2.2.1.length (nmV G.2.2.2.2.1 0 []), nmA G.2.2.2.2.1 0 [], [], [], [], [], [cs], [], (G.2.2.1, [])), k, G.2.2.2.2.2, 0, aArgs (.inr p :: aPs sm.1 G.2.2.2.2.1.length) 0, [], []) := by
    refine ⟨⟨hB0, fun q hq => ?_, fun q hq j => ?_, fun f hf => absurd hf List.not_mem_nil, fun f hf => absurd hf List.not_mem_nil, fun f hf => absurd hf List.not_mem_nil, fun f hf => absurd hf List.not_mem_nil, fun l hl => ?_, fun f hf => absurd hf List.not_mem_nil⟩, ?_, hG.2.2.2.1, hG.2.2.2.2.1⟩
    · rcases hpr _ _ _ q hq with e | ⟨m, r, e1, e2⟩
      · rcases nmV_mem e with e | ⟨m, z, e1, e2, e3⟩
        · exact absurd e List.not_mem_nil
        · rw [e3]
          have := (List.getElem?_eq_some_iff.mp e1).1
          show z.2.2.2.1 ≤ σ0 (0 + m) 0 ∧ σ0 (0 + m) 0 ≤ z.2.2.2.2
          rw [Nat.zero_add, ← hag m this]
          exact (i2 m z e1).2 e2
      · rw [e2]
        obtain ⟨y, y1, y2⟩ := hrp _ _ m r hx e1
        rw [List.getElem?_map] at y1
        cases hxm : xs[m]? with
        | none => rw [hxm] at y1; cases y1
        | some x =>
          rw [hxm] at y1
          cases y1
          show r.1 ≤ σ0 (G.2.2.2.2.1.length + m) 0 ∧ σ0 (G.2.2.2.2.1.length + m) 0 ≤ r.2
          rw [hat m x hxm]
          exact y2
    · rcases nmA_mem hq with e | ⟨m, z, e1, e2, e3⟩
      · exact absurd e List.not_mem_nil
      · rw [e3]
        have := (List.getElem?_eq_some_iff.mp e1).1
        show z.2.2.2.1 ≤ σ0 (0 + m) j ∧ σ0 (0 + m) j ≤ z.2.2.2.2
        rw [Nat.zero_add, ← hag m this]
        exact (i2 m z e1).1 e2 j
    · rcases List.mem_cons.mp hl with e | e
      · rw [e]; exact toldS_ag hag hcw i4
      · exact absurd e List.not_mem_nil
    · show phi G.2.1 (cH σ0 G.2.2.2.2.2) ≤ cF σ0 (G.2.2.1, [])
      rw [lcst_c]
      exact Int.le_trans (phi_max _ _ _) hG.2.2.2.1
  have hF : FinOK (aFin G sm) (fun r C' => ∃ τ, InvV G τ ∧ C' = cH τ G.2.2.2.2.2 ∧ frmP sm σ τ G.2.2.2.2.1 ∧ retP sm.2.1 r) G.2.2.2.2.1.length σ := by
    intro e C r τ hf t1 t2 t3 t4 t5 t6
    unfold aFin at hf
    obtain ⟨f1, f2⟩ := cond_tf hf
    obtain ⟨f2, f3⟩ := cond_tf f2
    obtain ⟨v1, v2, v3, v4⟩ := inv_c hG f1 t1
    refine ⟨_, v1, v2.symm, fun i q hi hm => ?_, ?_⟩
    · obtain ⟨a1, a2⟩ := aFrm_c f2 i q hi hm
      rw [Nat.zero_add] at a1 a2
      have hat := aTau_at (σ := τ) (n0 := 0) (C := C) (L := []) (g := (0, [])) hi
      rw [Nat.zero_add] at hat
      have hilt := (List.getElem?_eq_some_iff.mp hi).1
      rw [hat]
      refine ⟨fun e3 => ?_, fun e3 => ?_⟩
      · unfold sval
        rw [if_pos e3, a1 e3]
        exact (t6 i hilt).symm
      · unfold sval
        rw [if_neg e3]
        by_cases e2 : q.1 = 2
        · have h0 : sform C [] (0, []) q = some (0, []) := by unfold sform; rw [e2]; rfl
          rw [a2 e3] at h0
          cases h0
        · rw [if_neg e2, a2 e3]
          show (Int32.ofInt (cF τ (0, [(i, 1)]))).toInt = σ i 0
          rw [lvar_c, oi_toInt (t1.1 i 0).1 (t1.1 i 0).2, t6 i hilt]
    · cases hsr : sm.2.1 with
      | none =>
        rw [hsr] at f3
        cases r with
        | none => rfl
        | some f => cases f3
      | some q =>
        rw [hsr] at f3
        obtain ⟨a, b⟩ := q
        cases r with
        | none => cases f3
        | some f =>
          have f3 : cond (cond (iEq a aMN) (iEq b aMX) false) true (prB e.2.1 e.2.2.2.1 f a b) = true := f3
          refine ⟨Int32.ofInt (cF τ f), rfl, ?_⟩
          rcases cond_tt f3 with f3 | f3
          · obtain ⟨g1, g2⟩ := cond_tf f3
            rw [iEq_eq g1, iEq_eq g2]
            exact oi_le _
          · have g := prB_c t1.1 t1.2.1 t1.2.2.2.1 f3
            have hq := hr (a, b) (by rw [hsr]; rfl)
            have hq1 : aMN ≤ a := hq.1
            have hq2 : b ≤ aMX := hq.2
            rw [oi_toInt (by omega) (by omega)]
            exact g
  have hgo := ai_ok (HN := HN) (MAC := fun _ _ => none) hSM hF (fun _ _ _ _ hm => by cases hm) n [] _ σ0 h hw hs hle hag (fun q hq => absurd hq List.not_mem_nil)
  have hgo : RP k (cH σ0 G.2.2.2.2.2) 0 (cL σ0 (aArgs (.inr p :: aPs sm.1 G.2.2.2.2.1.length) 0)) [] (fun r C' => ∃ τ, InvV G τ ∧ C' = cH τ G.2.2.2.2.2 ∧ frmP sm σ τ G.2.2.2.2.1 ∧ retP sm.2.1 r) := hgo
  rw [← cH_ag hag hG.2.2.1, ← aArgs_c] at hgo
  have e1 : (Sum.inr p :: aPs sm.1 G.2.2.2.2.1.length : List aV).map (cV σ0) = .ref p :: xs.map .int := by
    show Value.ref p :: (aPs sm.1 G.2.2.2.2.1.length).map (cV σ0) = _
    rw [hps _ _ xs hl0 hat]
  rw [e1] at hgo
  exact hgo
