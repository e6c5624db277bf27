/-! SLOTS GET NAMES: a state and the same state with names in some slots -/
theorem sIdx_c {sl : List aSl} {a b c n i : Nat} (h : sIdx sl a b c n = some i) : ∃ (m : Nat) (q : aSl), i = n + m ∧ sl[m]? = some q ∧ q.1 = a ∧ q.2.1 = b ∧ q.2.2.1 = c := by
  induction sl generalizing n with
  | nil => cases h
  | cons q t ih =>
    have h : cond (cond (Nat.beq q.1 a) (cond (Nat.beq q.2.1 b) (Nat.beq q.2.2.1 c) false) false) (some n) (sIdx t a b c (n + 1)) = some i := h
    cases hq : (cond (Nat.beq q.1 a) (cond (Nat.beq q.2.1 b) (Nat.beq q.2.2.1 c) false) false) with
    | true =>
      rw [hq] at h
      cases h
      obtain ⟨h1, h2⟩ := cond_tf hq
      obtain ⟨h2, h3⟩ := cond_tf h2
      exact ⟨0, q, rfl, rfl, Nat.eq_of_beq_eq_true h1, Nat.eq_of_beq_eq_true h2, Nat.eq_of_beq_eq_true h3⟩
    | false =>
      rw [hq] at h
      obtain ⟨m, r, e1, e2, e3⟩ := ih h
      exact ⟨m + 1, r, by omega, e2, e3⟩
theorem repV_get (sl : List aSl) (n p : Nat) (fs : List aV) (j0 j : Nat) : (repV sl n p fs j0)[j]? = fs[j]?.map (fun v => match sIdx sl 1 p (j0 + j) n with
    | some i => .inl (0, [(i, 1)])
    | none => v) := by
  induction fs generalizing j0 j with
  | nil => rfl
  | cons v t ih =>
    cases j with
    | zero => rfl
    | succ j =>
      show (repV sl n p t (j0 + 1))[j]? = t[j]?.map _
      rw [ih (j0 + 1) j, show j0 + 1 + j = j0 + (j + 1) by omega]
theorem repH_get (sl : List aSl) (n : Nat) (C : aH) (p0 p : Nat) : (repH sl n C p0)[p]? = C[p]?.map (repK sl n (p0 + p)) := by
  induction C generalizing p0 p with
  | nil => rfl
  | cons c t ih =>
    cases p with
    | zero => rfl
    | succ p =>
      show (repH sl n t (p0 + 1))[p]? = t[p]?.map _
      rw [ih (p0 + 1) p, show p0 + 1 + p = p0 + (p + 1) by omega]
theorem as_repL (sl : List aSl) (n : Nat) (L : aL) (j : Nat) : xe_as (repL sl n L) j = (xe_as L j).map (fun v => match sIdx sl 0 j 0 n with
    | some i => .inl (0, [(i, 1)])
    | none => v) := by
  induction L with
  | nil => rfl
  | cons q t ih =>
    show cond (Nat.beq q.1 j) (some (match sIdx sl 0 q.1 0 n with
      | some i => (.inl (0, [(i, 1)]) : aV)
      | none => q.2)) (xe_as (repL sl n t) j) = (cond (Nat.beq q.1 j) (some q.2) (xe_as t j)).map _
    cases hb : Nat.beq q.1 j with
    | true =>
      rw [Nat.eq_of_beq_eq_true hb]
      rfl
    | false => exact ih
/-- the number or the row in a slot -/
noncomputable def sval (σ : aσ) (C : aH) (L : aL) (g : aF) (q : aSl) : Nat → Int := if q.1 = 3 then (match cid C q.2.1 with
    | some r => σ r
    | none => fun _ => 0) else if q.1 = 2 then (fun _ => cF σ g) else match sform C L g q with
    | some f => fun _ => (Int32.ofInt (cF σ f)).toInt
    | none => fun _ => 0
noncomputable def aTau (σ : aσ) (sl : List aSl) (n0 : Nat) (C : aH) (L : aL) (g : aF) : aσ := fun i => if i < n0 then σ i else match sl[i - n0]? with
  | some q => sval σ C L g q
  | none => fun _ => 0
theorem aTau_ag (σ : aσ) (sl : List aSl) (n0 : Nat) (C : aH) (L : aL) (g : aF) : aAg n0 σ (aTau σ sl n0 C L g) := fun i hi => by
  unfold aTau
  rw [if_pos hi]
theorem aTau_at {σ : aσ} {sl : List aSl} {n0 : Nat} {C : aH} {L : aL} {g : aF} {m : Nat} {q : aSl} (h : sl[m]? = some q) : aTau σ sl n0 C L g (n0 + m) = sval σ C L g q := by
  unfold aTau
  rw [if_neg (by omega), show n0 + m - n0 = m by omega, h]
theorem aTau_bd {σ : aσ} {sl : List aSl} {n0 : Nat} {C : aH} {L : aL} {g : aF} (hB : aBD σ) (hg : ∀ q ∈ sl, q.1 = 2 → aMN ≤ cF σ g ∧ cF σ g ≤ aMX) : aBD (aTau σ sl n0 C L g) := by
  intro v j
  have z : aMN ≤ (0 : Int) ∧ (0 : Int) ≤ aMX := ⟨by decide, by decide⟩
  unfold aTau
  by_cases hv : v < n0
  · rw [if_pos hv]
    exact hB v j
  · rw [if_neg hv]
    cases hq : sl[v - n0]? with
    | none => exact z
    | some q =>
      show aMN ≤ sval σ C L g q j ∧ sval σ C L g q j ≤ aMX
      unfold sval
      by_cases h3 : q.1 = 3
      · rw [if_pos h3]
        cases cid C q.2.1 with
        | none => exact z
        | some r => exact hB r j
      · rw [if_neg h3]
        by_cases h2 : q.1 = 2
        · rw [if_pos h2]
          exact hg q (List.mem_of_getElem? hq) h2
        · rw [if_neg h2]
          cases sform C L g q with
          | none => exact z
          | some f => exact oi_le _
/-- the slots that get no name hold old names alone -/
def wHu (sl : List aSl) (n0 : Nat) (C : aH) : Prop := ∀ (p : Nat) (c : aK), C[p]? = some c → match c with
  | .inl a => sIdx sl 3 p 0 n0 = none → a.2.2 < n0
  | .inr b => ∀ j v, b.2[j]? = some v → sIdx sl 1 p j n0 = none → wV n0 v
theorem wHu_of {sl : List aSl} {n0 : Nat} {C : aH} (h : wH n0 C) : wHu sl n0 C := by
  intro p c hc
  have hk := h c (List.mem_of_getElem? hc)
  cases c with
  | inl a => exact fun _ => hk
  | inr b => exact fun j v hv _ => hk v (List.mem_of_getElem? hv)
theorem rep_cH {σ : aσ} {sl : List aSl} {n0 : Nat} {C C0 : aH} {L : aL} {g : aF} (hr : repH sl n0 C 0 = repH sl n0 C0 0) (hw : wHu sl n0 C0) (hv : ∀ q ∈ sl, q.1 = 1 → ∃ f, sform C L g q = some f) : cH (aTau σ sl n0 C L g) (repH sl n0 C 0) = cH σ C := by
  have hag := aTau_ag σ sl n0 C L g
  apply List.ext_getElem?
  intro p
  unfold cH
  rw [List.getElem?_map, List.getElem?_map, repH_get]
  have hp := congrArg (fun l => l[p]?) hr
  simp only [repH_get, Nat.zero_add] at hp
  rw [Nat.zero_add]
  cases hC : C[p]? with
  | none => rfl
  | some c =>
    rw [hC] at hp
    cases hC0 : C0[p]? with
    | none => rw [hC0] at hp; cases hp
    | some c0 =>
    rw [hC0] at hp
    have hp : repK sl n0 p c = repK sl n0 p c0 := Option.some.inj hp
    have hw0 := hw p c0 hC0
    show some (cK (aTau σ sl n0 C L g) (repK sl n0 p c)) = some (cK σ c)
    congr 1
    rcases c with ⟨t, m, r⟩ | ⟨ci, fs⟩
    · show (Sum.inl (t, m, .inl (fun j => Int32.ofInt (aTau σ sl n0 C L g (match sIdx sl 3 p 0 n0 with
        | some v => v
        | none => r) j))) : va_E) = Sum.inl (t, m, .inl (fun j => Int32.ofInt (σ r j)))
      cases hq : sIdx sl 3 p 0 n0 with
      | some i =>
        obtain ⟨m', q, e1, e2, e3, e4, e5⟩ := sIdx_c hq
        dsimp only
        rw [e1, aTau_at e2]
        unfold sval
        rw [if_pos e3, e4]
        have : cid C p = some r := by unfold cid; rw [xe_nth_eq, hC]
        rw [this]
      | none =>
        dsimp only
        rcases c0 with ⟨t0, m0, r0⟩ | ⟨ci0, fs0⟩
        · have hp : (Sum.inl (t, m, match sIdx sl 3 p 0 n0 with
            | some v => v
            | none => r) : aK) = Sum.inl (t0, m0, match sIdx sl 3 p 0 n0 with
            | some v => v
            | none => r0) := hp
          rw [hq] at hp
          cases hp
          rw [← hag r (hw0 hq)]
        · cases hp
    · show (Sum.inr (ci, (repV sl n0 p fs 0).map (cV (aTau σ sl n0 C L g))) : va_E) = Sum.inr (ci, fs.map (cV σ))
      congr 2
      rcases c0 with ⟨t0, m0, r0⟩ | ⟨ci0, fs0⟩
      · cases hp
      · have hp : (Sum.inr (ci, repV sl n0 p fs 0) : aK) = Sum.inr (ci0, repV sl n0 p fs0 0) := hp
        have hp2 : repV sl n0 p fs 0 = repV sl n0 p fs0 0 := (Prod.mk.inj (Sum.inr.inj hp)).2
        apply List.ext_getElem?
        intro j
        rw [List.getElem?_map, List.getElem?_map, repV_get, Nat.zero_add]
        have hj := congrArg (fun l => l[j]?) hp2
        simp only [repV_get, Nat.zero_add] at hj
        cases hf : fs[j]? with
        | none => rfl
        | some v =>
          rw [hf] at hj
          cases hf0 : fs0[j]? with
          | none => rw [hf0] at hj; cases hj
          | some v0 =>
          rw [hf0] at hj
          show some (cV (aTau σ sl n0 C L g) (match sIdx sl 1 p j n0 with
            | some i => .inl (0, [(i, 1)])
            | none => v)) = some (cV σ v)
          congr 1
          cases hq : sIdx sl 1 p j n0 with
          | some i =>
            obtain ⟨m', q, e1, e2, e3, e4, e5⟩ := sIdx_c hq
            obtain ⟨f, hsf⟩ := hv q (List.mem_of_getElem? e2) e3
            have hvf : v = .inl f := by
              unfold sform at hsf
              rw [e3, e4, e5] at hsf
              have hsf : (match xe_nth C p with
                | some (.inr (_, fs)) => match xe_nth fs j with
                  | some (.inl f) => some f
                  | _ => none
                | _ => none) = some f := hsf
              rw [xe_nth_eq, hC] at hsf
              dsimp only at hsf
              rw [xe_nth_eq, hf] at hsf
              cases v with
              | inl g => cases hsf; rfl
              | inr g => cases hsf
            dsimp only
            show Value.int (Int32.ofInt (cF (aTau σ sl n0 C L g) (0, [(i, 1)]))) = cV σ v
            rw [lvar_c, e1, aTau_at e2, hvf]
            unfold sval
            rw [if_neg (by omega), if_neg (by omega), hsf]
            show Value.int (Int32.ofInt (Int32.ofInt (cF σ f)).toInt) = Value.int (Int32.ofInt (cF σ f))
            rw [oi_of]
          | none =>
            rw [hq] at hj
            have hj : v = v0 := Option.some.inj hj
            exact (cV_ag hag (by rw [hj]; exact hw0 j v0 hf0 hq)).symm
theorem rep_plen (sl : List aSl) (n0 : Nat) (C : aH) (p : Nat) : plen (repH sl n0 C 0) p = plen C p := by
  unfold plen
  rw [repH_get]
  cases C[p]? with
  | none => rfl
  | some c => rcases c with ⟨t, m, r⟩ | ⟨ci, fs⟩ <;> rfl
theorem rep_pmax (PH : List Nat) (sl : List aSl) (n0 : Nat) (C : aH) : pmax PH (repH sl n0 C 0) = pmax PH C := by
  unfold pmax
  congr 1
  exact List.map_congr_left fun q _ => by rw [rep_plen]
theorem sIdx_lt {sl : List aSl} {a b c n i : Nat} (h : sIdx sl a b c n = some i) : i < n + sl.length := by
  obtain ⟨m, q, e1, e2, _⟩ := sIdx_c h
  have := (List.getElem?_eq_some_iff.mp e2).1
  omega
theorem rep_w {sl : List aSl} {n0 : Nat} {C : aH} (h : wH n0 C) : wH (n0 + sl.length) (repH sl n0 C 0) := by
  intro c hc
  obtain ⟨p, hp⟩ := List.mem_iff_getElem?.mp hc
  rw [repH_get, Nat.zero_add] at hp
  cases hC : C[p]? with
  | none => rw [hC] at hp; cases hp
  | some d =>
    rw [hC] at hp
    have hk := h d (List.mem_of_getElem? hC)
    have hp : repK sl n0 p d = c := Option.some.inj hp
    rw [← hp]
    rcases d with ⟨t, m, r⟩ | ⟨ci, fs⟩
    · show (match sIdx sl 3 p 0 n0 with
        | some v => v
        | none => r) < n0 + sl.length
      split
      · rename_i v hv; exact sIdx_lt hv
      · exact Nat.lt_of_lt_of_le hk (Nat.le_add_right _ _)
    · show ∀ v ∈ repV sl n0 p fs 0, wV (n0 + sl.length) v
      intro v hv
      obtain ⟨j, hj⟩ := List.mem_iff_getElem?.mp hv
      rw [repV_get, Nat.zero_add] at hj
      cases hf : fs[j]? with
      | none => rw [hf] at hj; cases hj
      | some w =>
        rw [hf] at hj
        have hj := Option.some.inj hj
        rw [← hj]
        dsimp only
        split
        · rename_i i hi; exact lvar_w (sIdx_lt hi)
        · exact wV_le (Nat.le_add_right _ _) (hk w (List.mem_of_getElem? hf))
theorem repL_w {sl : List aSl} {n0 : Nat} {L : aL} (h : wL n0 L) : wL (n0 + sl.length) (repL sl n0 L) := by
  induction L with
  | nil => exact fun q hq => absurd hq List.not_mem_nil
  | cons q t ih =>
    intro r hr
    rcases List.mem_cons.mp (show r ∈ (q.1, match sIdx sl 0 q.1 0 n0 with
      | some i => (.inl (0, [(i, 1)]) : aV)
      | none => q.2) :: repL sl n0 t from hr) with e | e
    · rw [e]
      dsimp only
      split
      · rename_i i hi; exact lvar_w (sIdx_lt hi)
      · exact wV_le (Nat.le_add_right _ _) (h q List.mem_cons_self)
    · exact ih (fun z hz => h z (List.mem_cons_of_mem _ hz)) r e
theorem repG_w {sl : List aSl} {n0 : Nat} {g : aF} (h : wF n0 g) : wF (n0 + sl.length) (repG sl n0 g) := by
  unfold repG
  split
  · rename_i i hi; exact lvar_w (sIdx_lt hi)
  · exact wF_le (Nat.le_add_right _ _) h
