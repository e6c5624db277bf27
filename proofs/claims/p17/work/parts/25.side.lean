/-! THE TWO SIDES are well made -/
noncomputable def wWub (sl : List aSl) (p j : Nat) (v : aV) : Bool := match sIdx sl 1 p j 0 with
  | some _ => true
  | none => match v with
    | .inr _ => true
    | .inl _ => false
noncomputable def wVub (sl : List aSl) (p : Nat) (fs : List aV) : Nat → Bool := List.rec (motive := fun _ => Nat → Bool) (fun _ => true) (fun v _ ih j => cond (wWub sl p j v) (ih (Nat.succ j)) false) fs
noncomputable def wAub (sl : List aSl) (p : Nat) : Bool := match sIdx sl 3 p 0 0 with
  | some _ => true
  | none => false
noncomputable def wKub (sl : List aSl) (p : Nat) (c : aK) : Bool := match c with
  | .inl _ => wAub sl p
  | .inr b => wVub sl p b.2 0
noncomputable def wHub (sl : List aSl) (C : aH) : Nat → Bool := List.rec (motive := fun _ => Nat → Bool) (fun _ => true) (fun c _ ih p => cond (wKub sl p c) (ih (Nat.succ p)) false) C
theorem wWub_c {sl : List aSl} {p j : Nat} {v : aV} (h : wWub sl p j v = true) (hn : sIdx sl 1 p j 0 = none) : wV 0 v := by
  unfold wWub at h
  rw [hn] at h
  cases v with
  | inr a => trivial
  | inl f => cases h
theorem wVub_c {sl : List aSl} {p : Nat} {fs : List aV} {j0 : Nat} (h : wVub sl p fs j0 = true) : ∀ (j : Nat) (v : aV), fs[j]? = some v → sIdx sl 1 p (j0 + j) 0 = none → wV 0 v := by
  induction fs generalizing j0 with
  | nil => intro j v hj; cases hj
  | cons w t ih =>
    obtain ⟨h1, h2⟩ := cond_tf (show cond (wWub sl p j0 w) (wVub sl p t (j0 + 1)) false = true from h)
    intro j v hj hn
    cases j with
    | zero =>
      have ev : w = v := Option.some.inj hj
      rw [Nat.add_zero] at hn
      rw [← ev]
      exact wWub_c h1 hn
    | succ j => exact ih h2 j v hj (by rw [show j0 + 1 + j = j0 + (j + 1) by omega]; exact hn)
def wKuP (sl : List aSl) (p : Nat) (c : aK) : Prop := match c with
  | .inl a => sIdx sl 3 p 0 0 = none → a.2.2 < 0
  | .inr b => ∀ j v, b.2[j]? = some v → sIdx sl 1 p j 0 = none → wV 0 v
theorem wKub_c {sl : List aSl} {p : Nat} {c : aK} (h : wKub sl p c = true) : wKuP sl p c := by
  cases c with
  | inl a =>
    intro hn
    have h : wAub sl p = true := h
    unfold wAub at h
    rw [hn] at h
    cases h
  | inr b =>
    intro j v hj hn
    exact wVub_c (show wVub sl p b.2 0 = true from h) j v hj (by rw [Nat.zero_add]; exact hn)
theorem wHub_c {sl : List aSl} {C : aH} {p0 : Nat} (h : wHub sl C p0 = true) : ∀ (p : Nat) (c : aK), C[p]? = some c → wKuP sl (p0 + p) c := by
  induction C generalizing p0 with
  | nil => intro p c hp; cases hp
  | cons d t ih =>
    obtain ⟨h1, h2⟩ := cond_tf (show cond (wKub sl p0 d) (wHub sl t (p0 + 1)) false = true from h)
    intro p c hp
    cases p with
    | zero =>
      have ec : d = c := Option.some.inj hp
      rw [Nat.add_zero, ← ec]
      exact wKub_c h1
    | succ p =>
      have h3 := ih h2 p c hp
      rw [show p0 + 1 + p = p0 + (p + 1) by omega] at h3
      exact h3
theorem gok_of {CP PH : List Nat} {PM : Int} {SM : Nat → Nat → Option aSm} {IS : List aSl} {H : aH} (h1 : hEq (repH IS 0 H 0) H = true) (h2 : wHub IS H 0 = true) (h3 : iLe (pmax PH H) PM = true) (h4 : PH.Nodup) (h5 : lAllI (fun i (z : aSl) => match sIdx IS z.1 z.2.1 z.2.2.1 0 with
    | some j => Nat.beq j i
    | none => false) IS 0 = true) : aGok (CP, PH, PM, SM, IS, H) := by
  have hr : repH IS 0 H 0 = H := hEq_eq h1
  have hu : wHu IS 0 H := by
    intro p c hc
    have h6 := wHub_c h2 p c hc
    rw [Nat.zero_add] at h6
    cases c with
    | inl a => exact h6
    | inr b => exact h6
  refine ⟨hr, hu, ?_, iLe_le h3, h4, fun i z hz => ?_⟩
  · intro c hc
    show wK IS.length c
    obtain ⟨p, hp⟩ := List.mem_iff_getElem?.mp hc
    have hp2 := hp
    rw [← hr, repH_get, hp, Nat.zero_add] at hp2
    have hp2 : repK IS 0 p c = c := Option.some.inj hp2
    have hw := hu p c hp
    rcases c with ⟨t, m, r⟩ | ⟨ci, fs⟩
    · have hp2 : (Sum.inl (t, m, match sIdx IS 3 p 0 0 with
        | some v => v
        | none => r) : aK) = Sum.inl (t, m, r) := hp2
      have he : (match sIdx IS 3 p 0 0 with
        | some v => v
        | none => r) = r := (Prod.mk.inj (Prod.mk.inj (Sum.inl.inj hp2)).2).2
      cases hi : sIdx IS 3 p 0 0 with
      | none => exact absurd (hw hi) (Nat.not_lt_zero _)
      | some i =>
        rw [hi] at he
        have he : i = r := he
        have := sIdx_lt hi
        rw [Nat.zero_add, he] at this
        exact this
    · have hv2 : repV IS 0 p fs 0 = fs := (Prod.mk.inj (Sum.inr.inj hp2)).2
      intro v hv
      obtain ⟨j, hj⟩ := List.mem_iff_getElem?.mp hv
      have hj2 := hj
      have hj : fs[j]? = some v := hj
      rw [← hv2, repV_get, hj, Nat.zero_add] at hj2
      cases hi : sIdx IS 1 p j 0 with
      | none => exact wV_le (Nat.zero_le _) (hw j v hj hi)
      | some i =>
        rw [hi] at hj2
        have hj2 : (.inl (0, [(i, 1)]) : aV) = v := Option.some.inj hj2
        rw [← hj2]
        have := sIdx_lt hi
        rw [Nat.zero_add] at this
        exact lvar_w this
  · have := lAllI_true h5 i z hz
    rw [Nat.zero_add] at this
    show sIdx IS z.1 z.2.1 z.2.2.1 0 = some i
    cases hi : sIdx IS z.1 z.2.1 z.2.2.1 0 with
    | none => rw [hi] at this; cases this
    | some j => rw [hi] at this; rw [Nat.eq_of_beq_eq_true this]
theorem gokX (SM : Nat → Nat → Option aSm) : aGok ([3, 4, 5, 6, 7], [], 0, SM, aISX, aHX) := gok_of (by decide +kernel) (by decide +kernel) (by decide +kernel) (by decide) (by decide +kernel)
theorem gokM (SM : Nat → Nat → Option aSm) : aGok ([1], [15, 16, 17, 18, 19, 20, 27, 28], 24576, SM, aISM, aHM) := gok_of (by decide +kernel) (by decide +kernel) (by decide +kernel) (by decide) (by decide +kernel)
theorem sm_case {k p a b : Nat} {s sm : aSm} {r : Option aSm} (h : cond (cond (Nat.beq k a) (Nat.beq p b) false) (some s) r = some sm) : (k = a ∧ p = b ∧ sm = s) ∨ r = some sm := by
  cases hq : (cond (Nat.beq k a) (Nat.beq p b) false) with
  | true =>
    rw [hq] at h
    obtain ⟨h1, h2⟩ := cond_tf hq
    exact Or.inl ⟨Nat.eq_of_beq_eq_true h1, Nat.eq_of_beq_eq_true h2, (Option.some.inj h).symm⟩
  | false => rw [hq] at h; exact Or.inr h
def smOKb (sm : aSm) : Bool := sm.1.all (fun r => decide (aMN ≤ r.1 ∧ r.2 ≤ aMX)) && (match sm.2.1 with
  | none => true
  | some q => decide (aMN ≤ q.1 ∧ q.2 ≤ aMX))
theorem smOK_of {sm : aSm} (h : smOKb sm = true) : smOK sm := by
  unfold smOKb at h
  simp only [Bool.and_eq_true, List.all_eq_true, decide_eq_true_eq] at h
  refine ⟨h.1, fun q hq => ?_⟩
  have h2 := h.2
  have hq : sm.2.1 = some q := hq
  rw [hq] at h2
  exact of_decide_eq_true h2
