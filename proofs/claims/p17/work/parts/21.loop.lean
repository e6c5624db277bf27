/-! LOOPS: the state at a loop's head, with names in the slots that change -/
noncomputable def mkT (G : aG) (t : aTp) (ents : List aF) (s : aS) : aS := ((s.1.1 + (t.1 ++ t.2.1).length, nmV (t.1 ++ t.2.1) s.1.1 s.1.2.1, nmA (t.1 ++ t.2.1) s.1.1 s.1.2.2.1, aK2 (nvars t.1 s.1.1) t.2.2.2.1 ents ++ (t.2.2.1.map (fun z => lcb z.1 z.2 (nvars t.1 s.1.1)) ++ s.1.2.2.2.1), s.1.2.2.2.2.1, s.1.2.2.2.2.2.1, s.1.2.2.2.2.2.2.1, aTO G.1 (repH (t.1 ++ t.2.1) s.1.1 s.2.2.1 0) s.1.2.2.2.2.2.2.2.1 t.2.2.2.2.2, s.1.2.2.2.2.2.2.2.2.1, repG (t.1 ++ t.2.1) s.1.1 (gE s.1)), s.2.1, repH (t.1 ++ t.2.1) s.1.1 s.2.2.1 0, s.2.2.2.1, repL (t.1 ++ t.2.1) s.1.1 s.2.2.2.2.1, s.2.2.2.2.2.1, s.2.2.2.2.2.2)
theorem nvars_get (sl : List aSl) (n m : Nat) : (nvars sl n)[m]? = sl[m]?.map (fun _ => ((0, [(n + m, 1)]) : aF)) := by
  induction sl generalizing n m with
  | nil => rfl
  | cons q t ih =>
    cases m with
    | zero => rfl
    | succ m =>
      show (nvars t (n + 1))[m]? = t[m]?.map _
      rw [ih (n + 1) m, show n + 1 + m = n + (m + 1) by omega]
theorem nmV_mem {sl : List aSl} {n : Nat} {V : List (Nat × Int × Int)} {q : Nat × Int × Int} (h : q ∈ nmV sl n V) : q ∈ V ∨ ∃ (m : Nat) (z : aSl), sl[m]? = some z ∧ z.1 ≠ 3 ∧ q = (n + m, z.2.2.2.1, z.2.2.2.2) := by
  induction sl generalizing n V with
  | nil => exact Or.inl h
  | cons z t ih =>
    have h : q ∈ cond (Nat.beq z.1 3) (nmV t (n + 1) V) (nmV t (n + 1) ((n, z.2.2.2.1, z.2.2.2.2) :: V)) := h
    cases hz : Nat.beq z.1 3 with
    | true =>
      rw [hz] at h
      rcases ih h with h | ⟨m, y, h1, h2, h3⟩
      · exact Or.inl h
      · exact Or.inr ⟨m + 1, y, h1, h2, by rw [h3, show n + 1 + m = n + (m + 1) by omega]⟩
    | false =>
      rw [hz] at h
      rcases ih h with h | ⟨m, y, h1, h2, h3⟩
      · rcases List.mem_cons.mp h with e | e
        · exact Or.inr ⟨0, z, rfl, (fun e3 => by rw [e3] at hz; cases hz), e⟩
        · exact Or.inl e
      · exact Or.inr ⟨m + 1, y, h1, h2, by rw [h3, show n + 1 + m = n + (m + 1) by omega]⟩
theorem nmA_mem {sl : List aSl} {n : Nat} {V : List (Nat × Int × Int)} {q : Nat × Int × Int} (h : q ∈ nmA sl n V) : q ∈ V ∨ ∃ (m : Nat) (z : aSl), sl[m]? = some z ∧ z.1 = 3 ∧ q = (n + m, z.2.2.2.1, z.2.2.2.2) := by
  induction sl generalizing n V with
  | nil => exact Or.inl h
  | cons z t ih =>
    have h : q ∈ cond (Nat.beq z.1 3) (nmA t (n + 1) ((n, z.2.2.2.1, z.2.2.2.2) :: V)) (nmA t (n + 1) V) := h
    cases hz : Nat.beq z.1 3 with
    | false =>
      rw [hz] at h
      rcases ih h with h | ⟨m, y, h1, h2, h3⟩
      · exact Or.inl h
      · exact Or.inr ⟨m + 1, y, h1, h2, by rw [h3, show n + 1 + m = n + (m + 1) by omega]⟩
    | true =>
      rw [hz] at h
      rcases ih h with h | ⟨m, y, h1, h2, h3⟩
      · rcases List.mem_cons.mp h with e | e
        · exact Or.inr ⟨0, z, rfl, Nat.eq_of_beq_eq_true hz, e⟩
        · exact Or.inl e
      · exact Or.inr ⟨m + 1, y, h1, h2, by rw [h3, show n + 1 + m = n + (m + 1) by omega]⟩
theorem sforms_c {σ : aσ} {V : List (Nat × Int × Int)} {K : List aF} {C : aH} {L : aL} {g : aF} (hB : aBD σ) (hV : aRG σ V) (hK : aKK σ K) {sl : List aSl} {fs : List aF} (h : sforms V K C L g sl = some fs) : fs.length = sl.length ∧ ∀ (m : Nat) (q : aSl), sl[m]? = some q → ∃ f, fs[m]? = some f ∧ sform C L g q = some f ∧ (q.1 = 2 → q.2.2.2.1 ≤ 0) ∧ (q.1 ≠ 2 → q.2.2.2.1 ≤ cF σ f) ∧ cF σ f ≤ q.2.2.2.2 ∧ aMN ≤ q.2.2.2.1 ∧ q.2.2.2.2 ≤ aMX := by
  induction sl generalizing fs with
  | nil => cases h; exact ⟨rfl, fun m q hq => by cases hq⟩
  | cons z t ih =>
    have h : (match sform C L g z with
      | some f => cond (cond (cond (Nat.beq z.1 2) (iLe z.2.2.2.1 0) (pr2 V K (lsub f (z.2.2.2.1, [])))) (cond (pr2 V K (lsub (z.2.2.2.2, []) f)) (cond (iLe aMN z.2.2.2.1) (iLe z.2.2.2.2 aMX) false) false) false) (match sforms V K C L g t with
        | some t => some (f :: t)
        | none => none) none
      | none => none) = some fs := h
    split at h
    · rename_i f hf
      have h0 := cond_so h
      clear h
      obtain ⟨q1, h⟩ := h0
      obtain ⟨q1, q2⟩ := cond_tf q1
      obtain ⟨q2, q3⟩ := cond_tf q2
      obtain ⟨q3, q4⟩ := cond_tf q3
      split at h
      · rename_i u hu
        cases h
        obtain ⟨i1, i2⟩ := ih hu
        refine ⟨by rw [List.length_cons, List.length_cons, i1], fun m q hq => ?_⟩
        cases m with
        | zero =>
          have hq : z = q := Option.some.inj hq
          subst hq
          have a2 := pr2_c hB hV hK q2
          rw [lsub_c, lcst_c] at a2
          refine ⟨f, rfl, hf, fun e2 => ?_, fun e2 => ?_, by omega, iLe_le q3, iLe_le q4⟩
          · rw [e2] at q1
            exact iLe_le q1
          · have hb : Nat.beq z.1 2 = false := by
              cases hb : Nat.beq z.1 2 with
              | true => exact absurd (Nat.eq_of_beq_eq_true hb) e2
              | false => rfl
            rw [hb] at q1
            have a1 := pr2_c hB hV hK q1
            rw [lsub_c, lcst_c] at a1
            omega
        | succ m => exact i2 m q hq
      · cases h
    · cases h
theorem lcb_c {σ τ : aσ} {xs fs : List aF} (hl : xs.length = fs.length) (h : ∀ (m : Nat) (x f : aF), xs[m]? = some x → fs[m]? = some f → cF τ x = cF σ f) (c : Int) (ks : List (Nat × Int)) : cF τ (lcb c ks xs) = cF σ (lcb c ks fs) := by
  induction ks with
  | nil => exact (lcst_c τ c).trans (lcst_c σ c).symm
  | cons q t ih =>
    have e1 : lcb c (q :: t) xs = match xe_nth xs q.1 with
      | some f => ladd (lmul q.2 f) (lcb c t xs)
      | none => lcb c t xs := rfl
    have e2 : lcb c (q :: t) fs = match xe_nth fs q.1 with
      | some f => ladd (lmul q.2 f) (lcb c t fs)
      | none => lcb c t fs := rfl
    rw [e1, e2, xe_nth_eq, xe_nth_eq]
    cases hx : xs[q.1]? with
    | none =>
      have : fs[q.1]? = none := by
        rw [List.getElem?_eq_none_iff] at hx ⊢
        omega
      rw [this]
      exact ih
    | some x =>
      cases hf : fs[q.1]? with
      | none =>
        rw [List.getElem?_eq_none_iff] at hf
        have := (List.getElem?_eq_some_iff.mp hx).1
        omega
      | some f =>
        show cF τ (ladd (lmul q.2 x) (lcb c t xs)) = cF σ (ladd (lmul q.2 f) (lcb c t fs))
        rw [ladd_c, ladd_c, lmul_c, lmul_c, ih, h q.1 x f hx hf]
theorem lcb_w {n : Nat} {fs : List aF} (h : ∀ f ∈ fs, wF n f) (c : Int) (ks : List (Nat × Int)) : wF n (lcb c ks fs) := by
  induction ks with
  | nil => exact lcst_w
  | cons q t ih =>
    show wF n (match xe_nth fs q.1 with
      | some f => ladd (lmul q.2 f) (lcb c t fs)
      | none => lcb c t fs)
    split
    · rename_i f hf
      rw [xe_nth_eq] at hf
      exact ladd_w (lmul_w (h f (List.mem_of_getElem? hf))) ih
    · exact ih
theorem sform_w {n : Nat} {C : aH} {L : aL} {g : aF} (hC : wH n C) (hL : wL n L) (hg : wF n g) {q : aSl} {f : aF} (h : sform C L g q = some f) : wF n f := by
  unfold sform at h
  cases q0 : Nat.beq q.1 0 with
  | true =>
    rw [q0] at h
    simp only [cond_true] at h
    split at h
    · rename_i f' hf
      cases h
      exact as_w hL hf
    · cases h
  | false =>
    rw [q0] at h
    simp only [cond_false] at h
    cases q1 : Nat.beq q.1 1 with
    | true =>
      rw [q1] at h
      simp only [cond_true] at h
      split at h
      · rename_i ci fs hc
        split at h
        · rename_i f' hf
          cases h
          have hk : wK n (.inr (ci, fs)) := nth_w hC hc
          rw [xe_nth_eq] at hf
          exact hk _ (List.mem_of_getElem? hf)
        · cases h
      · cases h
    | false =>
      rw [q1] at h
      simp only [cond_false] at h
      cases q2 : Nat.beq q.1 2 with
      | true => rw [q2] at h; cases h; exact hg
      | false => rw [q2] at h; cases h
theorem sforms_w {n : Nat} {V : List (Nat × Int × Int)} {K : List aF} {C : aH} {L : aL} {g : aF} (hC : wH n C) (hL : wL n L) (hg : wF n g) {sl : List aSl} {fs : List aF} (h : sforms V K C L g sl = some fs) : ∀ f ∈ fs, wF n f := by
  induction sl generalizing fs with
  | nil => cases h; exact fun f hf => absurd hf List.not_mem_nil
  | cons z t ih =>
    have h : (match sform C L g z with
      | some f => cond (cond (cond (Nat.beq z.1 2) (iLe z.2.2.2.1 0) (pr2 V K (lsub f (z.2.2.2.1, [])))) (cond (pr2 V K (lsub (z.2.2.2.2, []) f)) (cond (iLe aMN z.2.2.2.1) (iLe z.2.2.2.2 aMX) false) false) false) (match sforms V K C L g t with
        | some t => some (f :: t)
        | none => none) none
      | none => none) = some fs := h
    split at h
    · rename_i f hf
      have h0 := cond_so h
      clear h
      obtain ⟨q1, h⟩ := h0
      split at h
      · rename_i u hu
        cases h
        intro x hx
        rcases List.mem_cons.mp hx with e | e
        · rw [e]; exact sform_w hC hL hg hf
        · exact ih hu x e
      · cases h
    · cases h
theorem cid_rep {σ : aσ} {sl : List aSl} {n0 : Nat} {C C0 : aH} {L : aL} {g : aF} (hr : repH sl n0 C 0 = repH sl n0 C0 0) (hw : wHu sl n0 C0) {p r i : Nat} (hc : cid C p = some r) (hi : cid (repH sl n0 C 0) p = some i) : aTau σ sl n0 C L g i = σ r := by
  have hag := aTau_ag σ sl n0 C L g
  have hc0 := hc
  unfold cid at hc hi
  rw [xe_nth_eq] at hc hi
  rw [repH_get, Nat.zero_add] at hi
  have hp := congrArg (fun l => l[p]?) hr
  simp only [repH_get, Nat.zero_add] at hp
  cases hC : C[p]? with
  | none => rw [hC] at hc; cases hc
  | some c =>
    rw [hC] at hc hi hp
    rcases c with ⟨t, m, r'⟩ | ⟨ci, fs⟩
    · cases hc
      have hi : some (match sIdx sl 3 p 0 n0 with
        | some v => v
        | none => r) = some i := hi
      cases hq : sIdx sl 3 p 0 n0 with
      | some v =>
        rw [hq] at hi
        cases hi
        obtain ⟨m', q, e1, e2, e3, e4, e5⟩ := sIdx_c hq
        rw [e1, aTau_at e2]
        unfold sval
        rw [if_pos e3, e4, hc0]
      | none =>
        rw [hq] at hi
        cases hi
        cases hC0 : C0[p]? with
        | none => rw [hC0] at hp; cases hp
        | some c0 =>
          rw [hC0] at hp
          have hp : repK sl n0 p (.inl (t, m, r)) = repK sl n0 p c0 := Option.some.inj hp
          have hw0 := hw p c0 hC0
          rcases c0 with ⟨t0, m0, r0⟩ | ⟨ci0, fs0⟩
          · have hp : (Sum.inl (t, m, match sIdx sl 3 p 0 n0 with
              | some v => v
              | none => r) : aK) = Sum.inl (t0, m0, match sIdx sl 3 p 0 n0 with
              | some v => v
              | none => r0) := hp
            rw [hq] at hp
            cases hp
            exact (hag r (hw0 hq)).symm
          · cases hp
    · cases hc
theorem cids_rep {σ : aσ} {sl : List aSl} {n0 : Nat} {C C0 : aH} {L : aL} {g : aF} (hr : repH sl n0 C 0 = repH sl n0 C0 0) (hw : wHu sl n0 C0) {ps cs ds : List Nat} (hc : cids C ps = some cs) (hd : cids (repH sl n0 C 0) ps = some ds) : ds.map (aTau σ sl n0 C L g) = cs.map σ := by
  induction ps generalizing cs ds with
  | nil => cases hc; cases hd; rfl
  | cons p t ih =>
    have hc : (match cid C p with
      | some i => match cids C t with
        | some t => some (i :: t)
        | none => none
      | none => none) = some cs := hc
    have hd : (match cid (repH sl n0 C 0) p with
      | some i => match cids (repH sl n0 C 0) t with
        | some t => some (i :: t)
        | none => none
      | none => none) = some ds := hd
    cases h1 : cid C p with
    | none => rw [h1] at hc; cases hc
    | some r =>
      rw [h1] at hc
      cases h2 : cids C t with
      | none => rw [h2] at hc; cases hc
      | some u =>
        rw [h2] at hc
        cases hc
        cases h3 : cid (repH sl n0 C 0) p with
        | none => rw [h3] at hd; cases hd
        | some i =>
          rw [h3] at hd
          cases h4 : cids (repH sl n0 C 0) t with
          | none => rw [h4] at hd; cases hd
          | some w =>
            rw [h4] at hd
            cases hd
            rw [List.map_cons, List.map_cons, ih h2 h4, cid_rep hr hw h1 h3]
theorem toldS_map {σ τ : aσ} {cs ds : List Nat} (h : ds.map τ = cs.map σ) (ht : toldS σ cs) : toldS τ ds := by
  match cs, ht with
  | [c], ht =>
    have hl : ds.length = 1 := by simpa using congrArg List.length h
    match ds, hl, h with
    | [d], _, h =>
      have e : τ d = σ c := by simpa using h
      show ∀ j, j < 180 → toldP (τ d (5 * j)) [τ d (5 * j + 1), τ d (5 * j + 2), τ d (5 * j + 3), τ d (5 * j + 4)]
      rw [e]
      exact ht
  | [c0, c1, c2, c3, c4], ht =>
    have hl : ds.length = 5 := by simpa using congrArg List.length h
    match ds, hl, h with
    | [d0, d1, d2, d3, d4], _, h =>
      simp only [List.map_cons, List.map_nil, List.cons.injEq, and_true] at h
      obtain ⟨e0, e1, e2, e3, e4⟩ := h
      show ∀ j, j < 180 → toldP (τ d0 j) [τ d1 j, τ d2 j, τ d3 j, τ d4 j]
      rw [e0, e1, e2, e3, e4]
      exact ht
theorem aK2_mem {xs : List aF} {l : List (List (Nat × Int))} {es : List aF} {f : aF} (h : f ∈ aK2 xs l es) : ∃ (m : Nat) (z : List (Nat × Int)) (e : aF), l[m]? = some z ∧ es[m]? = some e ∧ f = lsub e (lcb 0 z xs) := by
  induction l generalizing es with
  | nil => exact absurd h List.not_mem_nil
  | cons z t ih =>
    cases es with
    | nil => exact absurd h List.not_mem_nil
    | cons e r =>
      rcases List.mem_cons.mp (show f ∈ lsub e (lcb 0 z xs) :: aK2 xs t r from h) with e1 | e1
      · exact ⟨0, z, e, rfl, rfl, e1⟩
      · obtain ⟨m, y, d, a1, a2, a3⟩ := ih e1
        exact ⟨m + 1, y, d, a1, a2, a3⟩
theorem sumsE_c {σ : aσ} {V : List (Nat × Int × Int)} {K : List aF} (hB : aBD σ) (hV : aRG σ V) (hK : aKK σ K) {fs : List aF} {l : List (List (Nat × Int))} {es : List aF} (h : sumsE V K fs l es = true) : ∀ (m : Nat) (z : List (Nat × Int)) (e : aF), l[m]? = some z → es[m]? = some e → 0 ≤ cF σ (lsub e (lcb 0 z fs)) := by
  induction l generalizing es with
  | nil => intro m z e hz; cases hz
  | cons y t ih =>
    cases es with
    | nil => cases h
    | cons d r =>
      obtain ⟨h1, h2⟩ := cond_tf (show cond (lcok y fs) (cond (pr2 V K (lsub d (lcb 0 y fs))) (sumsE V K fs t r) false) false = true from h)
      obtain ⟨h2, h3⟩ := cond_tf h2
      intro m z e hz he
      cases m with
      | zero =>
        cases hz
        cases he
        exact pr2_c hB hV hK h2
      | succ m => exact ih h3 m z e hz he
/-- a state that fits a loop's head comes to the head with names for what changes -/
theorem fit_c {G : aG} {Φ : Option Value → xC → Prop} {σ : aσ} {t : aTp} {ents : List aF} {e0 e : aE} {k pc : Nat} {C0 C : aH} {L0 L : aL} {S : List aV} {fr : List aR} {fs : List aF} (hw0 : wfs (e0, k, C0, pc, L0, S, fr)) (hs0 : sat σ e0) (hs : satS G σ (e, k, C, pc, L, S, fr)) (he : ∀ f ∈ ents, wF e0.1 f)
    (hfs : sforms e.2.1 e.2.2.2.1 C L (gE e) t.1 = some fs) (hfree : sfree e.2.2.1 C L (gE e) t.2.1 = true) (hsum : sums e.2.1 e.2.2.2.1 t ents fs = true) (htf : tfit G.1 C e.2.2.2.2.2.2.2.1 t.2.2.2.2.2 = true) (hrep : repH (t.1 ++ t.2.1) e0.1 C 0 = repH (t.1 ++ t.2.1) e0.1 C0 0) (hg : repG (t.1 ++ t.2.1) e0.1 (gE e) = repG (t.1 ++ t.2.1) e0.1 (gE e0))
    (hL : ∀ j tv, xe_as (repL (t.1 ++ t.2.1) e0.1 L0) j = some tv → ∃ v, xe_as L j = some v ∧ ((∃ (i : Nat) (f : aF), sIdx (t.1 ++ t.2.1) 0 j 0 e0.1 = some i ∧ v = .inl f ∧ tv = .inl (0, [(i, 1)])) ∨ (sIdx (t.1 ++ t.2.1) 0 j 0 e0.1 = none ∧ tv = v ∧ wV e0.1 v))) :
    satS G (aTau σ (t.1 ++ t.2.1) e0.1 C L (gE e)) (mkT G t ents (e0, k, C0, pc, L0, S, fr)) ∧ (goal (aTau σ (t.1 ++ t.2.1) e0.1 C L (gE e)) Φ (mkT G t ents (e0, k, C0, pc, L0, S, fr)) → goal σ Φ (e, k, C, pc, L, S, fr)) ∧ ∀ (c : Int) (ks : List (Nat × Int)), cF (aTau σ (t.1 ++ t.2.1) e0.1 C L (gE e)) (lcb c ks (nvars t.1 e0.1)) = cF σ (lcb c ks fs) := by
  have hB : aBD σ := hs.1.1
  have hV : aRG σ e.2.1 := hs.1.2.1
  have hA : aRA σ e.2.2.1 := hs.1.2.2.1
  have hK : aKK σ e.2.2.2.1 := hs.1.2.2.2.1
  have hT : aTOs σ e.2.2.2.2.2.2.2.1 := hs.1.2.2.2.2.2.2.2.1
  have hphi : phi G.2.1 (cH σ C) ≤ cF σ (gE e) := hs.2.1
  have hg0 : 0 ≤ cF σ (gE e) := Int.le_trans (phi_pos _ _) hphi
  obtain ⟨f1, f2⟩ := sforms_c hB hV hK hfs
  have hfr := lAll_true hfree
  -- slots that change without a range
  have r1 : ∀ q ∈ t.2.1, (q.1 = 3 ∧ ∃ i, cid C q.2.1 = some i ∧ ∀ j, q.2.2.2.1 ≤ σ i j ∧ σ i j ≤ q.2.2.2.2) ∨ (q.1 ≠ 3 ∧ q.1 ≠ 2 ∧ (∃ f, sform C L (gE e) q = some f) ∧ q.2.2.2.1 = aMN ∧ q.2.2.2.2 = aMX) := by
    intro q hq
    have h := hfr q hq
    dsimp only at h
    cases h3 : Nat.beq q.1 3 with
    | true =>
      rw [h3] at h
      simp only [cond_true] at h
      cases hc : cid C q.2.1 with
      | none => rw [hc] at h; cases h
      | some i =>
        rw [hc] at h
        obtain ⟨h1, h2⟩ := cond_tf (show cond (iLe q.2.2.2.1 (vrg e.2.2.1 i).1) (iLe (vrg e.2.2.1 i).2 q.2.2.2.2) false = true from h)
        refine Or.inl ⟨Nat.eq_of_beq_eq_true h3, i, rfl, fun j => ?_⟩
        have := vra_c hB hA i j
        have := iLe_le h1
        have := iLe_le h2
        omega
    | false =>
      rw [h3] at h
      simp only [cond_false] at h
      cases h2 : Nat.beq q.1 2 with
      | true => rw [h2] at h; cases h
      | false =>
        rw [h2] at h
        simp only [cond_false] at h
        cases hf : sform C L (gE e) q with
        | none => rw [hf] at h; cases h
        | some f =>
          rw [hf] at h
          obtain ⟨h4, h5⟩ := cond_tf (show cond (iEq q.2.2.2.1 aMN) (iEq q.2.2.2.2 aMX) false = true from h)
          exact Or.inr ⟨(fun e3 => by rw [e3] at h3; cases h3), (fun e3 => by rw [e3] at h2; cases h2), ⟨f, rfl⟩, iEq_eq h4, iEq_eq h5⟩
  have hmem1 : ∀ q ∈ t.1, ∃ f, sform C L (gE e) q = some f ∧ (q.1 = 2 → q.2.2.2.1 ≤ 0) ∧ (q.1 ≠ 2 → q.2.2.2.1 ≤ cF σ f) ∧ cF σ f ≤ q.2.2.2.2 ∧ aMN ≤ q.2.2.2.1 ∧ q.2.2.2.2 ≤ aMX := by
    intro q hq
    obtain ⟨m, hm⟩ := List.mem_iff_getElem?.mp hq
    obtain ⟨f, _, a⟩ := f2 m q hm
    exact ⟨f, a⟩
  have sf3 : ∀ q : aSl, q.1 = 3 → sform C L (gE e) q = none := by
    intro q h3
    unfold sform
    rw [h3]
    rfl
  have sf2 : ∀ q : aSl, q.1 = 2 → sform C L (gE e) q = some (gE e) := by
    intro q h2
    unfold sform
    rw [h2]
    rfl
  have hgm : ∀ q ∈ t.1 ++ t.2.1, q.1 = 2 → aMN ≤ cF σ (gE e) ∧ cF σ (gE e) ≤ aMX := by
    intro q hq h2
    rcases List.mem_append.mp hq with h | h
    · obtain ⟨f, a1, a2, a3, a4, a5, a6⟩ := hmem1 q h
      rw [sf2 q h2] at a1
      cases a1
      exact ⟨by show -2147483648 ≤ _; omega, by omega⟩
    · rcases r1 q h with h | h
      · omega
      · exact absurd h2 h.2.1
  have hvf : ∀ q ∈ t.1 ++ t.2.1, q.1 = 1 → ∃ f, sform C L (gE e) q = some f := by
    intro q hq h1
    rcases List.mem_append.mp hq with h | h
    · obtain ⟨f, a1, _⟩ := hmem1 q h
      exact ⟨f, a1⟩
    · rcases r1 q h with h | h
      · omega
      · exact h.2.2.1
  have hsl : ∀ (m : Nat), m < t.1.length → (t.1 ++ t.2.1)[m]? = t.1[m]? := fun m hm => List.getElem?_append_left hm
  have hag := aTau_ag σ (t.1 ++ t.2.1) e0.1 C L (gE e)
  have hBt : aBD (aTau σ (t.1 ++ t.2.1) e0.1 C L (gE e)) := aTau_bd hB hgm
  have hwu : wHu (t.1 ++ t.2.1) e0.1 C0 := wHu_of hw0.2.1
  have hcH : cH (aTau σ (t.1 ++ t.2.1) e0.1 C L (gE e)) (repH (t.1 ++ t.2.1) e0.1 C 0) = cH σ C := rep_cH hrep hwu hvf
  -- the number in a named slot with a range
  have hval : ∀ (m : Nat) (q : aSl) (f : aF), t.1[m]? = some q → fs[m]? = some f → aTau σ (t.1 ++ t.2.1) e0.1 C L (gE e) (e0.1 + m) 0 = cF σ f := by
    intro m q f hq hf
    obtain ⟨f', a0, a1, a2, a3, a4, a5, a6⟩ := f2 m q hq
    rw [a0] at hf
    cases hf
    have hm := (List.getElem?_eq_some_iff.mp hq).1
    rw [aTau_at (show (t.1 ++ t.2.1)[m]? = some q by rw [hsl m hm]; exact hq)]
    unfold sval
    rw [if_neg (fun h3 => by rw [sf3 q h3] at a1; cases a1)]
    by_cases h2 : q.1 = 2
    · rw [if_pos h2]
      rw [sf2 q h2] at a1
      cases a1
      rfl
    · rw [if_neg h2, a1]
      have := a3 h2
      exact oi_toInt (by omega) (by omega)
  have hlc : ∀ (c : Int) (ks : List (Nat × Int)), cF (aTau σ (t.1 ++ t.2.1) e0.1 C L (gE e)) (lcb c ks (nvars t.1 e0.1)) = cF σ (lcb c ks fs) := by
    refine lcb_c ?_ ?_
    · rw [f1]
      have : ∀ (sl : List aSl) (n : Nat), (nvars sl n).length = sl.length := by
        intro sl
        induction sl with
        | nil => exact fun _ => rfl
        | cons z u ih => exact fun n => congrArg (· + 1) (ih (n + 1))
      exact this _ _
    · intro m x f hx hf
      rw [nvars_get] at hx
      cases hq : t.1[m]? with
      | none => rw [hq] at hx; cases hx
      | some q =>
        rw [hq] at hx
        cases hx
        rw [lvar_c]
        exact hval m q f hq hf
  obtain ⟨g1, g2⟩ := cond_tf hsum
  obtain ⟨u0, u1, u2, u3, u4, u5, u6, u7, u8⟩ := sat_ag hag hw0.1 hBt hs0
  refine ⟨⟨⟨hBt, ?_, ?_, ?_, u4, u5, u6, ?_, u8⟩, ?_, ?_, hs.2.2.2⟩, fun hgo => ?_, hlc⟩
  · -- ranges
    intro q hq
    rcases nmV_mem hq with h | ⟨m, z, h1, h2, h3⟩
    · exact u1 q h
    · rw [h3]
      show z.2.2.2.1 ≤ aTau σ (t.1 ++ t.2.1) e0.1 C L (gE e) (e0.1 + m) 0 ∧ aTau σ (t.1 ++ t.2.1) e0.1 C L (gE e) (e0.1 + m) 0 ≤ z.2.2.2.2
      by_cases hm : m < t.1.length
      · rw [hsl m hm] at h1
        obtain ⟨f, a0, a1, a2, a3, a4, a5, a6⟩ := f2 m z h1
        rw [hval m z f h1 a0]
        refine ⟨?_, a4⟩
        by_cases hz : z.1 = 2
        · have := a2 hz
          rw [sf2 z hz] at a1
          cases a1
          omega
        · exact a3 hz
      · rw [aTau_at h1]
        rw [List.getElem?_append_right (by omega)] at h1
        rcases r1 z (List.mem_of_getElem? h1) with h | ⟨b1, b2, ⟨f, b3⟩, b4, b5⟩
        · exact absurd h.1 h2
        · unfold sval
          rw [if_neg b1, if_neg b2, b3, b4, b5]
          exact oi_le _
  · intro q hq j
    rcases nmA_mem hq with h | ⟨m, z, h1, h2, h3⟩
    · exact u2 q h j
    · rw [h3]
      show z.2.2.2.1 ≤ aTau σ (t.1 ++ t.2.1) e0.1 C L (gE e) (e0.1 + m) j ∧ aTau σ (t.1 ++ t.2.1) e0.1 C L (gE e) (e0.1 + m) j ≤ z.2.2.2.2
      rw [aTau_at h1]
      rcases List.mem_append.mp (List.mem_of_getElem? h1) with h | h
      · obtain ⟨f, a1, _⟩ := hmem1 z h
        rw [sf3 z h2] at a1
        cases a1
      · rcases r1 z h with ⟨b1, i, b2, b3⟩ | b
        · unfold sval
          rw [if_pos b1, b2]
          exact b3 j
        · exact absurd h2 b.1
  · intro f hf
    rcases List.mem_append.mp hf with h | h
    · obtain ⟨m, z, d, a1, a2, a3⟩ := aK2_mem h
      have h0 := sumsE_c hB hV hK g2 m z d a1 a2
      rw [a3]
      rw [lsub_c] at h0 ⊢
      have hd : cF σ d = cF (aTau σ (t.1 ++ t.2.1) e0.1 C L (gE e)) d := cF_ag hag (he d (List.mem_of_getElem? a2))
      have hz := hlc 0 z
      show 0 ≤ cF (aTau σ (t.1 ++ t.2.1) e0.1 C L (gE e)) d - cF (aTau σ (t.1 ++ t.2.1) e0.1 C L (gE e)) (lcb 0 z (nvars t.1 e0.1))
      omega
    · rcases List.mem_append.mp h with h | h
      · obtain ⟨z, h1, h2⟩ := List.mem_map.mp h
        obtain ⟨c1, c2⟩ := cond_tf (lAll_true g1 z h1)
        have := pr2_c hB hV hK c2
        rw [← h2]
        show 0 ≤ cF (aTau σ (t.1 ++ t.2.1) e0.1 C L (gE e)) (lcb z.1 z.2 (nvars t.1 e0.1))
        rw [hlc]
        exact this
      · exact u3 f h
  · intro l hl
    have hl : l ∈ aTO G.1 (repH (t.1 ++ t.2.1) e0.1 C0 0) e0.2.2.2.2.2.2.2.1 t.2.2.2.2.2 := hl
    unfold aTO at hl
    cases hb : t.2.2.2.2.2 with
    | false => rw [hb] at hl; exact u7 l hl
    | true =>
      rw [hb] at hl htf
      simp only [cond_true] at hl
      cases hc : cids (repH (t.1 ++ t.2.1) e0.1 C0 0) G.1 with
      | none => rw [hc] at hl; exact u7 l hl
      | some ds =>
        rw [hc] at hl
        rcases List.mem_cons.mp hl with el | el
        · rw [el]
          have htf : (match cids C G.1 with
            | some cs => tol e.2.2.2.2.2.2.2.1 cs
            | none => false) = true := htf
          cases hcs : cids C G.1 with
          | none => rw [hcs] at htf; cases htf
          | some cs =>
            rw [hcs] at htf
            rw [← hrep] at hc
            exact toldS_map (cids_rep hrep hwu hcs hc) (hT cs (tol_mem htf))
        · exact u7 l el
  · show phi G.2.1 (cH (aTau σ (t.1 ++ t.2.1) e0.1 C L (gE e)) (repH (t.1 ++ t.2.1) e0.1 C0 0)) ≤ cF (aTau σ (t.1 ++ t.2.1) e0.1 C L (gE e)) (repG (t.1 ++ t.2.1) e0.1 (gE e0))
    rw [← hrep, hcH, ← hg]
    unfold repG
    split
    · rename_i i hi
      obtain ⟨m, q, e1, e2, e3, _⟩ := sIdx_c hi
      rw [lvar_c, e1, aTau_at e2]
      unfold sval
      rw [if_neg (by omega), if_pos e3]
      exact hphi
    · rename_i hi
      unfold repG at hg
      rw [hi] at hg
      have hg : gE e = gE e0 := hg
      rw [← cF_ag hag (show wF e0.1 (gE e) by rw [hg]; exact hw0.1.2.2.2.2.2.2.2.2)]
      exact hphi
  · show pmax G.2.1 (repH (t.1 ++ t.2.1) e0.1 C0 0) ≤ G.2.2.1
    rw [← hrep, rep_pmax]
    exact hs.2.2.1
  · have hgo : RP k (cH (aTau σ (t.1 ++ t.2.1) e0.1 C L (gE e)) (repH (t.1 ++ t.2.1) e0.1 C0 0)) pc (cL (aTau σ (t.1 ++ t.2.1) e0.1 C L (gE e)) (repL (t.1 ++ t.2.1) e0.1 L0)) (S.map (cV (aTau σ (t.1 ++ t.2.1) e0.1 C L (gE e)))) (kont (aTau σ (t.1 ++ t.2.1) e0.1 C L (gE e)) Φ fr) := hgo
    rw [← hrep, hcH, ← cS_ag hag hw0.2.2.2.1, ← kont_ag hag Φ hw0.2.2.2.2] at hgo
    show RP k (cH σ C) pc (cL σ L) (S.map (cV σ)) (kont σ Φ fr)
    refine RP_sub ⟨fun j w hj => ?_, fun q hq => ?_, fun q hq => ?_⟩ hgo
    · rw [as_cL] at hj ⊢
      cases htv : xe_as (repL (t.1 ++ t.2.1) e0.1 L0) j with
      | none => rw [htv] at hj; cases hj
      | some tv =>
        rw [htv] at hj
        have hj : cV (aTau σ (t.1 ++ t.2.1) e0.1 C L (gE e)) tv = w := Option.some.inj hj
        obtain ⟨v, h1, h2⟩ := hL j tv htv
        rw [h1, ← hj]
        show some (cV σ v) = some _
        congr 1
        rcases h2 with ⟨i, f, a1, a2, a3⟩ | ⟨a1, a2, a3⟩
        · obtain ⟨m, q, e1, e2, e3, e4, e5⟩ := sIdx_c a1
          rw [a3, a2]
          show Value.int (Int32.ofInt (cF σ f)) = Value.int (Int32.ofInt (cF _ (0, [(i, 1)])))
          rw [lvar_c, e1, aTau_at e2]
          unfold sval
          have hsf : sform C L (gE e) q = some f := by
            unfold sform
            rw [e3, e4]
            show (match xe_as L j with
              | some (.inl f) => some f
              | _ => none) = some f
            rw [h1, a2]
          rw [if_neg (by omega), if_neg (by omega), hsf]
          show _ = Value.int (Int32.ofInt (Int32.ofInt (cF σ f)).toInt)
          rw [oi_of]
        · rw [a2]
          exact cV_ag hag a3
    · obtain ⟨z, _, h2⟩ := List.mem_map.mp hq
      rw [← h2]
      exact cV_cat _ _
    · obtain ⟨z, _, h2⟩ := List.mem_map.mp hq
      rw [← h2]
      exact cV_cat _ _
