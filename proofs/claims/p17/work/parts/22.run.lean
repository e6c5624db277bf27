/-! THE INTERPRETER IS RIGHT -/
theorem mkT_w {G : aG} {t : aTp} {ents : List aF} {s : aS} (hw : wfs s) (he : ∀ f ∈ ents, wF s.1.1 f) : wfs (mkT G t ents s) := by
  obtain ⟨e, k, C, pc, L, S, fr⟩ := s
  obtain ⟨⟨w1, w2, w3, w4, w5, w6, w7, w8, w9⟩, hC, hL, hS, hR⟩ := hw
  have hle : e.1 ≤ e.1 + (t.1 ++ t.2.1).length := Nat.le_add_right _ _
  have hlt : ∀ (m : Nat) (z : aSl), (t.1 ++ t.2.1)[m]? = some z → e.1 + m < e.1 + (t.1 ++ t.2.1).length := fun m z h => Nat.add_lt_add_left (List.getElem?_eq_some_iff.mp h).1 _
  have hxs : ∀ f ∈ nvars t.1 e.1, wF (e.1 + (t.1 ++ t.2.1).length) f := by
    intro f hf
    obtain ⟨m, hm⟩ := List.mem_iff_getElem?.mp hf
    rw [nvars_get] at hm
    cases hq : t.1[m]? with
    | none => rw [hq] at hm; cases hm
    | some q =>
      rw [hq] at hm
      cases hm
      have := (List.getElem?_eq_some_iff.mp hq).1
      exact lvar_w (by rw [List.length_append]; omega)
  have b : wfe e.1 e := ⟨w1, w2, w3, w4, w5, w6, w7, w8, w9⟩
  obtain ⟨v1, v2, v3, v4, v5, v6, v7, v8, v9⟩ := wfe_le hle b
  refine ⟨⟨fun q hq => ?_, fun q hq => ?_, fun f hf => ?_, v4, v5, v6, fun l hl => ?_, v8, repG_w w9⟩, rep_w hC, repL_w hL, wS_le hle hS, wR_le hle hR⟩
  · rcases nmV_mem hq with h | ⟨m, z, h1, _, h3⟩
    · exact v1 q h
    · rw [h3]; exact hlt m z h1
  · rcases nmA_mem hq with h | ⟨m, z, h1, _, h3⟩
    · exact v2 q h
    · rw [h3]; exact hlt m z h1
  · rcases List.mem_append.mp hf with h | h
    · obtain ⟨m, z, d, a1, a2, a3⟩ := aK2_mem h
      rw [a3]
      exact lsub_w (wF_le hle (he d (List.mem_of_getElem? a2))) (lcb_w hxs 0 z)
    · rcases List.mem_append.mp h with h | h
      · obtain ⟨z, h1, h2⟩ := List.mem_map.mp h
        rw [← h2]
        exact lcb_w hxs z.1 z.2
      · exact v3 f h
  · have hl : l ∈ aTO G.1 (repH (t.1 ++ t.2.1) e.1 C 0) e.2.2.2.2.2.2.2.1 t.2.2.2.2.2 := hl
    unfold aTO at hl
    cases hb : t.2.2.2.2.2 with
    | false => rw [hb] at hl; exact v7 l hl
    | true =>
      rw [hb] at hl
      simp only [cond_true] at hl
      cases hc : cids (repH (t.1 ++ t.2.1) e.1 C 0) G.1 with
      | none => rw [hc] at hl; exact v7 l hl
      | some ds =>
        rw [hc] at hl
        rcases List.mem_cons.mp hl with el | el
        · rw [el]
          exact cids_w (rep_w hC) hc
        · exact v7 l el
noncomputable def aMeas (t : aTp) (n : Nat) : aF := lcb t.2.2.2.2.1.1 t.2.2.2.2.1.2 (nvars t.1 n)
def actOK (G : aG) (Φ : Option Value → xC → Prop) (σ : aσ) (nv : Nat) (q : aAc) : Prop := ∃ (e0 : aE) (C0 : aH) (L0 : aL) (S : List aV) (fr : List aR), q.2.2.1 = mkT G q.2.2.2.1 q.2.2.2.2.2 (e0, q.1, C0, q.2.1, L0, S, fr) ∧ q.2.2.2.2.1 = e0.1 ∧ wfs (e0, q.1, C0, q.2.1, L0, S, fr) ∧ sat σ e0 ∧ (∀ f ∈ q.2.2.2.2.2, wF e0.1 f) ∧ e0.1 + (q.2.2.2.1.1 ++ q.2.2.2.1.2.1).length ≤ nv ∧ ∀ τ, aAg e0.1 σ τ → satS G τ q.2.2.1 → cF τ (aMeas q.2.2.2.1 e0.1) < cF σ (aMeas q.2.2.2.1 e0.1) → goal τ Φ q.2.2.1
theorem aMeas_w (t : aTp) (n : Nat) : wF (n + (t.1 ++ t.2.1).length) (aMeas t n) := by
  refine lcb_w (fun f hf => ?_) _ _
  obtain ⟨m, hm⟩ := List.mem_iff_getElem?.mp hf
  rw [nvars_get] at hm
  cases hq : t.1[m]? with
  | none => rw [hq] at hm; cases hm
  | some q =>
    rw [hq] at hm
    cases hm
    have := (List.getElem?_eq_some_iff.mp hq).1
    exact lvar_w (by rw [List.length_append]; omega)
theorem actOK_ag {G : aG} {Φ : Option Value → xC → Prop} {σ τ : aσ} {n m : Nat} {q : aAc} (h : actOK G Φ σ n q) (hag : aAg n σ τ) (hB : aBD τ) (hnm : n ≤ m) : actOK G Φ τ m q := by
  obtain ⟨e0, C0, L0, S, fr, h1, h2, h3, h4, h5, h6, h7⟩ := h
  have hag0 : aAg e0.1 σ τ := fun i hi => hag i (by omega)
  refine ⟨e0, C0, L0, S, fr, h1, h2, h3, sat_ag hag0 h3.1 hB h4, h5, by omega, fun ρ r1 r2 r3 => h7 ρ (fun i hi => (hag0 i hi).trans (r1 i hi)) r2 ?_⟩
  have : cF σ (aMeas q.2.2.2.1 e0.1) = cF τ (aMeas q.2.2.2.1 e0.1) := cF_ag hag (wF_le h6 (aMeas_w _ _))
  omega
theorem aFind_c {act : List aAc} {k pc : Nat} {fr : List aR} {r : aS × aTp × Nat × List aF} (h : aFind act k pc fr = some r) : ∃ q ∈ act, q.1 = k ∧ q.2.1 = pc ∧ q.2.2.1.2.2.2.2.2.2 = fr ∧ q.2.2 = r := by
  induction act with
  | nil => cases h
  | cons q t ih =>
    have h : cond (Nat.beq q.1 k) (cond (Nat.beq q.2.1 pc) (cond (rEq q.2.2.1.2.2.2.2.2.2 fr) (some q.2.2) (aFind t k pc fr)) (aFind t k pc fr)) (aFind t k pc fr) = some r := h
    have rcc : aFind t k pc fr = some r → ∃ q' ∈ q :: t, q'.1 = k ∧ q'.2.1 = pc ∧ q'.2.2.1.2.2.2.2.2.2 = fr ∧ q'.2.2 = r := fun h => by
      obtain ⟨z, z1, z2⟩ := ih h
      exact ⟨z, List.mem_cons_of_mem _ z1, z2⟩
    cases q1 : Nat.beq q.1 k with
    | false => rw [q1] at h; exact rcc h
    | true =>
      rw [q1] at h
      cases q2 : Nat.beq q.2.1 pc with
      | false => rw [q2] at h; exact rcc h
      | true =>
        rw [q2] at h
        cases q3 : rEq q.2.2.1.2.2.2.2.2.2 fr with
        | false => rw [q3] at h; exact rcc h
        | true =>
          rw [q3] at h
          exact ⟨q, List.mem_cons_self, Nat.eq_of_beq_eq_true q1, Nat.eq_of_beq_eq_true q2, rEq_eq q3, Option.some.inj h⟩
/-- a loop's head, come to for the first time -/
theorem aLoop_eq (G : aG) (t : aTp) (s : aS) : ∃ b : Bool, ∃ ents : List aF, (∀ k, aLoop G t s k = cond b (k (mkT G t ents s) s.1.1 ents) false) ∧ (b = true → ∃ fs, sforms s.1.2.1 s.1.2.2.2.1 s.2.2.1 s.2.2.2.2.1 (gE s.1) t.1 = some fs ∧ ents = t.2.2.2.1.map (fun z => lcb 0 z fs) ∧ sfree s.1.2.2.1 s.2.2.1 s.2.2.2.2.1 (gE s.1) t.2.1 = true ∧ sums s.1.2.1 s.1.2.2.2.1 t ents fs = true ∧ tfit G.1 s.2.2.1 s.1.2.2.2.2.2.2.2.1 t.2.2.2.2.2 = true ∧ pr2 (mkT G t ents s).1.2.1 (mkT G t ents s).1.2.2.2.1 (aMeas t s.1.1) = true) := by
  obtain ⟨⟨nv, V, AR, K, LD, OR, NE, TO, DF, g⟩, m, C, pc, L, S, fr⟩ := s
  cases hfs : sforms V K C L g t.1 with
  | none =>
    refine ⟨false, [], fun k => ?_, fun h => by cases h⟩
    unfold aLoop
    simp only [hfs]
    rfl
  | some fs =>
    refine ⟨cond (cond (sfree AR C L g t.2.1) (cond (sums V K t (t.2.2.2.1.map (fun z => lcb 0 z fs)) fs) (cond (tfit G.1 C TO t.2.2.2.2.2) (lcok t.2.2.2.2.1.2 fs) false) false) false) (pr2 (nmV (t.1 ++ t.2.1) nv V) (aK2 (nvars t.1 nv) t.2.2.2.1 (t.2.2.2.1.map (fun z => lcb 0 z fs)) ++ (t.2.2.1.map (fun z => lcb z.1 z.2 (nvars t.1 nv)) ++ K)) (aMeas t nv)) false, t.2.2.2.1.map (fun z => lcb 0 z fs), fun k => ?_, fun h => ?_⟩
    · unfold aLoop
      simp only [hfs, fFs_eq, fH_eq, fL_eq, fR_eq, fF_eq, xe_fn_eq, lmap_eq]
      cases (cond (sfree AR C L g t.2.1) (cond (sums V K t (t.2.2.2.1.map (fun z => lcb 0 z fs)) fs) (cond (tfit G.1 C TO t.2.2.2.2.2) (lcok t.2.2.2.2.1.2 fs) false) false) false) with
      | true => rfl
      | false => rfl
    · obtain ⟨h1, h2⟩ := cond_tf h
      obtain ⟨h3, h4⟩ := cond_tf h1
      obtain ⟨h4, h5⟩ := cond_tf h4
      obtain ⟨h5, h6⟩ := cond_tf h5
      exact ⟨fs, rfl, rfl, h3, h4, h5, h2⟩
theorem aBack_c {G : aG} {T : aS} {t : aTp} {n0 : Nat} {ents : List aF} {s : aS} (h : aBack G T t n0 ents s = true) : ∃ fs, sforms s.1.2.1 s.1.2.2.2.1 s.2.2.1 s.2.2.2.2.1 (gE s.1) t.1 = some fs ∧ sfree s.1.2.2.1 s.2.2.1 s.2.2.2.2.1 (gE s.1) t.2.1 = true ∧ sums s.1.2.1 s.1.2.2.2.1 t ents fs = true ∧ tfit G.1 s.2.2.1 s.1.2.2.2.2.2.2.2.1 t.2.2.2.2.2 = true ∧ repH (t.1 ++ t.2.1) n0 s.2.2.1 0 = T.2.2.1 ∧ s.2.2.2.2.2.1 = T.2.2.2.2.2.1 ∧ repG (t.1 ++ t.2.1) n0 (gE s.1) = gE T.1 ∧ (∀ j tv, xe_as T.2.2.2.2.1 j = some tv → ∃ v, xe_as s.2.2.2.2.1 j = some v ∧ ((∃ (i : Nat) (f : aF), sIdx (t.1 ++ t.2.1) 0 j 0 n0 = some i ∧ v = .inl f ∧ tv = .inl (0, [(i, 1)])) ∨ (sIdx (t.1 ++ t.2.1) 0 j 0 n0 = none ∧ tv = v))) ∧ pr2 s.1.2.1 s.1.2.2.2.1 (lsub (lsub (aMeas t n0) (lcb t.2.2.2.2.1.1 t.2.2.2.2.1.2 fs)) (1, [])) = true := by
  obtain ⟨⟨nv, V, AR, K, LD, OR, NE, TO, DF, g⟩, m, C, pc, L, S, fr⟩ := s
  obtain ⟨⟨nvT, VT, ART, KT, LDT, ORT, NET, TOT, DFT, gT⟩, mT, CT, pcT, LT, ST, frT⟩ := T
  unfold aBack at h
  dsimp only at h
  cases hfs : sforms V K C L g t.1 with
  | none => rw [hfs] at h; cases h
  | some fs =>
    rw [hfs] at h
    dsimp only at h
    obtain ⟨h1, h⟩ := cond_tf h
    obtain ⟨h2, h⟩ := cond_tf h
    obtain ⟨h3, h⟩ := cond_tf h
    obtain ⟨h4, h⟩ := cond_tf h
    obtain ⟨h5, h⟩ := cond_tf h
    obtain ⟨h6, h⟩ := cond_tf h
    obtain ⟨h7, h8⟩ := cond_tf h
    refine ⟨fs, rfl, h1, h2, h3, hEq_eq h4, vsEq_eq h5, lEq_eq h6, fun j tv htv => ?_, h8⟩
    have h9 := lAll_true h7 _ (xe_as_mem htv)
    dsimp only at h9
    show ∃ v, xe_as L j = some v ∧ _
    cases hv : xe_as L j with
    | none => rw [hv] at h9; cases h9
    | some v =>
      rw [hv] at h9
      dsimp only at h9
      refine ⟨v, rfl, ?_⟩
      cases hi : sIdx (t.1 ++ t.2.1) 0 j 0 n0 with
      | some i =>
        rw [hi] at h9
        dsimp only at h9
        cases v with
        | inl f => exact Or.inl ⟨i, f, rfl, rfl, vEq_eq h9⟩
        | inr f => cases h9
      | none =>
        rw [hi] at h9
        exact Or.inr ⟨rfl, vEq_eq h9⟩
theorem lAllI_true {α : Type} {p : Nat → α → Bool} {l : List α} {n : Nat} (h : lAllI p l n = true) : ∀ (m : Nat) (q : α), l[m]? = some q → p (n + m) q = true := by
  induction l generalizing n with
  | nil => intro m q hq; cases hq
  | cons z t ih =>
    obtain ⟨h1, h2⟩ := cond_tf (show cond (p n z) (lAllI p t (n + 1)) false = true from h)
    intro m q hq
    cases m with
    | zero => cases hq; exact h1
    | succ m =>
      have := ih h2 m q hq
      rwa [show n + 1 + m = n + (m + 1) by omega] at this
theorem lAllI_of {α : Type} {p : Nat → α → Bool} {l : List α} {n : Nat} (h : ∀ (m : Nat) (q : α), l[m]? = some q → p (n + m) q = true) : lAllI p l n = true := by
  induction l generalizing n with
  | nil => rfl
  | cons z t ih =>
    show cond (p n z) (lAllI p t (n + 1)) false = true
    rw [show p n z = true from h 0 z rfl]
    exact ih (fun m q hq => by rw [show n + 1 + m = n + (m + 1) by omega]; exact h (m + 1) q hq)
theorem go_ok {G : aG} {FIN : aE → aH → Option aF → Bool} {Φ : Option Value → xC → Prop} {σ σ0 : aσ} {n0 : Nat} {ih : List aAc → aS → Bool} {act : List aAc} {s : aS} (hSM : SumOK G) (hF : FinOK FIN Φ n0 σ0) (IH : ∀ (act : List aAc) (s : aS) (σ : aσ), ih act s = true → wfs s → satS G σ s → n0 ≤ s.1.1 → aAg n0 σ0 σ → (∀ q ∈ act, actOK G Φ σ s.1.1 q) → goal σ Φ s) (h : aGo G FIN ih act s = true) (hw : wfs s) (hs : satS G σ s) (hn : n0 ≤ s.1.1) (h0 : aAg n0 σ0 σ) (hact : ∀ q ∈ act, actOK G Φ σ s.1.1 q) : goal σ Φ s := by
  unfold aGo at h
  split at h
  · cases h
  · rename_i ss hss
    rcases aStep_ok hss hSM hF hn h0 hw hs with hg | ⟨s', hs', τ, a1, a2, a3, a4, a5⟩
    · exact hg
    · exact a5 (IH act s' τ (lAll_true h s' hs') a3 a4 (Nat.le_trans hn a2) (fun i hi => (h0 i hi).trans (a1 i (by omega))) (fun q hq => actOK_ag (hact q hq) a1 a4.1.1 a2))
set_option maxHeartbeats 1000000 in
theorem ai_ok {G : aG} {FIN : aE → aH → Option aF → Bool} {Φ : Option Value → xC → Prop} {σ0 : aσ} {n0 : Nat} {HN : List (List (Nat × aHn))} {MAC : Nat → aS → Option (List aS)} (hSM : SumOK G) (hF : FinOK FIN Φ n0 σ0) (hM : ∀ (j : Nat) (s : aS) (ss : List aS) (σ : aσ), MAC j s = some ss → wfs s → satS G σ s → n0 ≤ s.1.1 → aAg n0 σ0 σ → Sim G Φ σ s ss) (n : Nat) : ∀ (act : List aAc) (s : aS) (σ : aσ), ai G FIN HN MAC n none act s = true → wfs s → satS G σ s → n0 ≤ s.1.1 → aAg n0 σ0 σ → (∀ q ∈ act, actOK G Φ σ s.1.1 q) → goal σ Φ s := by
  induction n with
  | zero => intro act s σ h; cases h
  | succ n IH =>
    intro act s σ h hw hs hn h0 hact
    obtain ⟨e, k, C, pc, L, S, fr⟩ := s
    have h : ai_b G FIN HN MAC (ai G FIN HN MAC n) none act (e, k, C, pc, L, S, fr) = true := h
    unfold ai_b at h
    dsimp only at h
    split at h
    · exact go_ok hSM hF IH h hw hs hn h0 hact
    · -- a told INSTRUCTION
      rename_i j hj
      cases hjj : Nat.ble 100 j with
      | true =>
        rw [hjj] at h
        simp only [cond_true] at h
        cases hmm : MAC j (e, k, C, pc, L, S, fr) with
        | none => rw [hmm] at h; cases h
        | some ss =>
          rw [hmm] at h
          rcases hM j _ ss σ hmm hw hs hn h0 with hg | ⟨s', hs', τ, a1, a2, a3, a4, a5⟩
          · exact hg
          · refine a5 (IH _ s' τ (lAll_true h s' hs') a3 a4 (Nat.le_trans hn a2) (fun i hi => (h0 i hi).trans (a1 i (Nat.lt_of_lt_of_le hi hn))) (fun q hq => ?_))
            cases hc : Nat.ble 200 j with
            | true => rw [hc] at hq; exact absurd hq List.not_mem_nil
            | false => rw [hc] at hq; exact actOK_ag (hact q hq) a1 a4.1.1 a2
      | false =>
      rw [hjj] at h
      simp only [cond_false] at h
      split at h
      · rename_i f hf
        split at h
        · rename_i cs hcs
          obtain ⟨q1, h⟩ := cond_tf h
          obtain ⟨q1, q2⟩ := cond_tf q1
          have hB : aBD σ := hs.1.1
          have hcw := cids_w hw.2.1 hcs
          have hfw : wF e.1 f := as_w hw.2.2.1 hf
          obtain ⟨q, op, xs, b1, b2, b3, b4, b5⟩ := told_c (f := f) (hs.1.2.2.2.2.2.2.2.1 cs (tol_mem q1)) (tat_c hB hs.1.2.1 hs.1.2.2.2.1 q2)
          obtain ⟨m, hm⟩ := List.mem_iff_getElem?.mp b1
          have h1 := lAllI_true h m q hm
          have h1 : tcase e (tkeys cs f) q (fun e1 => aGo G FIN (ai G FIN HN MAC n none) act (e1, k, C, pc, L, S, fr)) = true := h1
          obtain ⟨e', τ, c1, c2, c3, c4, c5, c6⟩ := tcase_c hs.1 hw.1 (tkeys_w hcw hfw) b2 (aTL_bd b1 b4) b3 b4 b5 (fun e1 => aGo G FIN (ai G FIN HN MAC n none) act (e1, k, C, pc, L, S, fr))
          rw [c1] at h1
          have hw' : wfs (e', k, C, pc, L, S, fr) := ⟨c5, wH_le c2 hw.2.1, wL_le c2 hw.2.2.1, wS_le c2 hw.2.2.2.1, wR_le c2 hw.2.2.2.2⟩
          have hs' : satS G τ (e', k, C, pc, L, S, fr) := by
            refine ⟨c4, ?_, hs.2.2⟩
            show phi G.2.1 (cH τ C) ≤ cF τ (gE e')
            rw [← cH_ag c3 hw.2.1, c6, ← cF_ag c3 hw.1.2.2.2.2.2.2.2.2]
            exact hs.2.1
          have hg := go_ok (σ := τ) hSM hF IH h1 hw' hs' (Nat.le_trans hn c2) (fun i hi => (h0 i hi).trans (c3 i (by have : n0 ≤ e.1 := hn; omega))) (fun q hq => actOK_ag (hact q hq) c3 c4.1 c2)
          have hg : RP k (cH τ C) pc (cL τ L) (S.map (cV τ)) (kont τ Φ fr) := hg
          rw [← cH_ag c3 hw.2.1, ← cL_ag c3 hw.2.2.1, ← cS_ag c3 hw.2.2.2.1, ← kont_ag c3 Φ hw.2.2.2.2] at hg
          exact hg
        · cases h
      · cases h
    · -- an INSTRUCTION was put
      split at h
      · rename_i e1 he1
        obtain ⟨a1, a2, a3, a4⟩ := retold_c he1 hs.1 hw.1 hw.2.1
        have hw' : wfs (e1, k, C, pc, L, S, fr) := by
          unfold wfs
          rw [show (e1, k, C, pc, L, S, fr).1.1 = e.1 from a3]
          exact ⟨a2, hw.2⟩
        have hs' : satS G σ (e1, k, C, pc, L, S, fr) := by
          refine ⟨a1, ?_, hs.2.2⟩
          show phi G.2.1 (cH σ C) ≤ cF σ (gE e1)
          rw [a4]
          exact hs.2.1
        have hg := go_ok (s := (e1, k, C, pc, L, S, fr)) (σ := σ) hSM hF IH h hw' hs' (by show n0 ≤ e1.1; rw [a3]; exact hn) h0 (fun q hq => by
          show actOK G Φ σ e1.1 q
          rw [a3]
          exact hact q hq)
        exact hg
      · cases h
    · -- a loop's head
      rename_i ts hts
      split at h
      · -- come back
        rename_i T t m0 ents hfd
        obtain ⟨q, q1, q2, q3, q4, q5⟩ := aFind_c hfd
        obtain ⟨e0, C0, L0, S0, fr0, b1, b2, b3, b4, b5, b6, b7⟩ := hact q q1
        obtain ⟨qk, qpc, qT, qt, qn, qe⟩ := q
        dsimp only at q2 q3 q4 b1 b2 b3 b5 b6 b7
        cases q5
        subst q2; subst q3; subst b2
        obtain ⟨fs, c1, c2, c3, c4, c5, c6, c7, c8, c9⟩ := aBack_c h
        have hST : S = S0 := by rw [b1] at c6; exact c6
        have hFR : fr0 = fr := by rw [b1] at q4; exact q4
        subst hST; subst hFR
        rw [b1] at c5 c7 c8
        obtain ⟨d1, d2, d3⟩ := fit_c (Φ := Φ) (σ := σ) (t := t) (ents := ents) (e0 := e0) (e := e) (k := qk) (pc := qpc) (C0 := C0) (C := C) (L0 := L0) (L := L) (S := S) (fr := fr0) (fs := fs) b3 b4 hs b5 c1 c2 c3 c4 c5 c7 (fun j tv htv => by
          obtain ⟨v, v1, v2⟩ := c8 j tv htv
          refine ⟨v, v1, ?_⟩
          rcases v2 with v2 | ⟨v2, v3⟩
          · exact Or.inl v2
          · refine Or.inr ⟨v2, v3, ?_⟩
            have htv : xe_as (repL (t.1 ++ t.2.1) e0.1 L0) j = some tv := htv
            rw [as_repL, v2] at htv
            cases h0 : xe_as L0 j with
            | none => rw [h0] at htv; cases htv
            | some w =>
              rw [h0] at htv
              have htv : w = tv := Option.some.inj htv
              rw [← v3, ← htv]
              exact as_w b3.2.2.1 h0)
        refine d2 ?_
        rw [← b1]
        refine b7 _ (aTau_ag _ _ _ _ _ _) (by rw [b1]; exact d1) ?_
        have := pr2_c hs.1.1 hs.1.2.1 hs.1.2.2.2.1 c9
        rw [lsub_c, lsub_c, lcst_c] at this
        have e1 := d3 t.2.2.2.2.1.1 t.2.2.2.2.1.2
        show cF _ (aMeas t e0.1) < cF σ (aMeas t e0.1)
        have e2 : cF (aTau σ (t.1 ++ t.2.1) e0.1 C L (gE e)) (aMeas t e0.1) = cF σ (lcb t.2.2.2.2.1.1 t.2.2.2.2.1.2 fs) := e1
        rw [e2]
        omega
      · -- the first time
        rename_i hfd
        split at h
        · rename_i t ht
          obtain ⟨b, ents, l1, l2⟩ := aLoop_eq G t (e, k, C, pc, L, S, fr)
          rw [l1] at h
          obtain ⟨hb, h⟩ := cond_tf h
          obtain ⟨fs, c1, c2, c3, c4, c5, c6⟩ := l2 hb
          have hw0 : wfe e.1 e := hw.1
          have he : ∀ f ∈ ents, wF e.1 f := by
            rw [c2]
            intro f hf
            obtain ⟨z, _, z2⟩ := List.mem_map.mp hf
            rw [← z2]
            exact lcb_w (sforms_w hw.2.1 hw.2.2.1 hw.1.2.2.2.2.2.2.2.2 c1) 0 z
          have hwT := mkT_w (G := G) (t := t) hw he
          have hTn : (mkT G t ents (e, k, C, pc, L, S, fr)).1.1 = e.1 + (t.1 ++ t.2.1).length := rfl
          -- the loop, by its measure
          have key : ∀ (b : Nat) (τ : aσ), aAg e.1 σ τ → satS G τ (mkT G t ents (e, k, C, pc, L, S, fr)) → cF τ (aMeas t e.1) < (b : Int) → goal τ Φ (mkT G t ents (e, k, C, pc, L, S, fr)) := by
            intro b
            induction b with
            | zero =>
              intro τ t1 t2 t3
              have := pr2_c t2.1.1 t2.1.2.1 t2.1.2.2.2.1 c6
              have this : 0 ≤ cF τ (aMeas t e.1) := this
              have t3 : cF τ (aMeas t e.1) < 0 := t3
              omega
            | succ b ihb =>
              intro τ t1 t2 t3
              refine go_ok hSM hF IH h hwT t2 (by rw [hTn]; have : n0 ≤ e.1 := hn; omega) (fun i hi => (h0 i hi).trans (t1 i (by have : n0 ≤ e.1 := hn; omega))) (fun q hq => ?_)
              rcases List.mem_cons.mp hq with eq | eq
              · rw [eq]
                refine ⟨e, C, L, S, fr, rfl, rfl, hw, sat_ag t1 hw0 t2.1.1 hs.1, he, Nat.le_refl _, fun ρ r1 r2 r3 => ihb ρ (fun i hi => (t1 i hi).trans (r1 i hi)) r2 ?_⟩
                have r3 : cF ρ (aMeas t e.1) < cF τ (aMeas t e.1) := r3
                have t3 : cF τ (aMeas t e.1) < (b : Int) + 1 := t3
                omega
              · exact actOK_ag (hact q eq) t1 t2.1.1 (by rw [hTn]; exact Nat.le_add_right _ _)
          obtain ⟨d1, d2, d3⟩ := fit_c (Φ := Φ) (σ := σ) (t := t) (ents := ents) (e0 := e) (e := e) (k := k) (pc := pc) (C0 := C) (C := C) (L0 := L) (L := L) (S := S) (fr := fr) (fs := fs) hw hs.1 hs he c1 c3 c4 c5 rfl rfl (fun j tv htv => by
            rw [as_repL] at htv
            cases h0 : xe_as L j with
            | none => rw [h0] at htv; cases htv
            | some w =>
              rw [h0] at htv
              refine ⟨w, rfl, ?_⟩
              cases hi : sIdx (t.1 ++ t.2.1) 0 j 0 e.1 with
              | none =>
                rw [hi] at htv
                have htv : w = tv := Option.some.inj htv
                exact Or.inr ⟨rfl, htv.symm, as_w hw.2.2.1 h0⟩
              | some i =>
                rw [hi] at htv
                have htv2 : (.inl (0, [(i, 1)]) : aV) = tv := Option.some.inj htv
                obtain ⟨m, q, e1, e2, e3, e4, e5⟩ := sIdx_c hi
                have hsf : ∃ f, sform C L (gE e) q = some f := by
                  rcases List.mem_append.mp (List.mem_of_getElem? e2) with hm | hm
                  · obtain ⟨mm, hmm⟩ := List.mem_iff_getElem?.mp hm
                    obtain ⟨f, _, f1, _⟩ := (sforms_c hs.1.1 hs.1.2.1 hs.1.2.2.2.1 c1).2 mm q hmm
                    exact ⟨f, f1⟩
                  · have h9 := lAll_true c3 q hm
                    dsimp only at h9
                    rw [e3] at h9
                    have h9 : (match sform C L (gE e) q with
                      | some _ => cond (iEq q.2.2.2.1 aMN) (iEq q.2.2.2.2 aMX) false
                      | none => false) = true := h9
                    cases hsf : sform C L (gE e) q with
                    | none => rw [hsf] at h9; cases h9
                    | some f => exact ⟨f, rfl⟩
                obtain ⟨f, hsf⟩ := hsf
                unfold sform at hsf
                rw [e3, e4] at hsf
                have hsf : (match xe_as L j with
                  | some (.inl f) => some f
                  | _ => none) = some f := hsf
                rw [h0] at hsf
                cases w with
                | inl g => exact Or.inl ⟨i, g, rfl, rfl, htv2.symm⟩
                | inr g => cases hsf)
          refine d2 (key ((cF (aTau σ (t.1 ++ t.2.1) e.1 C L (gE e)) (aMeas t e.1)).toNat + 1) _ (aTau_ag _ _ _ _ _ _) d1 ?_)
          omega
        · cases h
