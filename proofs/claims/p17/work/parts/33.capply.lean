/-! THE REFERENCE'S apply(): its contract out of its runs -/
theorem fin_ok {G : aG} {sm : aSm} {σ : aσ} (hG : aGok G) (hr : ∀ q ∈ sm.2.1, aMN ≤ q.1 ∧ q.2 ≤ aMX) : FinOK (aFin G sm) (fun r C' => ∃ τ, InvV G τ ∧ C' = cH τ G.2.2.2.2.2 ∧ frmP sm σ τ G.2.2.2.2.1 ∧ retP sm.2.1 r) G.2.2.2.2.1.length σ := by
  intro e C r τ hf t1 t2 t3 t4 t5 t6
  unfold aFin at hf
  obtain ⟨f1, f2⟩ := cond_tf hf
  obtain ⟨f2, f3⟩ := cond_tf f2
  obtain ⟨v1, v2, v3, v4⟩ := inv_c hG f1 t1
  refine ⟨_, v1, v2.symm, fun i q hi hm => ?_, ?_⟩
  · obtain ⟨a1, a2⟩ := aFrm_c f2 i q hi hm
    rw [Nat.zero_add] at a1 a2
    have hat := aTau_at (σ := τ) (n0 := 0) (C := C) (L := []) (g := (0, [])) hi
    rw [Nat.zero_add] at hat
    have hilt := (List.getElem?_eq_some_iff.mp hi).1
    rw [hat]
    refine ⟨fun e3 => ?_, fun e3 => ?_⟩
    · unfold sval
      rw [if_pos e3, a1 e3]
      exact (t6 i hilt).symm
    · unfold sval
      rw [if_neg e3]
      by_cases e2 : q.1 = 2
      · have h0 : sform C [] (0, []) q = some (0, []) := by unfold sform; rw [e2]; rfl
        rw [a2 e3] at h0
        cases h0
      · rw [if_neg e2, a2 e3]
        show (Int32.ofInt (cF τ (0, [(i, 1)]))).toInt = σ i 0
        rw [lvar_c, oi_toInt (t1.1 i 0).1 (t1.1 i 0).2, t6 i hilt]
  · cases hsr : sm.2.1 with
    | none =>
      rw [hsr] at f3
      cases r with
      | none => rfl
      | some f => cases f3
    | some q =>
      rw [hsr] at f3
      obtain ⟨a, b⟩ := q
      cases r with
      | none => cases f3
      | some f =>
        have f3 : cond (cond (iEq a aMN) (iEq b aMX) false) true (prB e.2.1 e.2.2.2.1 f a b) = true := f3
        refine ⟨Int32.ofInt (cF τ f), rfl, ?_⟩
        rcases cond_tt f3 with f3 | f3
        · obtain ⟨g1, g2⟩ := cond_tf f3
          rw [iEq_eq g1, iEq_eq g2]
          exact oi_le _
        · have g := prB_c t1.1 t1.2.1 t1.2.2.2.1 f3
          have hq := hr (a, b) (by rw [hsr]; rfl)
          have hq1 : aMN ≤ a := hq.1
          have hq2 : b ≤ aMX := hq.2
          rw [oi_toInt (by omega) (by omega)]
          exact g
/-- a valuation with names for the counts and the lengths -/
noncomputable def pσ (σ : aσ) : aσ := fun i => if i < 56 then σ i else if i = 56 then (fun j => cntN (σ 54) (j : Int) (σ 25 0).toNat) else if i < 63 then (fun _ => σ 27 (i - 57)) else if i < 69 then (fun _ => cntN (σ 54) ((i - 63 : Nat) : Int) (σ 25 0).toNat) else fun _ => 0
theorem pσ_lo (σ : aσ) {i : Nat} (h : i < 56) : pσ σ i = σ i := by unfold pσ; rw [if_pos h]
theorem pσ_cn (σ : aσ) : pσ σ 56 = fun j : Nat => cntN (σ 54) (j : Int) (σ 25 0).toNat := by unfold pσ; rw [if_neg (by decide), if_pos rfl]
theorem pσ_l (σ : aσ) {f : Nat} (h : f < 6) : pσ σ (57 + f) = fun _ => σ 27 f := by
  unfold pσ
  rw [if_neg (by omega), if_neg (by omega), if_pos (by omega), show 57 + f - 57 = f by omega]
theorem pσ_c (σ : aσ) {f : Nat} (h : f < 6) : pσ σ (63 + f) = fun _ => cntN (σ 54) (f : Int) (σ 25 0).toNat := by
  unfold pσ
  rw [if_neg (by omega), if_neg (by omega), if_neg (by omega), if_pos (by omega), show 63 + f - 63 = f by omega]
theorem p_cnt (σ : aσ) (h : σ 25 0 ≤ 12) (f : Int) : 0 ≤ cntN (σ 54) f (σ 25 0).toNat ∧ cntN (σ 54) f (σ 25 0).toNat ≤ 12 := by
  have := cntN_c (σ 54) f (σ 25 0).toNat
  omega
theorem pLD_mem {q : Nat × aF × aF} (h : q ∈ pLD) : ∃ f : Nat, f < 6 ∧ (q = ((27, ((f : Int), []), (0, [(57 + f, 1)])) : Nat × aF × aF) ∨ q = ((56, ((f : Int), []), (0, [(63 + f, 1)])) : Nat × aF × aF)) := by
  simp only [pLD, List.mem_cons, List.not_mem_nil, or_false] at h
  rcases h with h | h | h | h | h | h | h | h | h | h | h | h
  · exact ⟨0, by decide, Or.inl h⟩
  · exact ⟨0, by decide, Or.inr h⟩
  · exact ⟨1, by decide, Or.inl h⟩
  · exact ⟨1, by decide, Or.inr h⟩
  · exact ⟨2, by decide, Or.inl h⟩
  · exact ⟨2, by decide, Or.inr h⟩
  · exact ⟨3, by decide, Or.inl h⟩
  · exact ⟨3, by decide, Or.inr h⟩
  · exact ⟨4, by decide, Or.inl h⟩
  · exact ⟨4, by decide, Or.inr h⟩
  · exact ⟨5, by decide, Or.inl h⟩
  · exact ⟨5, by decide, Or.inr h⟩
theorem pV_mem {q : Nat × Int × Int} (h : q ∈ pV) : ∃ f : Nat, f < 6 ∧ (q = (57 + f, 0, 30) ∨ q = (63 + f, 0, 12)) := by
  simp only [pV, List.mem_cons, List.not_mem_nil, or_false] at h
  rcases h with h | h | h | h | h | h | h | h | h | h | h | h
  · exact ⟨0, by decide, Or.inl h⟩
  · exact ⟨1, by decide, Or.inl h⟩
  · exact ⟨2, by decide, Or.inl h⟩
  · exact ⟨3, by decide, Or.inl h⟩
  · exact ⟨4, by decide, Or.inl h⟩
  · exact ⟨5, by decide, Or.inl h⟩
  · exact ⟨0, by decide, Or.inr h⟩
  · exact ⟨1, by decide, Or.inr h⟩
  · exact ⟨2, by decide, Or.inr h⟩
  · exact ⟨3, by decide, Or.inr h⟩
  · exact ⟨4, by decide, Or.inr h⟩
  · exact ⟨5, by decide, Or.inr h⟩
set_option maxHeartbeats 1000000 in
theorem p_run {HN : List (List (Nat × aHn))} {K : List aF} (h : pRun HN K = true) (hKw : ∀ f ∈ K, wF 69 f) {σ : aσ} (hI : InvV aGM_4 σ) (hK : aKK (pσ σ) K) : RP 139 (cH σ aHM) 0 (lv_args 0 [.ref 0]) [] (fun r C' => ∃ τ, InvV aGM_4 τ ∧ C' = cH τ aHM ∧ frmP sm_139_0 σ τ aISM ∧ retP sm_139_0.2.1 r) := by
  obtain ⟨i1, i2, cs, i3, i4⟩ := hI
  have i3 : cids aHM [1] = some cs := i3
  have i2 : slotsP σ aISM := i2
  have hG := gM_4
  have hlen : aISM.length = 56 := by decide +kernel
  have hwH : wH 56 aHM := by have := hG.2.2.1; rw [show aGM_4.2.2.2.2.1.length = 56 from hlen] at this; exact this
  unfold pRun at h
  rw [i3] at h
  dsimp only at h
  simp only [fR_eq, fH_eq, fFs_eq] at h
  have hcw := cids_w hwH i3
  have hag : aAg 56 σ (pσ σ) := fun i hi => (pσ_lo σ hi).symm
  have hs25 : aISM[25]? = some (1, 0, 53, 0, 12) := by decide +kernel
  have hs27 : aISM[27]? = some (3, 2, 0, 0, 30) := by decide +kernel
  have r25 : 0 ≤ σ 25 0 ∧ σ 25 0 ≤ 12 := (i2 25 _ hs25).2 (by decide)
  have r27 : ∀ j, 0 ≤ σ 27 j ∧ σ 27 j ≤ 30 := (i2 27 _ hs27).1 rfl
  have rcn := fun f => p_cnt σ r25.2 f
  have hB0 : aBD (pσ σ) := by
    intro v j
    have z : ∀ x : Int, 0 ≤ x → x ≤ 30 → aMN ≤ x ∧ x ≤ aMX := fun x h1 h2 => ⟨by show -2147483648 ≤ x; omega, by show x ≤ 2147483647; omega⟩
    unfold pσ
    split
    · exact i1 v j
    · split
      · exact z (cntN (σ 54) (j : Int) (σ 25 0).toNat) (rcn (j : Int)).1 (by have := (rcn (j : Int)).2; omega)
      · split
        · exact z _ (r27 _).1 (r27 _).2
        · split
          · exact z (cntN (σ 54) ((v - 63 : Nat) : Int) (σ 25 0).toNat) (rcn ((v - 63 : Nat) : Int)).1 (by have := (rcn ((v - 63 : Nat) : Int)).2; omega)
          · exact z 0 (by omega) (by omega)
  have hw : wfs ((69, pV ++ nmV aISM 0 [], (56, 0, 12) :: nmA aISM 0 [], K, pLD, [], [], [cs], [], (24576, [])), 139, aHM, 0, [(0, .inr 0)], [], []) := by
    refine ⟨⟨fun q hq => ?_, fun q hq => ?_, hKw, fun q hq => ?_, fun f hf => absurd hf List.not_mem_nil, fun f hf => absurd hf List.not_mem_nil, fun l hl => ?_, fun f hf => absurd hf List.not_mem_nil, lcst_w⟩, wH_le (show 56 ≤ 69 by decide) hwH, fun q hq => ?_, fun v hv => absurd hv List.not_mem_nil, fun v hv => absurd hv List.not_mem_nil⟩
    · show q.1 < 69
      rcases List.mem_append.mp hq with h | h
      · obtain ⟨f, hf, e | e⟩ := pV_mem h
        · rw [e]; show 57 + f < 69; omega
        · rw [e]; show 63 + f < 69; omega
      · rcases nmV_mem h with h | ⟨m, z, e1, _, e3⟩
        · exact absurd h List.not_mem_nil
        · have := (List.getElem?_eq_some_iff.mp e1).1
          rw [hlen] at this
          rw [e3]; show 0 + m < 69; omega
    · show q.1 < 69
      rcases List.mem_cons.mp hq with h | h
      · rw [h]; show 56 < 69; omega
      · rcases nmA_mem h with h | ⟨m, z, e1, _, e3⟩
        · exact absurd h List.not_mem_nil
        · have := (List.getElem?_eq_some_iff.mp e1).1
          rw [hlen] at this
          rw [e3]; show 0 + m < 69; omega
    · show q.1 < 69 ∧ wF 69 q.2.1 ∧ wF 69 q.2.2
      obtain ⟨f, hf, e | e⟩ := pLD_mem hq
      · rw [e]; exact ⟨by show 27 < 69; omega, lcst_w, lvar_w (by omega)⟩
      · rw [e]; exact ⟨by show 56 < 69; omega, lcst_w, lvar_w (by omega)⟩
    · show ∀ c ∈ l, c < 69
      rcases List.mem_cons.mp hl with e | e
      · rw [e]; exact fun c hc => Nat.lt_of_lt_of_le (hcw c hc) (by decide)
      · exact absurd e List.not_mem_nil
    · rcases List.mem_cons.mp hq with e | e
      · rw [e]; trivial
      · exact absurd e List.not_mem_nil
  have hs : satS aGM_4 (pσ σ) ((69, pV ++ nmV aISM 0 [], (56, 0, 12) :: nmA aISM 0 [], K, pLD, [], [], [cs], [], (24576, [])), 139, aHM, 0, [(0, .inr 0)], [], []) := by
    refine ⟨⟨hB0, fun q hq => ?_, fun q hq j => ?_, hK, fun q hq => ?_, fun f hf => absurd hf List.not_mem_nil, fun f hf => absurd hf List.not_mem_nil, fun l hl => ?_, fun f hf => absurd hf List.not_mem_nil⟩, ?_, hG.2.2.2.1, hG.2.2.2.2.1⟩
    · rcases List.mem_append.mp hq with h | h
      · obtain ⟨f, hf, e | e⟩ := pV_mem h
        · rw [e]
          show 0 ≤ pσ σ (57 + f) 0 ∧ pσ σ (57 + f) 0 ≤ 30
          rw [pσ_l σ hf]
          exact r27 f
        · rw [e]
          show 0 ≤ pσ σ (63 + f) 0 ∧ pσ σ (63 + f) 0 ≤ 12
          rw [pσ_c σ hf]
          exact rcn _
      · rcases nmV_mem h with h | ⟨m, z, e1, e2, e3⟩
        · exact absurd h List.not_mem_nil
        · have := (List.getElem?_eq_some_iff.mp e1).1
          rw [hlen] at this
          rw [e3]
          show z.2.2.2.1 ≤ pσ σ (0 + m) 0 ∧ pσ σ (0 + m) 0 ≤ z.2.2.2.2
          rw [Nat.zero_add, pσ_lo σ this]
          exact (i2 m z e1).2 e2
    · rcases List.mem_cons.mp hq with h | h
      · rw [h]
        show 0 ≤ pσ σ 56 j ∧ pσ σ 56 j ≤ 12
        rw [pσ_cn]
        exact rcn _
      · rcases nmA_mem h with h | ⟨m, z, e1, e2, e3⟩
        · exact absurd h List.not_mem_nil
        · have := (List.getElem?_eq_some_iff.mp e1).1
          rw [hlen] at this
          rw [e3]
          show z.2.2.2.1 ≤ pσ σ (0 + m) j ∧ pσ σ (0 + m) j ≤ z.2.2.2.2
          rw [Nat.zero_add, pσ_lo σ this]
          exact (i2 m z e1).1 e2 j
    · obtain ⟨f, hf, e | e⟩ := pLD_mem hq
      · rw [e]
        show pσ σ 27 (cF (pσ σ) ((f : Int), [])).toNat = cF (pσ σ) (0, [(57 + f, 1)])
        rw [lcst_c, lvar_c, pσ_l σ hf, pσ_lo σ (by decide)]
        rfl
      · rw [e]
        show pσ σ 56 (cF (pσ σ) ((f : Int), [])).toNat = cF (pσ σ) (0, [(63 + f, 1)])
        rw [lcst_c, lvar_c, pσ_c σ hf, pσ_cn]
        rfl
    · rcases List.mem_cons.mp hl with e | e
      · rw [e]; exact toldS_ag hag hcw i4
      · exact absurd e List.not_mem_nil
    · show phi aGM_4.2.1 (cH (pσ σ) aHM) ≤ cF (pσ σ) (24576, [])
      rw [lcst_c]
      exact Int.le_trans (phi_max _ _ _) hG.2.2.2.1
  have hF : FinOK (aFin aGM_4 sm_139_0) (fun r C' => ∃ τ, InvV aGM_4 τ ∧ C' = cH τ aHM ∧ frmP sm_139_0 σ τ aISM ∧ retP sm_139_0.2.1 r) 69 (pσ σ) := by
    intro e C r τ f1 f2 f3 f4 f5 f6 f7
    exact fin_ok (σ := σ) hG (smOK_of (sm := sm_139_0) (by decide +kernel)).2 e C r τ f1 f2 f3 f4 f5 (by rw [show aGM_4.2.2.2.2.1.length = 56 from hlen]; omega) (fun i hi => by
      rw [show aGM_4.2.2.2.2.1.length = 56 from hlen] at hi
      exact (hag i hi).trans (f7 i (by omega)))
  have hcn : ∀ j : Nat, pσ σ 56 j = cntN (pσ σ 54) (j : Int) (pσ σ 25 0).toNat := fun j => by
    rw [pσ_cn, pσ_lo σ (show 54 < 56 by decide), pσ_lo σ (show 25 < 56 by decide)]
  have hgo := ai_ok (HN := HN) soM_4 hF (fun j s ss ρ hm w1 w2 w3 w4 => mc_ok soM_4 hF hcn (by decide) (by decide) (by decide) hm w1 w2 w3 w4) 20000 [] _ (pσ σ) h hw hs (Nat.le_refl _) (fun _ _ => rfl) (fun q hq => absurd hq List.not_mem_nil)
  have hgo : RP 139 (cH (pσ σ) aHM) 0 (cL (pσ σ) [(0, .inr 0)]) [] (fun r C' => ∃ τ, InvV aGM_4 τ ∧ C' = cH τ aHM ∧ frmP sm_139_0 σ τ aISM ∧ retP sm_139_0.2.1 r) := hgo
  rw [← cH_ag hag hwH] at hgo
  exact hgo
/-- apply() of the reference keeps its contract -/
theorem cn_139_0 : Con aGM_4 139 0 sm_139_0 := by
  intro σ xs hI hx
  have hxs : xs = [] := by
    cases xs with
    | nil => rfl
    | cons x t => cases hx
  subst hxs
  show RP 139 (cH σ aHM) 0 (lv_args 0 [.ref 0]) [] (fun r C' => ∃ τ, InvV aGM_4 τ ∧ C' = cH τ aHM ∧ frmP sm_139_0 σ τ aISM ∧ retP sm_139_0.2.1 r)
  have kv : ∀ (f : Nat), f < 6 → cF (pσ σ) (0, [(57 + f, 1)]) = σ 27 f ∧ cF (pσ σ) (0, [(63 + f, 1)]) = cntN (σ 54) (f : Int) (σ 25 0).toNat := fun f hf => by
    rw [lvar_c, lvar_c, pσ_l σ hf, pσ_c σ hf]
    exact ⟨rfl, rfl⟩
  have neg : ∀ (f : Nat), f < 6 → 30 < σ 27 f + cntN (σ 54) (f : Int) (σ 25 0).toNat → aKK (pσ σ) (pKn f) ∧ ∀ z ∈ pKn f, wF 69 z := fun f hf h => by
    obtain ⟨k1, k2⟩ := kv f hf
    rw [lvar_c] at k1 k2
    refine ⟨fun z hz => ?_, fun z hz => ?_⟩
    · rcases List.mem_cons.mp hz with e | e
      · rw [e]
        show 0 ≤ -31 + (1 * pσ σ (57 + f) 0 + (1 * pσ σ (63 + f) 0 + 0))
        omega
      · exact absurd e List.not_mem_nil
    · rcases List.mem_cons.mp hz with e | e
      · rw [e]
        intro q hq
        simp only [List.mem_cons, List.not_mem_nil, or_false] at hq
        rcases hq with rfl | rfl
        · show 57 + f < 69; omega
        · show 63 + f < 69; omega
      · exact absurd e List.not_mem_nil
  by_cases hQ : ∀ f, f < 6 → σ 27 f + cntN (σ 54) (f : Int) (σ 25 0).toNat ≤ 30
  · have wq : ∀ f, f < 6 → wF 69 (30, [(57 + f, -1), (63 + f, -1)]) := fun f hf q hq => by
      simp only [List.mem_cons, List.not_mem_nil, or_false] at hq
      rcases hq with rfl | rfl
      · show 57 + f < 69; omega
      · show 63 + f < 69; omega
    refine p_run pr_q (fun z hz => ?_) hI (fun z hz => ?_)
    · simp only [pKq, List.mem_cons, List.not_mem_nil, or_false] at hz
      rcases hz with h | h | h | h | h | h
      · rw [h]; exact wq 0 (by decide)
      · rw [h]; exact wq 1 (by decide)
      · rw [h]; exact wq 2 (by decide)
      · rw [h]; exact wq 3 (by decide)
      · rw [h]; exact wq 4 (by decide)
      · rw [h]; exact wq 5 (by decide)
    · have key : ∀ f, f < 6 → 0 ≤ cF (pσ σ) (30, [(57 + f, -1), (63 + f, -1)]) := fun f hf => by
        obtain ⟨k1, k2⟩ := kv f hf
        rw [lvar_c] at k1 k2
        have := hQ f hf
        show 0 ≤ 30 + (-1 * pσ σ (57 + f) 0 + (-1 * pσ σ (63 + f) 0 + 0))
        omega
      simp only [pKq, List.mem_cons, List.not_mem_nil, or_false] at hz
      rcases hz with h | h | h | h | h | h
      · rw [h]; exact key 0 (by decide)
      · rw [h]; exact key 1 (by decide)
      · rw [h]; exact key 2 (by decide)
      · rw [h]; exact key 3 (by decide)
      · rw [h]; exact key 4 (by decide)
      · rw [h]; exact key 5 (by decide)
  · have hex : ∃ f, f < 6 ∧ 30 < σ 27 f + cntN (σ 54) (f : Int) (σ 25 0).toNat := Classical.byContradiction fun hn => hQ fun f hf => Int.not_lt.mp fun h => hn ⟨f, hf, h⟩
    obtain ⟨f, hf, h⟩ := hex
    obtain ⟨n1, n2⟩ := neg f hf h
    rcases (show f = 0 ∨ f = 1 ∨ f = 2 ∨ f = 3 ∨ f = 4 ∨ f = 5 by omega) with rfl | rfl | rfl | rfl | rfl | rfl
    · exact p_run pr_0 n2 hI n1
    · exact p_run pr_1 n2 hI n1
    · exact p_run pr_2 n2 hI n1
    · exact p_run pr_3 n2 hI n1
    · exact p_run pr_4 n2 hI n1
    · exact p_run pr_5 n2 hI n1
