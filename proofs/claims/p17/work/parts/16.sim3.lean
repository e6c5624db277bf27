/-! ONE STEP IS RIGHT: fields and rows -/
theorem cH_set (σ : aσ) (C : aH) (p : Nat) (c : aK) : cH σ (C.set p c) = (cH σ C).set p (cK σ c) := by
  unfold cH
  rw [List.map_set]
theorem cH_get {σ : aσ} {C : aH} {p : Nat} {c : aK} (h : xe_nth C p = some c) : xe_nth (cH σ C) p = some (cK σ c) := by rw [nth_cH, h]; rfl
theorem set_w {n : Nat} {C : aH} (h : wH n C) {p : Nat} {c : aK} (hc : wK n c) : wH n (C.set p c) := fun d hd => by
  rcases List.mem_or_eq_of_mem_set hd with e | e
  · exact h d e
  · rw [e]; exact hc
theorem setS_w {n : Nat} {C : List aV} (h : wS n C) {p : Nat} {c : aV} (hc : wV n c) : wS n (C.set p c) := fun d hd => by
  rcases List.mem_or_eq_of_mem_set hd with e | e
  · exact h d e
  · rw [e]; exact hc
theorem plen_set {C : aH} {p : Nat} {c d : aK} (hc : C[p]? = some c) (h : plen [c] 0 = plen [d] 0) (q : Nat) : plen (C.set p d) q = plen C q := by
  unfold plen at h ⊢
  by_cases e : p = q
  · subst e
    have hl : p < C.length := (List.getElem?_eq_some_iff.mp hc).1
    rw [List.getElem?_set_self hl, hc]
    exact h.symm
  · rw [List.getElem?_set_ne e]
theorem pmax_set {PH : List Nat} {C : aH} {p : Nat} {c d : aK} (hc : C[p]? = some c) (h : plen [c] 0 = plen [d] 0) : pmax PH (C.set p d) = pmax PH C := by
  unfold pmax
  congr 1
  exact List.map_congr_left fun q _ => by rw [plen_set hc h]
theorem get_ok {G : aG} {Φ : Option Value → xC → Prop} {σ : aσ} {e : aE} {k pc idx : Nat} {C : aH} {L : aL} {S : List aV} {fr : List aR} {len : Nat} {ss : List aS} (ha : aGet idx e k C (pc + 3) L S fr = some ss) (hsp : xspot k pc = false) (hlk : xe_lk (xm_t (xMT k)) pc = some (.getfield idx, len)) (hw : wfs (e, k, C, pc, L, S, fr)) (hs : satS G σ (e, k, C, pc, L, S, fr)) : Sim G Φ σ (e, k, C, pc, L, S, fr) ss := by
  unfold aGet at ha
  split at ha
  · rename_i p T
    obtain ⟨_, hT⟩ := tail_w hw.2.2.2.1
    split at ha
    · rename_i ci j t hF
      split at ha
      · rename_i cj fs hC
        obtain ⟨hq, ha⟩ := cond_so ha
        split at ha
        · rename_i v hv
          cases ha
          have hK : wK e.1 (.inr (cj, fs)) := nth_w hw.2.1 hC
          have hv2 : v ∈ fs := by rw [xe_nth_eq] at hv; exact List.mem_of_getElem? hv
          refine sim_s hsp hlk hw hs hw.2.2.1 (cons_w (hK v hv2) hT) (fun ih => ?_)
          show xe_get (xm_F (xMT k)) idx (cH σ C) (.ref p :: T.map (cV σ)) (ih k (cH σ C) (pc + 3) (cL σ L)) = _
          unfold xe_get
          simp only [hF, cH_get hC, cK]
          rw [hq]
          simp only [cond_true, nth_cS, hv]
          rfl
        · cases ha
      · cases ha
    · cases ha
  · cases ha
theorem put_ok {G : aG} {Φ : Option Value → xC → Prop} {σ : aσ} {e : aE} {k pc idx : Nat} {C : aH} {L : aL} {S : List aV} {fr : List aR} {len : Nat} {ss : List aS} (ha : aPut idx e k C (pc + 3) L S fr = some ss) (hsp : xspot k pc = false) (hlk : xe_lk (xm_t (xMT k)) pc = some (.putfield idx, len)) (hw : wfs (e, k, C, pc, L, S, fr)) (hs : satS G σ (e, k, C, pc, L, S, fr)) : Sim G Φ σ (e, k, C, pc, L, S, fr) ss := by
  unfold aPut at ha
  split at ha
  · rename_i f p T
    obtain ⟨hf, hT⟩ := tail_w hw.2.2.2.1
    obtain ⟨_, hT⟩ := tail_w hT
    split at ha
    · rename_i ci j t hF
      split at ha
      · rename_i cj fs hC
        obtain ⟨hq, ha⟩ := cond_so ha
        obtain ⟨q1, q2⟩ := cond_tf hq
        obtain ⟨q2, q3⟩ := cond_tf q2
        simp only [xe_set_eq] at ha
        cases ha
        have ec := Nat.eq_of_beq_eq_true q1
        subst ec
        have hK : wK e.1 (.inr (cj, fs)) := nth_w hw.2.1 hC
        have hC2 : C[p]? = some (.inr (cj, fs)) := by rw [← xe_nth_eq]; exact hC
        have hfit : xe_fit t (Int32.ofInt (cF σ f)) = true := by
          rcases cond_tt q3 with h | h
          · unfold xe_fit
            rw [h]
            rfl
          · obtain ⟨h1, h2⟩ := cond_tf h
            obtain ⟨h2, h3⟩ := cond_tf h2
            have a1 := pr0_c (σ := σ) hs.1.1 hs.1.2.1 h2
            have a2 := bhi_c (σ := σ) hs.1.1 hs.1.2.1 f
            have h3 : bhi e.2.1 f ≤ 1 := iLe_le h3
            have a2 : cF σ f ≤ bhi e.2.1 f := a2
            have h4 := nb_01 a1 (by omega)
            unfold xe_fit
            rw [h1, Nat.eq_of_beq_eq_true h1]
            rcases h4 with h4 | h4 <;> rw [h4] <;> rfl
        have e1 : cH σ (C.set p (.inr (cj, fs.set j (.inl f)))) = (cH σ C).set p (.inr (cj, (fs.map (cV σ)).set j (.int (Int32.ofInt (cF σ f))))) := by
          rw [cH_set]
          show (cH σ C).set p (.inr (cj, (fs.set j (.inl f)).map (cV σ))) = _
          rw [List.map_set]
          rfl
        obtain ⟨s0, s1, s2, s3⟩ := hs
        refine Or.inr ⟨_, List.mem_singleton.mpr rfl, σ, fun _ _ => rfl, Nat.le_refl _, ⟨hw.1, set_w hw.2.1 (c := .inr (cj, fs.set j (.inl f))) (setS_w (c := .inl f) hK hf), hw.2.2.1, hT, hw.2.2.2.2⟩, ⟨s0, ?_, ?_, s3⟩, fun g => RP_i (k1 := k) hsp hlk (fun ih => ?_) g⟩
        · show phi G.2.1 (cH σ (C.set p (.inr (cj, fs.set j (.inl f))))) ≤ cF σ e.2.2.2.2.2.2.2.2.2
          rw [cH_set]
          refine Int.le_trans (phi_set (D := 0) ?_ s3) ?_
          · have hl : p < (cH σ C).length := by unfold cH; rw [List.length_map]; exact (List.getElem?_eq_some_iff.mp hC2).1
            rw [List.getElem?_set_self hl]
            have := phiK_pos (cH σ C)[p]?
            show (0 : Int) ≤ _
            omega
          · have : phi G.2.1 (cH σ C) ≤ cF σ e.2.2.2.2.2.2.2.2.2 := s1
            split <;> omega
        · show pmax G.2.1 (C.set p (.inr (cj, fs.set j (.inl f)))) ≤ _
          rw [pmax_set (PH := G.2.1) (d := .inr (cj, fs.set j (.inl f))) hC2 rfl]
          exact s2
        · show xe_put (xm_F (xMT k)) idx (cH σ C) (.int (Int32.ofInt (cF σ f)) :: .ref p :: T.map (cV σ)) (fun C' T => ih k C' (pc + 3) (cL σ L) T) = ih k (cH σ (C.set p (.inr (cj, fs.set j (.inl f))))) (pc + 3) (cL σ L) (T.map (cV σ))
          unfold xe_put
          simp only [hF, cH_get hC, cK]
          rw [q1, hfit, List.length_map, q2]
          simp only [Bool.and_self, cond_true, xe_set_eq]
          rw [e1]
      · cases ha
    · cases ha
  · cases ha
theorem ldf_mem {LD : List (Nat × aF × aF)} {r : Nat} {i f : aF} (h : ldf LD r i = some f) : (r, i, f) ∈ LD := by
  induction LD with
  | nil => cases h
  | cons q t ih =>
    have h : cond (Nat.beq q.1 r) (cond (lEq q.2.1 i) (some q.2.2) (ldf t r i)) (ldf t r i) = some f := h
    cases h1 : Nat.beq q.1 r with
    | true =>
      rw [h1] at h
      cases h2 : lEq q.2.1 i with
      | true =>
        rw [h2] at h
        cases h
        rw [← Nat.eq_of_beq_eq_true h1, ← lEq_eq h2]
        exact List.mem_cons_self
      | false => rw [h2] at h; exact List.mem_cons_of_mem _ (ih h)
    | false => rw [h1] at h; exact List.mem_cons_of_mem _ (ih h)
theorem idx_c {σ : aσ} {V : List (Nat × Int × Int)} {K : List aF} {n : Nat} {i : aF} (hB : aBD σ) (hV : aRG σ V) (hK : aKK σ K) (h : prB V K i 0 (Int.sub (Int.ofNat n) 1) = true) (hi : aMN ≤ cF σ i ∧ cF σ i ≤ aMX) : decide (¬ (Int32.ofInt (cF σ i) < 0 ∨ n ≤ (Int32.ofInt (cF σ i)).toNatClampNeg)) = true ∧ (Int32.ofInt (cF σ i)).toNatClampNeg = (cF σ i).toNat ∧ (cF σ i).toNat < n ∧ 0 ≤ cF σ i := by
  obtain ⟨h1, h2⟩ := prB_c hB hV hK h
  have h2 : cF σ i ≤ (n : Int) - 1 := h2
  have e := nb_clamp h1 hi.2
  refine ⟨decide_eq_true ?_, e, by omega, h1⟩
  rw [e]
  intro hh
  rcases hh with hh | hh
  · exact nb_not_neg h1 hi.2 hh
  · omega
theorem ald_ok {G : aG} {Φ : Option Value → xC → Prop} {σ : aσ} {e : aE} {tag k pc : Nat} {C : aH} {L : aL} {S : List aV} {fr : List aR} {i : Instr} {len : Nat} {ss : List aS} (ha : aAld tag e k C (pc + 1) L S fr = some ss) (hsp : xspot k pc = false) (hlk : xe_lk (xm_t (xMT k)) pc = some (i, len)) (hi : ∀ (ih : xH) (C : xC) (L : xL) (S : List Value), xe_i xMT ih k C pc L S i = xe_ald tag C S (ih k C (pc + 1) L)) (hw : wfs (e, k, C, pc, L, S, fr)) (hs : satS G σ (e, k, C, pc, L, S, fr)) : Sim G Φ σ (e, k, C, pc, L, S, fr) ss := by
  unfold aAld at ha
  split at ha
  · rename_i ix p T
    obtain ⟨hix, hT⟩ := tail_w hw.2.2.2.1
    obtain ⟨_, hT⟩ := tail_w hT
    have hix : wF e.1 ix := hix
    split at ha
    · rename_i t n r hC
      obtain ⟨q1, ha⟩ := cond_so ha
      obtain ⟨q1, q2⟩ := cond_tf q1
      obtain ⟨hn, q2⟩ := cond_tf q2
      have hn := Nat.le_of_ble_eq_true hn
      have hB : aBD σ := hs.1.1
      have hV : aRG σ e.2.1 := hs.1.2.1
      have hK : aKK σ e.2.2.2.1 := hs.1.2.2.2.1
      have hC2 : C[p]? = some (.inl (t, n, r)) := by rw [← xe_nth_eq]; exact hC
      have hir : aMN ≤ cF σ ix ∧ cF σ ix ≤ aMX := by
        obtain ⟨h1, h2⟩ := prB_c hB hV hK q2
        have h2 : cF σ ix ≤ (n : Int) - 1 := h2
        exact ⟨by show -2147483648 ≤ _; omega, by show _ ≤ (2147483647 : Int); omega⟩
      obtain ⟨i1, i2, i3, i4⟩ := idx_c hB hV hK q2 hir
      have hr : r < e.1 := nth_w hw.2.1 hC
      have hst : ∀ ih : xH, xe_i xMT ih k (cH σ C) pc (cL σ L) ((Sum.inl ix :: Sum.inr p :: T).map (cV σ)) i = ih k (cH σ C) (pc + 1) (cL σ L) (.int (Int32.ofInt (σ r (cF σ ix).toNat)) :: T.map (cV σ)) := by
        intro ih
        rw [hi]
        show xe_ald tag (cH σ C) (.int (Int32.ofInt (cF σ ix)) :: .ref p :: T.map (cV σ)) _ = _
        unfold xe_ald
        simp only [cH_get hC, cK]
        rw [q1, i1]
        simp only [Bool.and_self, cond_true, xe_fn_eq, xe_push_eq]
        rw [i2]
      split at ha
      · rename_i f hf
        cases ha
        have hm := ldf_mem hf
        have h1 : σ r (cF σ ix).toNat = cF σ f := hs.1.2.2.2.2.1 _ hm
        refine sim_s hsp hlk hw hs hw.2.2.1 (cons_w (v := .inl f) (hw.1.2.2.2.1 _ hm).2.2 hT) (fun ih => ?_)
        rw [hst ih, h1]
        rfl
      · obtain ⟨nv, V, AR, K, LD, OR, NE, TO, DF, gg⟩ := e
        dsimp only at ha
        rw [nw_eq] at ha
        cases ha
        have hld := ld_up (x := fun _ => (Int32.ofInt (σ r (cF σ ix).toNat)).toInt) hw.1.2.2.2.1 hs.1.2.2.2.2.1
        have hag := aUp_ag σ nv (fun _ => (Int32.ofInt (σ r (cF σ ix).toNat)).toInt)
        have e0 := oi_toInt (hB r (cF σ ix).toNat).1 (hB r (cF σ ix).toNat).2
        have hra := vra_c hB hs.1.2.2.1 r (cF σ ix).toNat
        refine sim_n (x := Int32.ofInt (σ r (cF σ ix).toNat)) hw hs (by rw [e0]; exact hra) hT ⟨fun q hq => ?_, fun q hq => ?_⟩ (or_up hw.1.2.2.2.2.1 hs.1.2.2.2.2.2.1) (fun g => RP_i (k1 := k) hsp hlk hst g)
        · rcases List.mem_cons.mp hq with e | e
          · rw [e]
            show aUp σ nv _ r (cF (aUp σ nv _) ix).toNat = cF (aUp σ nv _) (0, [(nv, 1)])
            rw [lvar_c, aUp_at, ← cF_ag hag hix, ← hag r hr, e0]
          · exact hld.1 q e
        · rcases List.mem_cons.mp hq with e | e
          · rw [e]
            exact ⟨Nat.lt_succ_of_lt hr, wF_le (Nat.le_succ nv) hix, lvar_w (Nat.lt_succ_self nv)⟩
          · exact hld.2 q e
    · cases ha
  · cases ha
