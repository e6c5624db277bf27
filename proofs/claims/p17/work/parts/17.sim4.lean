/-! ONE STEP IS RIGHT: stores, the measure -/
/-- a new row at a place -/
theorem sim_a {G : aG} {Φ : Option Value → xC → Prop} {σ : aσ} {nv : Nat} {V AR : List (Nat × Int × Int)} {K : List aF} {LD OR : List (Nat × aF × aF)} {NE : List aF} {TO : List (List Nat)} {DF : List (Nat × Nat × aF × aF)} {g : aF} {k pc pc1 : Nat} {C : aH} {L : aL} {S T : List aV} {fr : List aR} {lo hi : Int} {LD1 : List (Nat × aF × aF)} {DF1 : List (Nat × Nat × aF × aF)} {g1 : aF} {y : Nat → Int} {p t n r : Nat} (hw : wfs ((nv, V, AR, K, LD, OR, NE, TO, DF, g), k, C, pc, L, S, fr)) (hs : satS G σ ((nv, V, AR, K, LD, OR, NE, TO, DF, g), k, C, pc, L, S, fr)) (hC : C[p]? = some (.inl (t, n, r))) (hy : ∀ j, lo ≤ y j ∧ y j ≤ hi) (hy2 : ∀ j, aMN ≤ y j ∧ y j ≤ aMX) (hT : wS nv T) (hg1 : wF nv g1)
    (hLD : aLDs (aUp σ nv y) LD1 ∧ ∀ q ∈ LD1, q.1 < nv + 1 ∧ wF (nv + 1) q.2.1 ∧ wF (nv + 1) q.2.2) (hDF : aDFs (aUp σ nv y) DF1 ∧ ∀ q ∈ DF1, q.1 < nv + 1 ∧ q.2.1 < nv + 1 ∧ wF (nv + 1) q.2.2.1 ∧ wF (nv + 1) q.2.2.2)
    (hphi : phi G.2.1 ((cH σ C).set p (.inl (t, n, .inl (fun j => Int32.ofInt (y j))))) ≤ cF σ g1)
    (hgo : RP k ((cH σ C).set p (.inl (t, n, .inl (fun j => Int32.ofInt (y j))))) pc1 (cL σ L) (T.map (cV σ)) (kont σ Φ fr) → goal σ Φ ((nv, V, AR, K, LD, OR, NE, TO, DF, g), k, C, pc, L, S, fr)) : Sim G Φ σ ((nv, V, AR, K, LD, OR, NE, TO, DF, g), k, C, pc, L, S, fr) [((nv + 1, V, (nv, lo, hi) :: AR, K, LD1, OR, NE, TO, DF1, g1), k, C.set p (.inl (t, n, nv)), pc1, L, T, fr)] := by
  obtain ⟨w1, w2, w3, w4, w5⟩ := hw
  obtain ⟨s1, s2, s3, s4⟩ := hs
  have w1 : wfe nv (nv, V, AR, K, LD, OR, NE, TO, DF, g) := w1
  have w2 : wH nv C := w2
  have w3 : wL nv L := w3
  have w5 : wR nv fr := w5
  have hle := Nat.le_succ nv
  obtain ⟨a1, a2⟩ := nwA_sat s1 w1 hy hy2
  have hag := aUp_ag σ nv y
  obtain ⟨t0, t1, t2, t3, t4, t5, t6, t7, t8⟩ := a1
  obtain ⟨u1, u2, u3, u4, u5, u6, u7, u8, u9⟩ := a2
  have eH : cH (aUp σ nv y) (C.set p (.inl (t, n, nv))) = (cH σ C).set p (.inl (t, n, .inl (fun j => Int32.ofInt (y j)))) := by
    rw [cH_set, ← cH_ag hag w2]
    show (cH σ C).set p (.inl (t, n, .inl (fun j => Int32.ofInt (aUp σ nv y nv j)))) = _
    rw [aUp_at]
  refine Or.inr ⟨_, List.mem_singleton.mpr rfl, aUp σ nv y, hag, hle, ⟨⟨u1, u2, u3, hLD.2, u5, u6, u7, hDF.2, wF_le hle hg1⟩, set_w (wH_le hle w2) (c := .inl (t, n, nv)) (Nat.lt_succ_self nv), wL_le hle w3, wS_le hle hT, wR_le hle w5⟩, ⟨⟨t0, t1, t2, t3, hLD.1, t5, t6, t7, hDF.1⟩, ?_, ?_, s4⟩, fun h => hgo ?_⟩
  · show phi G.2.1 (cH (aUp σ nv y) (C.set p (.inl (t, n, nv)))) ≤ cF (aUp σ nv y) g1
    rw [eH, ← cF_ag hag hg1]
    exact hphi
  · show pmax G.2.1 (C.set p (.inl (t, n, nv))) ≤ _
    rw [pmax_set (PH := G.2.1) (d := .inl (t, n, nv)) hC rfl]
    exact s3
  · have h : RP k (cH (aUp σ nv y) (C.set p (.inl (t, n, nv)))) pc1 (cL (aUp σ nv y) L) (T.map (cV (aUp σ nv y))) (kont (aUp σ nv y) Φ fr) := h
    rw [eH, ← cL_ag hag w3, ← cS_ag hag hT, ← kont_ag hag Φ w5] at h
    exact h
theorem df_up {σ : aσ} {n : Nat} {x : Nat → Int} {l : List (Nat × Nat × aF × aF)} (w : ∀ q ∈ l, q.1 < n ∧ q.2.1 < n ∧ wF n q.2.2.1 ∧ wF n q.2.2.2) (h : aDFs σ l) : aDFs (aUp σ n x) l ∧ ∀ q ∈ l, q.1 < n + 1 ∧ q.2.1 < n + 1 ∧ wF (n + 1) q.2.2.1 ∧ wF (n + 1) q.2.2.2 := by
  have hag := aUp_ag σ n x
  exact ⟨fun q hq => by rw [← cF_ag hag (w q hq).2.2.1, ← cF_ag hag (w q hq).2.2.2, ← hag q.1 (w q hq).1, ← hag q.2.1 (w q hq).2.1]; exact h q hq, fun q hq => ⟨Nat.lt_succ_of_lt (w q hq).1, Nat.lt_succ_of_lt (w q hq).2.1, wF_le (Nat.le_succ n) (w q hq).2.2.1, wF_le (Nat.le_succ n) (w q hq).2.2.2⟩⟩
theorem zb_10 : zb 1 32 + 1 = zb 0 32 := by decide
/-- the measure behind a store -/
theorem aMs_c {σ : aσ} {V AR : List (Nat × Int × Int)} {OR : List (Nat × aF × aF)} {NE : List aF} {PM : Int} {g : aF} {r : Nat} {m : Option aF} {v : aF} {n : Nat} {x : Int} (hB : aBD σ) (hV : aRG σ V) (hA : aRA σ AR) (hO : aORs σ OR) (hN : aNEs σ NE) (hx : ∃ j, x = σ r j) (hm : ∀ f, m = some f → x = cF σ f) (hg : wF n g) : (aMs V AR OR NE PM g r m v = (PM, []) ∨ zb (Int32.ofInt (cF σ v)) 32 + cF σ g ≤ zb (Int32.ofInt x) 32 + cF σ (aMs V AR OR NE PM g r m v)) ∧ wF n (aMs V AR OR NE PM g r m v) := by
  have key : ∀ b : Bool, lEq v (1, []) = b → ((cond b (match vrg AR r with
    | (a, b) => cond (cond (iLe 0 a) (iLe b 1) false) g (PM, [])) (PM, []) : aF) = (PM, []) ∨ zb (Int32.ofInt (cF σ v)) 32 + cF σ g ≤ zb (Int32.ofInt x) 32 + cF σ (cond b (match vrg AR r with
    | (a, b) => cond (cond (iLe 0 a) (iLe b 1) false) g (PM, [])) (PM, []) : aF)) ∧ wF n (cond b (match vrg AR r with
    | (a, b) => cond (cond (iLe 0 a) (iLe b 1) false) g (PM, [])) (PM, []) : aF) := by
    intro b hb
    cases b with
    | false => exact ⟨Or.inl rfl, lcst_w⟩
    | true =>
      have e := lEq_eq hb
      simp only [cond_true]
      cases hq : (cond (iLe 0 (vrg AR r).1) (iLe (vrg AR r).2 1) false) with
      | false => exact ⟨Or.inl rfl, lcst_w⟩
      | true =>
        refine ⟨Or.inr ?_, hg⟩
        obtain ⟨h1, h2⟩ := cond_tf hq
        have h1 := iLe_le h1
        have h2 := iLe_le h2
        obtain ⟨j, hj⟩ := hx
        have h3 := vra_c hB hA r j
        rw [e, lcst_c]
        show zb (Int32.ofInt 1) 32 + cF σ g ≤ zb (Int32.ofInt x) 32 + cF σ g
        have z := zb_10
        rcases (show x = 0 ∨ x = 1 by omega) with e0 | e0
        · rw [e0]
          have : zb (Int32.ofInt 1) 32 = zb 1 32 := rfl
          have : zb (Int32.ofInt 0) 32 = zb 0 32 := rfl
          omega
        · rw [e0]
          exact Int.le_refl _
  unfold aMs
  split
  · rename_i m
    have hxm := hm m rfl
    cases q1 : (lAny (fun (q : Nat × aF × aF) => cond (lEq v (0, [(q.1, 1)])) (lEq q.2.1 m) false) OR) with
    | true =>
      obtain ⟨q, h1, h2⟩ := lAny_true q1
      obtain ⟨h2, h3⟩ := cond_tf h2
      have h2 := lEq_eq h2
      have h3 := lEq_eq h3
      have h4 := hO q h1
      rw [h3] at h4
      have hv : cF σ v = σ q.1 0 := by rw [h2, lvar_c]
      rw [← hv, ← hxm] at h4
      have hz := zb_or (Int32.ofInt x) (Int32.ofInt (cF σ q.2.2)) 32
      rw [← h4] at hz
      simp only [cond_true]
      cases q2 : (lAny (fun d => cond (lEq d (lsub v m)) true (lEq d (lsub m v))) NE) with
      | true =>
        obtain ⟨d, d1, d2⟩ := lAny_true q2
        have d3 := hN d d1
        have hne : cF σ v ≠ x := by
          rw [hxm]
          rcases cond_tt d2 with d2 | d2
          · rw [lEq_eq d2, lsub_c] at d3
            omega
          · rw [lEq_eq d2, lsub_c] at d3
            omega
        obtain ⟨j, hj⟩ := hx
        have hne2 : Int32.ofInt (cF σ v) ≠ Int32.ofInt x := fun h => hne (oi_inj (by rw [hv]; exact hB q.1 0) (by rw [hj]; exact hB r j) h)
        have := hz.2 (zb_ne hne2)
        refine ⟨Or.inr ?_, ladd_w hg lcst_w⟩
        show _ ≤ _ + cF σ (ladd g (-1, []))
        rw [ladd_c, lcst_c]
        omega
      | false =>
        refine ⟨Or.inr ?_, hg⟩
        show _ ≤ _ + cF σ g
        have := hz.1
        omega
    | false =>
      simp only [cond_false]
      cases q2 : lEq v (1, []) with
      | false => exact ⟨Or.inl rfl, lcst_w⟩
      | true =>
        simp only [cond_true]
        cases q3 : (cond (iEq (blo V m) 0) (iEq (bhi V m) 0) false) with
        | true =>
          obtain ⟨h1, h2⟩ := cond_tf q3
          have h1 := iEq_eq h1
          have h2 := iEq_eq h2
          have h3 := blo_c hB hV m
          have h4 := bhi_c hB hV m
          have hx0 : x = 0 := by omega
          refine ⟨Or.inr ?_, ladd_w hg lcst_w⟩
          show _ ≤ _ + cF σ (ladd g (-1, []))
          rw [ladd_c, lcst_c, lEq_eq q2, lcst_c, hx0]
          have z := zb_10
          have : zb (Int32.ofInt 1) 32 = zb 1 32 := rfl
          have : zb (Int32.ofInt 0) 32 = zb 0 32 := rfl
          omega
        | false =>
          have := key true q2
          exact this
  · exact key _ rfl
theorem ast_ok {G : aG} {Φ : Option Value → xC → Prop} {σ : aσ} {e : aE} {tag k pc : Nat} {C : aH} {L : aL} {S : List aV} {fr : List aR} {i : Instr} {len : Nat} {ss : List aS} {nar : Int32 → Int32} (ha : aAst G tag e k C (pc + 1) L S fr = some ss) (hsp : xspot k pc = false) (hlk : xe_lk (xm_t (xMT k)) pc = some (i, len)) (hi : ∀ (ih : xH) (C : xC) (L : xL) (S : List Value), xe_i xMT ih k C pc L S i = xe_ast tag nar C S (fun C' T => ih k C' (pc + 1) L T)) (hnar : ∀ x : Int, (tag = 0 ∨ (0 ≤ x ∧ x ≤ 1)) → nar (Int32.ofInt x) = Int32.ofInt x) (hw : wfs (e, k, C, pc, L, S, fr)) (hs : satS G σ (e, k, C, pc, L, S, fr)) : Sim G Φ σ (e, k, C, pc, L, S, fr) ss := by
  unfold aAst at ha
  split at ha
  · rename_i v ix p T
    obtain ⟨hv, hT⟩ := tail_w hw.2.2.2.1
    obtain ⟨hix, hT⟩ := tail_w hT
    obtain ⟨_, hT⟩ := tail_w hT
    split at ha
    · rename_i t n r hC
      obtain ⟨nv, V, AR, K, LD, OR, NE, TO, DF, gg⟩ := e
      have hv : wF nv v := hv
      have hix : wF nv ix := hix
      have hT : wS nv T := hT
      dsimp only at ha
      obtain ⟨q1, ha⟩ := cond_so ha
      obtain ⟨q1, q2⟩ := cond_tf q1
      obtain ⟨q2, q3⟩ := cond_tf q2
      obtain ⟨hn, q2⟩ := cond_tf q2
      have hn := Nat.le_of_ble_eq_true hn
      have hB : aBD σ := hs.1.1
      have hV : aRG σ V := hs.1.2.1
      have hA : aRA σ AR := hs.1.2.2.1
      have hK : aKK σ K := hs.1.2.2.2.1
      have hLd : aLDs σ LD := hs.1.2.2.2.2.1
      have hC2 : C[p]? = some (.inl (t, n, r)) := by rw [← xe_nth_eq]; exact hC
      have hir : aMN ≤ cF σ ix ∧ cF σ ix ≤ aMX := by
        obtain ⟨h1, h2⟩ := prB_c hB hV hK q2
        have h2 : cF σ ix ≤ (n : Int) - 1 := h2
        exact ⟨by show -2147483648 ≤ _; omega, by show _ ≤ (2147483647 : Int); omega⟩
      obtain ⟨i1, i2, i3, i4⟩ := idx_c hB hV hK q2 hir
      have hr : r < nv := nth_w hw.2.1 hC
      have hnv : nar (Int32.ofInt (cF σ v)) = Int32.ofInt (cF σ v) := by
        refine hnar _ ?_
        rcases cond_tt q3 with h | h
        · exact Or.inl (Nat.eq_of_beq_eq_true h)
        · obtain ⟨h1, h2⟩ := cond_tf h
          have := bhi_c hB hV v
          have h2 := iLe_le h2
          exact Or.inr ⟨pr0_c hB hV h1, by omega⟩
      -- the new row
      have hyx : ∃ y : Nat → Int, y = fun j => if j = (cF σ ix).toNat then (Int32.ofInt (cF σ v)).toInt else σ r j := ⟨_, rfl⟩
      obtain ⟨y, hy⟩ := hyx
      have hy2 : ∀ j, aMN ≤ y j ∧ y j ≤ aMX := fun j => by
        rw [hy]
        dsimp only
        split
        · exact oi_le _
        · exact hB r j
      have hyu : (fun j => Int32.ofInt (y j)) = upd (fun j => Int32.ofInt (σ r j)) (Int32.ofInt (cF σ ix)).toNatClampNeg (nar (Int32.ofInt (cF σ v))) := by
        rw [hnv, i2, hy]
        funext j
        show Int32.ofInt (if j = _ then _ else _) = if j = _ then _ else _
        split
        · exact oi_of _
        · rfl
      have hst : ∀ ih : xH, xe_i xMT ih k (cH σ C) pc (cL σ L) ((Sum.inl v :: Sum.inl ix :: Sum.inr p :: T).map (cV σ)) i = ih k ((cH σ C).set p (.inl (t, n, .inl (fun j => Int32.ofInt (y j))))) (pc + 1) (cL σ L) (T.map (cV σ)) := by
        intro ih
        rw [hi]
        show xe_ast tag nar (cH σ C) (.int (Int32.ofInt (cF σ v)) :: .int (Int32.ofInt (cF σ ix)) :: .ref p :: T.map (cV σ)) _ = _
        unfold xe_ast
        simp only [cH_get hC, cK]
        rw [q1, i1]
        simp only [Bool.and_self, cond_true, xe_fn_eq, xe_f_eq, xe_set_eq]
        rw [hyu]
      have hgo : RP k ((cH σ C).set p (.inl (t, n, .inl (fun j => Int32.ofInt (y j))))) (pc + 1) (cL σ L) (T.map (cV σ)) (kont σ Φ fr) → goal σ Φ ((nv, V, AR, K, LD, OR, NE, TO, DF, gg), k, C, pc, L, Sum.inl v :: Sum.inl ix :: Sum.inr p :: T, fr) := fun g => RP_i (k1 := k) hsp hlk hst g
      -- the measure
      have hgg : wF nv gg := hw.1.2.2.2.2.2.2.2.2
      have hms := aMs_c (OR := OR) (NE := NE) (m := ldf LD r ix) (v := v) (PM := G.2.2.1) (g := gg) (n := nv) hB hV hA hs.1.2.2.2.2.2.1 hs.1.2.2.2.2.2.2.1 ⟨(cF σ ix).toNat, rfl⟩ (fun f hf => hLd _ (ldf_mem hf)) hgg
      have hl : p < (cH σ C).length := by unfold cH; rw [List.length_map]; exact (List.getElem?_eq_some_iff.mp hC2).1
      have hP0 : phi G.2.1 (cH σ C) ≤ cF σ gg := hs.2.1
      have hbig : phi G.2.1 ((cH σ C).set p (.inl (t, n, .inl (fun j => Int32.ofInt (y j))))) ≤ G.2.2.1 := by
        have e1 := aUp_ag σ nv y
        have e2 := phi_max G.2.1 (aUp σ nv y) (C.set p (.inl (t, n, nv)))
        rw [cH_set, ← cH_ag e1 hw.2.1] at e2
        have e3 : cK (aUp σ nv y) (.inl (t, n, nv)) = .inl (t, n, .inl (fun j => Int32.ofInt (y j))) := by
          show (Sum.inl (t, n, .inl (fun j => Int32.ofInt (aUp σ nv y nv j))) : va_E) = _
          rw [aUp_at]
        rw [e3, pmax_set (PH := G.2.1) (d := .inl (t, n, nv)) hC2 rfl] at e2
        have : pmax G.2.1 C ≤ G.2.2.1 := hs.2.2.1
        exact Int.le_trans e2 this
      have hcell : (cH σ C)[p]? = some (.inl (t, n, .inl (fun j => Int32.ofInt (σ r j)))) := by rw [← xe_nth_eq]; exact cH_get hC
      have hrs : phiK ((cH σ C).set p (.inl (t, n, .inl (fun j => Int32.ofInt (y j)))))[p]? ≤ phiK (cH σ C)[p]? + (zb (Int32.ofInt (cF σ v)) 32 - zb (Int32.ofInt (σ r (cF σ ix).toNat)) 32) := by
        rw [List.getElem?_set_self hl, hcell]
        have h1 := (rsum_upd (fun j => Int32.ofInt (σ r j)) (fun j => Int32.ofInt (y j)) (cF σ ix).toNat n (fun j hj => by show Int32.ofInt (y j) = _; rw [hy]; dsimp only; rw [if_neg hj])).2 i3
        show rsum (fun j => Int32.ofInt (y j)) n ≤ rsum (fun j => Int32.ofInt (σ r j)) n + _
        rw [h1]
        have h2 : Int32.ofInt (y (cF σ ix).toNat) = Int32.ofInt (cF σ v) := by rw [hy]; dsimp only; rw [if_pos rfl, oi_of]
        rw [h2]
        omega
      have hps := phi_set (PH := G.2.1) hrs hs.2.2.2
      have hg1 : wF nv (cond (nmem p G.2.1) (aMs V AR OR NE G.2.2.1 gg r (ldf LD r ix) v) gg) ∧ phi G.2.1 ((cH σ C).set p (.inl (t, n, .inl (fun j => Int32.ofInt (y j))))) ≤ cF σ (cond (nmem p G.2.1) (aMs V AR OR NE G.2.2.1 gg r (ldf LD r ix) v) gg) := by
        cases hq : nmem p G.2.1 with
        | true =>
          refine ⟨hms.2, ?_⟩
          simp only [cond_true]
          rcases hms.1 with h | h
          · rw [h, lcst_c]
            exact hbig
          · rw [if_pos (nmem_iff hq)] at hps
            omega
        | false =>
          refine ⟨hgg, ?_⟩
          rw [if_neg (fun h => by rw [nmem_of h] at hq; cases hq)] at hps
          simp only [cond_false]
          omega
      generalize hG1 : (cond (nmem p G.2.1) (aMs V AR OR NE G.2.2.1 gg r (ldf LD r ix) v) gg) = g1 at ha hg1
      rw [fF_eq, xe_fn_eq, xe_set_eq] at ha
      have hra := fun j => vra_c hB hA r j
      have ld0 := ld_up (x := y) hw.1.2.2.2.1 hLd
      have df0 := df_up (x := y) hw.1.2.2.2.2.2.2.2.1 hs.1.2.2.2.2.2.2.2.2
      have hag := aUp_ag σ nv y
      cases hq : inr V v with
      | false =>
        rw [hq] at ha
        cases ha
        exact sim_a hw hs hC2 (fun j => hy2 j) hy2 hT hg1.1 ld0 df0 hg1.2 hgo
      | true =>
        have hvr := inr_c hB hV hq
        have evr := oi_toInt hvr.1 hvr.2
        have ld1 : aLDs (aUp σ nv y) ((nv, ix, v) :: LD) ∧ ∀ q ∈ (nv, ix, v) :: LD, q.1 < nv + 1 ∧ wF (nv + 1) q.2.1 ∧ wF (nv + 1) q.2.2 := by
          refine ⟨fun q hq => ?_, fun q hq => ?_⟩
          · rcases List.mem_cons.mp hq with e | e
            · rw [e]
              show aUp σ nv y nv (cF (aUp σ nv y) ix).toNat = cF (aUp σ nv y) v
              rw [aUp_at, ← cF_ag hag hix, ← cF_ag hag hv, hy]
              dsimp only
              rw [if_pos rfl, evr]
            · exact ld0.1 q e
          · rcases List.mem_cons.mp hq with e | e
            · rw [e]
              exact ⟨Nat.lt_succ_self nv, wF_le (Nat.le_succ nv) hix, wF_le (Nat.le_succ nv) hv⟩
            · exact ld0.2 q e
        have df1 : aDFs (aUp σ nv y) ((nv, r, ix, v) :: DF) ∧ ∀ q ∈ (nv, r, ix, v) :: DF, q.1 < nv + 1 ∧ q.2.1 < nv + 1 ∧ wF (nv + 1) q.2.2.1 ∧ wF (nv + 1) q.2.2.2 := by
          refine ⟨fun q hq => ?_, fun q hq => ?_⟩
          · rcases List.mem_cons.mp hq with e | e
            · rw [e]
              show 0 ≤ cF (aUp σ nv y) ix ∧ ∀ j, aUp σ nv y nv j = if j = (cF (aUp σ nv y) ix).toNat then cF (aUp σ nv y) v else aUp σ nv y r j
              rw [aUp_at, ← cF_ag hag hix, ← cF_ag hag hv, ← hag r hr, hy]
              refine ⟨i4, fun j => ?_⟩
              dsimp only
              rw [evr]
            · exact df0.1 q e
          · rcases List.mem_cons.mp hq with e | e
            · rw [e]
              exact ⟨Nat.lt_succ_self nv, Nat.lt_succ_of_lt hr, wF_le (Nat.le_succ nv) hix, wF_le (Nat.le_succ nv) hv⟩
            · exact df0.2 q e
        rw [hq] at ha
        simp only [cond_true] at ha
        cases hq2 : (cond (cond (iEq (vrg AR r).1 aMN) (iEq (vrg AR r).2 aMX) false) true (prB V K v (vrg AR r).1 (vrg AR r).2)) with
        | true =>
          rw [hq2] at ha
          cases ha
          refine sim_a hw hs hC2 (fun j => ?_) hy2 hT hg1.1 ld1 df1 hg1.2 hgo
          rcases cond_tt hq2 with h | h
          · obtain ⟨h1, h2⟩ := cond_tf h
            rw [iEq_eq h1, iEq_eq h2]
            exact hy2 j
          · have := prB_c hB hV hK h
            rw [hy]
            dsimp only
            split
            · rw [evr]; exact this
            · exact hra j
        | false =>
          rw [hq2] at ha
          simp only [cond_false, fI_eq] at ha
          cases ha
          refine sim_a hw hs hC2 (fun j => ?_) hy2 hT hg1.1 ld1 df1 hg1.2 hgo
          have hmin : ∀ a b : Int, imin a b ≤ a ∧ imin a b ≤ b := fun a b => by
            unfold imin
            cases h : iLe a b with
            | true => exact ⟨Int.le_refl a, iLe_le h⟩
            | false => have := iLe_false h; exact ⟨by show b ≤ a; omega, Int.le_refl b⟩
          have hmax : ∀ a b : Int, a ≤ imax a b ∧ b ≤ imax a b := fun a b => by
            unfold imax
            cases h : iLe a b with
            | true => exact ⟨iLe_le h, Int.le_refl b⟩
            | false => have := iLe_false h; exact ⟨Int.le_refl a, by show b ≤ a; omega⟩
          have m1 := hmin (vrg AR r).1 (blo V v)
          have m2 := hmax (vrg AR r).2 (bhi V v)
          have c1 := blo_c hB hV v
          have c2 := bhi_c hB hV v
          have c3 := hra j
          rw [hy]
          dsimp only
          split
          · rw [evr]; exact ⟨by omega, by omega⟩
          · exact ⟨by omega, by omega⟩
    · cases ha
  · cases ha
