/-! CALLS BY CONTRACT -/
theorem smSl_mem {sm : aSm} {l : List aSl} {q : aSl} : q ∈ smSl sm l ↔ q ∈ l ∧ aInM sm q = true := by
  induction l with
  | nil => exact ⟨fun h => absurd h List.not_mem_nil, fun h => absurd h.1 List.not_mem_nil⟩
  | cons z t ih =>
    show q ∈ cond (aInM sm z) (z :: smSl sm t) (smSl sm t) ↔ _
    cases hz : aInM sm z with
    | true =>
      refine ⟨fun h => ?_, fun h => ?_⟩
      · rcases List.mem_cons.mp h with e | e
        · rw [e]; exact ⟨List.mem_cons_self, hz⟩
        · exact ⟨List.mem_cons_of_mem _ (ih.mp e).1, (ih.mp e).2⟩
      · rcases List.mem_cons.mp h.1 with e | e
        · rw [e]; exact List.mem_cons_self
        · exact List.mem_cons_of_mem _ (ih.mpr ⟨e, h.2⟩)
    | false =>
      refine ⟨fun h => ⟨List.mem_cons_of_mem _ (ih.mp h).1, (ih.mp h).2⟩, fun h => ?_⟩
      rcases List.mem_cons.mp h.1 with e | e
      · rw [e, hz] at h; exact absurd h.2 (by decide)
      · exact ih.mpr ⟨e, h.2⟩
theorem sIdx_none {sl : List aSl} {a b c n : Nat} (h : sIdx sl a b c n = none) : ∀ q ∈ sl, ¬ (q.1 = a ∧ q.2.1 = b ∧ q.2.2.1 = c) := by
  induction sl generalizing n with
  | nil => exact fun q hq => absurd hq List.not_mem_nil
  | cons z t ih =>
    have h : cond (cond (Nat.beq z.1 a) (cond (Nat.beq z.2.1 b) (Nat.beq z.2.2.1 c) false) false) (some n) (sIdx t a b c (n + 1)) = none := h
    intro q hq hh
    cases hz : (cond (Nat.beq z.1 a) (cond (Nat.beq z.2.1 b) (Nat.beq z.2.2.1 c) false) false) with
    | true => rw [hz] at h; cases h
    | false =>
      rw [hz] at h
      rcases List.mem_cons.mp hq with e | e
      · rw [← e, hh.1, hh.2.1, hh.2.2, Nat.beq_refl, Nat.beq_refl, Nat.beq_refl] at hz
        cases hz
      · exact ih h q e hh
theorem inM_eq {sm : aSm} {q z : aSl} (h1 : q.1 = z.1) (h2 : q.2.1 = z.2.1) (h3 : q.2.2.1 = z.2.2.1) : aInM sm q = aInM sm z := by
  unfold aInM
  rw [h1, h2, h3]
theorem aAok_c {σ : aσ} {V : List (Nat × Int × Int)} {K : List aF} (hB : aBD σ) (hV : aRG σ V) (hK : aKK σ K) {rs : List (Int × Int)} (hr : ∀ r ∈ rs, aMN ≤ r.1 ∧ r.2 ≤ aMX) {As : List aV} (h : aAok V K rs As = true) : ∃ xs : List Int32, As.map (cV σ) = xs.map .int ∧ rngP rs (xs.map Int32.toInt) := by
  induction rs generalizing As with
  | nil => cases As with
    | nil => exact ⟨[], rfl, trivial⟩
    | cons v t => cases h
  | cons r t ih => cases As with
    | nil => cases h
    | cons v u => cases v with
      | inr p => cases h
      | inl f =>
        obtain ⟨h1, h2⟩ := cond_tf (show cond (cond (cond (iEq r.1 aMN) (iEq r.2 aMX) false) true (prB V K f r.1 r.2)) (aAok V K t u) false = true from h)
        obtain ⟨xs, a1, a2⟩ := ih (fun r hr' => hr r (List.mem_cons_of_mem _ hr')) h2
        refine ⟨Int32.ofInt (cF σ f) :: xs, ?_, ⟨?_, a2⟩⟩
        · show Value.int (Int32.ofInt (cF σ f)) :: u.map (cV σ) = Value.int (Int32.ofInt (cF σ f)) :: xs.map .int
          rw [a1]
        · rcases cond_tt h1 with h1 | h1
          · obtain ⟨g1, g2⟩ := cond_tf h1
            rw [iEq_eq g1, iEq_eq g2]
            exact oi_le _
          · have g := prB_c hB hV hK h1
            have hq := hr r List.mem_cons_self
            rw [oi_toInt (by omega) (by omega)]
            exact g
/-- ranges of a contract lie in the numbers' range -/
def smOK (sm : aSm) : Prop := (∀ r ∈ sm.1, aMN ≤ r.1 ∧ r.2 ≤ aMX) ∧ ∀ q ∈ sm.2.1, aMN ≤ q.1 ∧ q.2 ≤ aMX
set_option maxHeartbeats 1000000 in
theorem sum_ok {G : aG} (hG : aGok G) (hC : ∀ k p sm, G.2.2.2.1 k p = some sm → Con G k p sm ∧ smOK sm) : SumOK G := by
  intro Φ σ sm e k k' p pc pc0 C L As rest S fr ss hsm ha hw hs hAs hrest hgo
  obtain ⟨hcon, hok⟩ := hC k' p sm hsm
  obtain ⟨nv, V, AR, K, LD, OR, NE, TO, DF, g⟩ := e
  have hB : aBD σ := hs.1.1
  have hV : aRG σ V := hs.1.2.1
  have hK : aKK σ K := hs.1.2.2.2.1
  unfold aSum at ha
  dsimp only at ha
  have h0 := cond_so ha
  clear ha
  obtain ⟨q0, ha⟩ := h0
  obtain ⟨q1, q2⟩ := cond_tf q0
  simp only [fH_eq, fR_eq, xe_fn_eq] at ha
  obtain ⟨v1, v2, v3, v4⟩ := inv_c hG q1 hs.1
  obtain ⟨xs, x1, x2⟩ := aAok_c hB hV hK hok.1 q2
  obtain ⟨m, r, C1, hrun, τ1, u1, u2, u3, u4⟩ := hcon _ xs v1 x2
  rw [v2] at hrun
  -- the caller's heap behind the call
  generalize hsl : smSl sm G.2.2.2.2.1 = sl at ha
  have hslm : ∀ q, q ∈ sl ↔ q ∈ G.2.2.2.2.1 ∧ aInM sm q = true := fun q => by rw [← hsl]; exact smSl_mem
  have hwC : wH nv C := hw.2.1
  obtain ⟨τ2, hτ2⟩ : ∃ τ2 : aσ, τ2 = fun i => if i < nv then σ i else match sl[i - nv]? with
    | some q => (match sIdx G.2.2.2.2.1 q.1 q.2.1 q.2.2.1 0 with
      | some j => τ1 j
      | none => fun _ => 0)
    | none => fun _ => 0 := ⟨_, rfl⟩
  have hag : aAg nv σ τ2 := fun i hi => by rw [hτ2]; dsimp only; rw [if_pos hi]
  have hat : ∀ (i : Nat) (q : aSl) (j : Nat), sl[i]? = some q → sIdx G.2.2.2.2.1 q.1 q.2.1 q.2.2.1 0 = some j → τ2 (nv + i) = τ1 j := fun i q j h1 h2 => by
    rw [hτ2]
    dsimp only
    rw [if_neg (by omega), show nv + i - nv = i by omega, h1]
    dsimp only
    rw [h2]
  have hsome : ∀ q ∈ G.2.2.2.2.1, ∃ j, sIdx G.2.2.2.2.1 q.1 q.2.1 q.2.2.1 0 = some j := fun q hq => by
    cases h : sIdx G.2.2.2.2.1 q.1 q.2.1 q.2.2.1 0 with
    | some j => exact ⟨j, rfl⟩
    | none => exact absurd ⟨rfl, rfl, rfl⟩ (sIdx_none h q hq)
  have hB2 : aBD τ2 := by
    intro v j
    have z : aMN ≤ (0 : Int) ∧ (0 : Int) ≤ aMX := ⟨by decide, by decide⟩
    rw [hτ2]
    dsimp only
    by_cases hv : v < nv
    · rw [if_pos hv]; exact hB v j
    · rw [if_neg hv]
      cases sl[v - nv]? with
      | none => exact z
      | some q =>
        dsimp only
        cases sIdx G.2.2.2.2.1 q.1 q.2.1 q.2.2.1 0 with
        | none => exact z
        | some i => exact u1.1 i j
  -- rows
  have hrow : ∀ (p t m r : Nat), C[p]? = some (.inl (t, m, r)) → ∃ b, G.2.2.2.2.2[p]? = some (.inl (t, m, b)) ∧ τ2 (match sIdx sl 3 p 0 nv with
      | some v => v
      | none => r) = τ1 b := by
    intro p t m r hc
    have hH : G.2.2.2.2.2[p]? = some (.inl (t, m, match sIdx G.2.2.2.2.1 3 p 0 0 with
      | some v => v
      | none => r)) := by
      rw [← v3, repH_get, hc, Nat.zero_add]
      rfl
    refine ⟨_, hH, ?_⟩
    cases hb : sIdx G.2.2.2.2.1 3 p 0 0 with
    | none =>
      rw [hb] at hH
      exact absurd (hG.2.1 p _ hH hb) (Nat.not_lt_zero _)
    | some b =>
      dsimp only
      cases hi : sIdx sl 3 p 0 nv with
      | some i =>
        obtain ⟨m', q, e1, e2, e3, e4, e5⟩ := sIdx_c hi
        dsimp only
        rw [e1]
        exact hat m' q b e2 (by rw [e3, e4, e5]; exact hb)
      | none =>
        dsimp only
        have hr : r < nv := hwC _ (List.mem_of_getElem? hc)
        obtain ⟨m', q, e1, e2, e3, e4, e5⟩ := sIdx_c hb
        rw [Nat.zero_add] at e1
        subst e1
        have hnm : aInM sm q = false := by
          cases hm : aInM sm q with
          | false => rfl
          | true => exact absurd ⟨e3, e4, e5⟩ (sIdx_none hi q ((hslm q).mpr ⟨List.mem_of_getElem? e2, hm⟩))
        rw [(u3 b q e2 hnm).1 e3, ← hag r hr]
        have ha := aTau_at (σ := σ) (n0 := 0) (C := C) (L := []) (g := (0, [])) e2
        rw [Nat.zero_add] at ha
        rw [ha]
        unfold sval
        have hcid : cid C p = some r := by unfold cid; rw [xe_nth_eq, hc]
        rw [if_pos e3, e4, hcid]
  have hheap : cH τ2 (repH sl nv C 0) = C1 := by
    rw [u2]
    apply List.ext_getElem?
    intro p
    unfold cH
    rw [List.getElem?_map, List.getElem?_map, repH_get, Nat.zero_add]
    cases hc : C[p]? with
    | none =>
      have : G.2.2.2.2.2[p]? = none := by rw [← v3, repH_get, hc]; rfl
      rw [this]
      rfl
    | some c =>
      rcases c with ⟨t, m, r⟩ | ⟨ci, fs⟩
      · obtain ⟨b, b1, b2⟩ := hrow p t m r hc
        rw [b1]
        show some (Sum.inl (t, m, .inl (fun j => Int32.ofInt (τ2 (match sIdx sl 3 p 0 nv with
          | some v => v
          | none => r) j))) : va_E) = some (Sum.inl (t, m, .inl (fun j => Int32.ofInt (τ1 b j))))
        rw [b2]
      · have hH : G.2.2.2.2.2[p]? = some (.inr (ci, repV G.2.2.2.2.1 0 p fs 0)) := by
          rw [← v3, repH_get, hc, Nat.zero_add]
          rfl
        rw [hH]
        show some (Sum.inr (ci, (repV sl nv p fs 0).map (cV τ2)) : va_E) = some (Sum.inr (ci, (repV G.2.2.2.2.1 0 p fs 0).map (cV τ1)))
        congr 3
        apply List.ext_getElem?
        intro j
        rw [List.getElem?_map, List.getElem?_map, repV_get, repV_get, Nat.zero_add]
        cases hf : fs[j]? with
        | none => rfl
        | some v =>
          show some (cV τ2 (match sIdx sl 1 p j nv with
            | some i => .inl (0, [(i, 1)])
            | none => v)) = some (cV τ1 (match sIdx G.2.2.2.2.1 1 p j 0 with
            | some i => .inl (0, [(i, 1)])
            | none => v))
          congr 1
          have hwv : wV nv v := (show wK nv (.inr (ci, fs)) from hwC _ (List.mem_of_getElem? hc)) v (List.mem_of_getElem? hf)
          cases hb : sIdx G.2.2.2.2.1 1 p j 0 with
          | none =>
            dsimp only
            have hn : sIdx sl 1 p j nv = none := by
              cases hi : sIdx sl 1 p j nv with
              | none => rfl
              | some i =>
                obtain ⟨m', q, e1, e2, e3, e4, e5⟩ := sIdx_c hi
                exact absurd ⟨e3, e4, e5⟩ (sIdx_none hb q ((hslm q).mp (List.mem_of_getElem? e2)).1)
            rw [hn]
            dsimp only
            have hv0 := hG.2.1 p _ hH j v (by rw [repV_get, hf, Nat.zero_add, hb]; rfl) hb
            cases v with
            | inr a => rfl
            | inl f =>
              have hf0 : f.2 = [] := by
                cases hf2 : f.2 with
                | nil => rfl
                | cons y t => exact absurd ((show wF 0 f from hv0) y (by rw [hf2]; exact List.mem_cons_self)) (Nat.not_lt_zero _)
              show Value.int (Int32.ofInt (f.1 + cT τ2 f.2)) = Value.int (Int32.ofInt (f.1 + cT τ1 f.2))
              rw [hf0]
              rfl
          | some b =>
            dsimp only
            show _ = Value.int (Int32.ofInt (cF τ1 (0, [(b, 1)])))
            rw [lvar_c]
            cases hi : sIdx sl 1 p j nv with
            | some i =>
              obtain ⟨m', q, e1, e2, e3, e4, e5⟩ := sIdx_c hi
              dsimp only
              show Value.int (Int32.ofInt (cF τ2 (0, [(i, 1)]))) = _
              rw [lvar_c, e1, hat m' q b e2 (by rw [e3, e4, e5]; exact hb)]
            | none =>
              dsimp only
              obtain ⟨m', q, e1, e2, e3, e4, e5⟩ := sIdx_c hb
              rw [Nat.zero_add] at e1
              subst e1
              have hnm : aInM sm q = false := by
                cases hm : aInM sm q with
                | false => rfl
                | true => exact absurd ⟨e3, e4, e5⟩ (sIdx_none hi q ((hslm q).mpr ⟨List.mem_of_getElem? e2, hm⟩))
              rw [(u3 b q e2 hnm).2 (by omega), ← cV_ag hag hwv]
              have ha := aTau_at (σ := σ) (n0 := 0) (C := C) (L := []) (g := (0, [])) e2
              rw [Nat.zero_add] at ha
              rw [ha]
              obtain ⟨f, hsf⟩ := v4 q (List.mem_of_getElem? e2) (by omega)
              unfold sval
              rw [if_neg (by omega), if_neg (by omega), hsf]
              have hvf : v = .inl f := by
                unfold sform at hsf
                rw [e3, e4, e5] at hsf
                have hsf : (match xe_nth C p with
                  | some (.inr (_, fs)) => match xe_nth fs j with
                    | some (.inl f) => some f
                    | _ => none
                  | _ => none) = some f := hsf
                rw [xe_nth_eq, hc] at hsf
                dsimp only at hsf
                rw [xe_nth_eq, hf] at hsf
                cases v with
                | inl g => cases hsf; rfl
                | inr g => cases hsf
              rw [hvf]
              show Value.int (Int32.ofInt (cF σ f)) = Value.int (Int32.ofInt (Int32.ofInt (cF σ f)).toInt)
              rw [oi_of]
  -- what is known behind it
  cases hcs : cids (repH sl nv C 0) G.1 with
  | none => rw [hcs] at ha; cases ha
  | some cs =>
  rw [hcs] at ha
  dsimp only at ha
  have htold : toldS τ2 cs := by
    obtain ⟨ds, d1, d2⟩ := u1.2.2
    refine toldS_map ?_ d2
    have : ∀ (ps as bs : List Nat), cids (repH sl nv C 0) ps = some as → cids G.2.2.2.2.2 ps = some bs → as.map τ2 = bs.map τ1 := by
      intro ps
      induction ps with
      | nil => intro as bs h1 h2; cases h1; cases h2; rfl
      | cons p t ih =>
        intro as bs h1 h2
        have h1 : (match cid (repH sl nv C 0) p with
          | some i => match cids (repH sl nv C 0) t with
            | some t => some (i :: t)
            | none => none
          | none => none) = some as := h1
        have h2 : (match cid G.2.2.2.2.2 p with
          | some i => match cids G.2.2.2.2.2 t with
            | some t => some (i :: t)
            | none => none
          | none => none) = some bs := h2
        cases c1 : cid (repH sl nv C 0) p with
        | none => rw [c1] at h1; cases h1
        | some i =>
          rw [c1] at h1
          cases c2 : cids (repH sl nv C 0) t with
          | none => rw [c2] at h1; cases h1
          | some ua =>
            rw [c2] at h1
            cases h1
            cases c3 : cid G.2.2.2.2.2 p with
            | none => rw [c3] at h2; cases h2
            | some b =>
              rw [c3] at h2
              cases c4 : cids G.2.2.2.2.2 t with
              | none => rw [c4] at h2; cases h2
              | some ub =>
                rw [c4] at h2
                cases h2
                rw [List.map_cons, List.map_cons, ih ua ub c2 c4]
                congr 1
                unfold cid at c1 c3
                rw [xe_nth_eq] at c1 c3
                rw [repH_get, Nat.zero_add] at c1
                cases hc : C[p]? with
                | none => rw [hc] at c1; cases c1
                | some c =>
                  rw [hc] at c1
                  rcases c with ⟨t0, m0, r0⟩ | ⟨ci, fs⟩
                  · obtain ⟨b', b1, b2⟩ := hrow p t0 m0 r0 hc
                    rw [b1] at c3
                    cases c3
                    have c1 : some (match sIdx sl 3 p 0 nv with
                      | some v => v
                      | none => r0) = some i := c1
                    rw [← Option.some.inj c1]
                    exact b2
                  · cases c1
    exact this G.1 cs ds hcs d1
  have hlt : ∀ (i : Nat) (q : aSl), sl[i]? = some q → nv + i < nv + sl.length := fun i q h => Nat.add_lt_add_left (List.getElem?_eq_some_iff.mp h).1 _
  have hle : nv ≤ nv + sl.length := Nat.le_add_right _ _
  obtain ⟨s0, s1, s2, s3, s4, s5, s6, s7, s8⟩ := sat_ag hag hw.1 hB2 hs.1
  have hwb : wfe nv (nv, V, AR, K, LD, OR, NE, TO, DF, g) := hw.1
  obtain ⟨w1, w2, w3, w4, w5, w6, w7, w8, w9⟩ := wfe_le hle hwb
  have hsat : sat τ2 (nv + sl.length, nmV sl nv V, nmA sl nv AR, K, LD, OR, NE, cs :: TO, DF, (G.2.2.1, [])) := by
    refine ⟨hB2, fun q hq => ?_, fun q hq j => ?_, s3, s4, s5, s6, fun l hl => ?_, s8⟩
    · rcases nmV_mem hq with e | ⟨i, z, e1, e2, e3⟩
      · exact s1 q e
      · rw [e3]
        obtain ⟨b, hb⟩ := hsome z ((hslm z).mp (List.mem_of_getElem? e1)).1
        show z.2.2.2.1 ≤ τ2 (nv + i) 0 ∧ τ2 (nv + i) 0 ≤ z.2.2.2.2
        rw [hat i z b e1 hb]
        obtain ⟨b', hb'⟩ := List.mem_iff_getElem?.mp ((hslm z).mp (List.mem_of_getElem? e1)).1
        have hbb := hG.2.2.2.2.2 b' z hb'
        rw [hb] at hbb
        cases hbb
        exact (u1.2.1 b z hb').2 e2
    · rcases nmA_mem hq with e | ⟨i, z, e1, e2, e3⟩
      · exact s2 q e j
      · rw [e3]
        obtain ⟨b, hb⟩ := hsome z ((hslm z).mp (List.mem_of_getElem? e1)).1
        show z.2.2.2.1 ≤ τ2 (nv + i) j ∧ τ2 (nv + i) j ≤ z.2.2.2.2
        rw [hat i z b e1 hb]
        obtain ⟨b', hb'⟩ := List.mem_iff_getElem?.mp ((hslm z).mp (List.mem_of_getElem? e1)).1
        have hbb := hG.2.2.2.2.2 b' z hb'
        rw [hb] at hbb
        cases hbb
        exact (u1.2.1 b z hb').1 e2 j
    · rcases List.mem_cons.mp hl with e | e
      · rw [e]; exact htold
      · exact s7 l e
  have hwf : wfe (nv + sl.length) (nv + sl.length, nmV sl nv V, nmA sl nv AR, K, LD, OR, NE, cs :: TO, DF, (G.2.2.1, [])) := by
    refine ⟨fun q hq => ?_, fun q hq => ?_, w3, w4, w5, w6, fun l hl => ?_, w8, lcst_w⟩
    · rcases nmV_mem hq with e | ⟨i, z, e1, e2, e3⟩
      · exact w1 q e
      · rw [e3]; exact hlt i z e1
    · rcases nmA_mem hq with e | ⟨i, z, e1, e2, e3⟩
      · exact w2 q e
      · rw [e3]; exact hlt i z e1
    · rcases List.mem_cons.mp hl with e | e
      · rw [e]; exact cids_w (rep_w hwC) hcs
      · exact w7 l e
  have hphi : phi G.2.1 (cH τ2 (repH sl nv C 0)) ≤ G.2.2.1 := by
    refine Int.le_trans (phi_max _ _ _) ?_
    rw [rep_pmax]
    exact hs.2.2.1
  have hpm : pmax G.2.1 (repH sl nv C 0) ≤ G.2.2.1 := by
    rw [rep_pmax]
    exact hs.2.2.1
  have hwL : wL nv L := hw.2.2.1
  have hwR : wR nv fr := hw.2.2.2.2
  have hrun : ∀ n : Nat, xe xMT xmac (n + m) k' (cH σ C) 0 (cL σ (aArgs (.inr p :: As) 0)) [] = some (r, C1) := by
    intro n
    rw [← aArgs_c]
    show xe xMT xmac (n + m) k' (cH σ C) 0 (lv_args 0 (.ref p :: As.map (cV σ))) [] = some (r, C1)
    rw [x1]
    exact hrun n
  cases hsr : sm.2.1 with
  | none =>
    rw [hsr] at ha u4
    have u4 : r = none := u4
    cases ha
    refine Or.inr ⟨_, List.mem_singleton.mpr rfl, τ2, hag, hle, ⟨hwf, rep_w hwC, wL_le hle hwL, wS_le hle hrest, wR_le hle hwR⟩, ⟨hsat, ?_, hpm, hs.2.2.2⟩, fun gg => hgo ⟨m, r, C1, hrun, Or.inl ⟨u4, ?_⟩⟩⟩
    · show phi G.2.1 (cH τ2 (repH sl nv C 0)) ≤ cF τ2 (G.2.2.1, [])
      rw [lcst_c]
      exact hphi
    · have gg : RP k (cH τ2 (repH sl nv C 0)) pc (cL τ2 L) (rest.map (cV τ2)) (kont τ2 Φ fr) := gg
      rw [hheap, ← cL_ag hag hwL, ← cS_ag hag hrest, ← kont_ag hag Φ hwR] at gg
      exact gg
  | some q =>
    rw [hsr] at ha u4
    obtain ⟨a, b⟩ := q
    obtain ⟨v, hv, hv1⟩ := u4
    dsimp only at ha
    rw [nw_eq] at ha
    cases ha
    obtain ⟨n1, n2⟩ := nw_sat (x := v.toInt) hsat hwf hv1 (oi_le v)
    have hag2 := aUp_ag τ2 (nv + sl.length) (fun _ => v.toInt)
    have hag3 : aAg nv σ (aUp τ2 (nv + sl.length) (fun _ => v.toInt)) := fun i hi => (hag i hi).trans (hag2 i (by omega))
    have hle3 : nv ≤ nv + sl.length + 1 := by omega
    refine Or.inr ⟨_, List.mem_singleton.mpr rfl, aUp τ2 (nv + sl.length) (fun _ => v.toInt), hag3, hle3, ⟨n2, wH_le (Nat.le_succ _) (rep_w hwC), wL_le hle3 hwL, cons_w (v := .inl (0, [(nv + sl.length, 1)])) (lvar_w (Nat.lt_succ_self _)) (wS_le hle3 hrest), wR_le hle3 hwR⟩, ⟨n1, ?_, hpm, hs.2.2.2⟩, fun gg => hgo ⟨m, r, C1, hrun, Or.inr ⟨v, hv, ?_⟩⟩⟩
    · show phi G.2.1 (cH (aUp τ2 (nv + sl.length) (fun _ => v.toInt)) (repH sl nv C 0)) ≤ cF _ (G.2.2.1, [])
      rw [lcst_c, ← cH_ag hag2 (rep_w hwC)]
      exact hphi
    · have gg : RP k (cH (aUp τ2 (nv + sl.length) (fun _ => v.toInt)) (repH sl nv C 0)) pc (cL (aUp τ2 (nv + sl.length) (fun _ => v.toInt)) L) (.int (Int32.ofInt (cF (aUp τ2 (nv + sl.length) (fun _ => v.toInt)) (0, [(nv + sl.length, 1)]))) :: rest.map (cV (aUp τ2 (nv + sl.length) (fun _ => v.toInt)))) (kont (aUp τ2 (nv + sl.length) (fun _ => v.toInt)) Φ fr) := gg
      rw [← cH_ag hag2 (rep_w hwC), hheap, ← cL_ag hag3 hwL, ← cS_ag hag3 hrest, ← kont_ag hag3 Φ hwR, lvar_c, aUp_at, oi_of] at gg
      exact gg
/-! one kind at a time -/
theorem sel_all {G : aG} {FIN : aE → aH → Option aF → Bool} {HN : List (List (Nat × aHn))} {MAC : Nat → aS → Option (List aS)} (n : Nat) : ∀ (act : List aAc) (s : aS), (∀ i, i < 12 → ai G FIN HN MAC n (some i) act s = true) → ai G FIN HN MAC n none act s = true := by
  induction n with
  | zero => exact fun act s h => h 0 (by omega)
  | succ n ih =>
    intro act s h
    have hal : ∀ (act : List aAc) (ss : List aS), (∀ i, i < 12 → lAll (ai G FIN HN MAC n (some i) act) ss = true) → lAll (ai G FIN HN MAC n none act) ss = true := by
      intro act ss h
      have hall : ∀ q ∈ ss, ai G FIN HN MAC n none act q = true := fun q hq => ih act q (fun i hi => lAll_true (h i hi) q hq)
      clear h
      induction ss with
      | nil => rfl
      | cons q t iht =>
        show cond (ai G FIN HN MAC n none act q) (lAll (ai G FIN HN MAC n none act) t) false = true
        rw [hall q List.mem_cons_self]
        exact iht (fun r hr => hall r (List.mem_cons_of_mem _ hr))
    have hgo : ∀ (act : List aAc) (s : aS), (∀ i, i < 12 → aGo G FIN (ai G FIN HN MAC n (some i)) act s = true) → aGo G FIN (ai G FIN HN MAC n none) act s = true := by
      intro act s h
      unfold aGo at h ⊢
      cases hs : aStep G FIN s with
      | none => rw [hs] at h; exact h 0 (by omega)
      | some ss =>
        rw [hs] at h
        dsimp only at h ⊢
        exact hal act ss h
    obtain ⟨e, k, C, pc, L, S, fr⟩ := s
    have h : ∀ i, i < 12 → ai_b G FIN HN MAC (ai G FIN HN MAC n) (some i) act (e, k, C, pc, L, S, fr) = true := h
    show ai_b G FIN HN MAC (ai G FIN HN MAC n) none act (e, k, C, pc, L, S, fr) = true
    unfold ai_b at h ⊢
    dsimp only at h ⊢
    cases hh : aHint HN k pc with
    | none => rw [hh] at h; exact hgo act _ h
    | some o =>
      rw [hh] at h
      rcases o with j | u | ts
      · dsimp only at h ⊢
        cases hjj : Nat.ble 100 j with
        | true =>
          rw [hjj] at h
          simp only [cond_true] at h ⊢
          cases hmm : MAC j (e, k, C, pc, L, S, fr) with
          | none => rw [hmm] at h; exact h 0 (by omega)
          | some ss => rw [hmm] at h; exact hal _ ss h
        | false =>
        rw [hjj] at h
        simp only [cond_false] at h ⊢
        cases hj : xe_as L j with
        | none => rw [hj] at h; exact h 0 (by omega)
        | some v =>
          rw [hj] at h
          cases v with
          | inr q => exact h 0 (by omega)
          | inl f =>
            dsimp only at h ⊢
            cases hc : cids C G.1 with
            | none => rw [hc] at h; exact h 0 (by omega)
            | some cs =>
              rw [hc] at h
              dsimp only at h ⊢
              rw [(cond_tf (h 0 (by omega))).1]
              rw [cond_true]
              refine lAllI_of (fun m q hm => ?_)
              have hm12 : m < 12 := (List.getElem?_eq_some_iff.mp hm).1
              have h1 := lAllI_true (cond_tf (h m hm12)).2 m q hm
              rw [Nat.zero_add] at h1 ⊢
              have e1 : aSel (some m) m = true := Nat.beq_refl m
              rw [e1] at h1
              exact h1
      · dsimp only at h ⊢
        cases hr : retold e G.1 C with
        | none => rw [hr] at h; exact h 0 (by omega)
        | some e1 => rw [hr] at h; exact hgo act _ h
      · dsimp only at h ⊢
        cases hf : aFind act k pc fr with
        | some q => rw [hf] at h; exact h 0 (by omega)
        | none =>
          rw [hf] at h
          dsimp only at h ⊢
          split
          · rename_i t ht
            rw [ht] at h
            obtain ⟨b, ents, l1, _⟩ := aLoop_eq G t (e, k, C, pc, L, S, fr)
            rw [l1]
            have h : ∀ i, i < 12 → cond b (aGo G FIN (ai G FIN HN MAC n (some i)) ((k, pc, mkT G t ents (e, k, C, pc, L, S, fr), t, e.1, ents) :: act) (mkT G t ents (e, k, C, pc, L, S, fr))) false = true := fun i hi => by
              have h9 := h i hi
              dsimp only at h9
              rw [l1] at h9
              exact h9
            rw [(cond_tf (h 0 (by omega))).1]
            exact hgo _ _ (fun i hi => (cond_tf (h i hi)).2)
          · rename_i ht
            rw [ht] at h
            exact h 0 (by omega)
theorem run_all {HN : List (List (Nat × aHn))} {G : aG} {sm : aSm} {k p n : Nat} (h : ∀ i, i < 12 → aRun HN G (some i) sm k p n = true) : aRun HN G none sm k p n = true := by
  unfold aRun at h ⊢
  split
  · rename_i T hT
    rw [hT] at h
    simp only [fR_eq, fH_eq, fL_eq, xe_fn_eq] at h ⊢
    exact sel_all n _ _ h
  · rename_i hT
    rw [hT] at h
    exact h 0 (by omega)
