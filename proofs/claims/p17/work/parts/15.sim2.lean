/-! ONE STEP IS RIGHT: branches and switches -/
theorem jmp_at {β : Type} {pc t : Nat} {off : Int} {go : Nat → Option β} (h : (pc : Int) + off = (t : Int)) : xe_jmp pc off go = go t := by
  unfold xe_jmp
  rw [h]
  exact xe_fn_eq t go
def bop : Nat → Int32 → Int32 → Bool
  | 0 => fun x y => decide (x = y)
  | 1 => fun x y => decide (x ≠ y)
  | 2 => fun x y => decide (x < y)
  | 3 => fun x y => decide (y ≤ x)
  | 4 => fun x y => decide (y < x)
  | _ => fun x y => decide (x ≤ y)
def bneg : Nat → Nat
  | 0 => 1
  | 1 => 0
  | 2 => 3
  | 3 => 2
  | 4 => 5
  | _ => 4
theorem bop_c {c : Nat} {x y : Int} (hx : aMN ≤ x ∧ x ≤ aMX) (hy : aMN ≤ y ∧ y ≤ aMX) : (bop c (Int32.ofInt x) (Int32.ofInt y) = true → cmpP c x y) ∧ (bop c (Int32.ofInt x) (Int32.ofInt y) = false → cmpP (bneg c) x y) := by
  match c with
  | 0 =>
    refine ⟨fun h => (nb_eq hx hy).mp (of_decide_eq_true h), fun h => ?_⟩
    have := of_decide_eq_false h
    rw [nb_eq hx hy] at this
    exact this
  | 1 =>
    refine ⟨fun h => ?_, fun h => ?_⟩
    · have := of_decide_eq_true h
      rw [ne_eq, nb_eq hx hy] at this
      exact this
    · have := of_decide_eq_false h
      rw [ne_eq, nb_eq hx hy] at this
      exact Classical.byContradiction this
  | 2 =>
    refine ⟨fun h => (nb_lt hx hy).mp (of_decide_eq_true h), fun h => ?_⟩
    have := of_decide_eq_false h
    rw [nb_lt hx hy] at this
    exact Int.not_lt.mp this
  | 3 =>
    refine ⟨fun h => (nb_le hy hx).mp (of_decide_eq_true h), fun h => ?_⟩
    have := of_decide_eq_false h
    rw [nb_le hy hx] at this
    exact Int.not_le.mp this
  | 4 =>
    refine ⟨fun h => (nb_lt hy hx).mp (of_decide_eq_true h), fun h => ?_⟩
    have := of_decide_eq_false h
    rw [nb_lt hy hx] at this
    exact Int.not_lt.mp this
  | m + 5 =>
    refine ⟨fun h => (nb_le hx hy).mp (of_decide_eq_true h), fun h => ?_⟩
    have := of_decide_eq_false h
    rw [nb_le hx hy] at this
    exact Int.not_le.mp this
theorem br_ok {G : aG} {Φ : Option Value → xC → Prop} {σ : aσ} {e : aE} {k pc : Nat} {C : aH} {L : aL} {S T : List aV} {fr : List aR} {i : Instr} {len c : Nat} {off : Int} {x y : aF} {ss : List aS} (ha : aBr e k C pc L T fr c (bneg c) off x y = some ss) (hsp : xspot k pc = false) (hlk : xe_lk (xm_t (xMT k)) pc = some (i, len)) (hi : ∀ ih : xH, xe_i xMT ih k (cH σ C) pc (cL σ L) (S.map (cV σ)) i = xe_jmp pc off fun t => cond (bop c (Int32.ofInt (cF σ x)) (Int32.ofInt (cF σ y))) (ih k (cH σ C) t (cL σ L) (T.map (cV σ))) (ih k (cH σ C) (pc + 3) (cL σ L) (T.map (cV σ)))) (hw : wfs (e, k, C, pc, L, S, fr)) (hs : satS G σ (e, k, C, pc, L, S, fr)) (hx : wF e.1 x) (hy : wF e.1 y) (hT : wS e.1 T) : Sim G Φ σ (e, k, C, pc, L, S, fr) ss := by
  unfold aBr at ha
  split at ha
  · cases ha
  · rename_i r1 h1
    split at ha
    · cases ha
    · rename_i r2 h2
      obtain ⟨t, ht, ha⟩ := xe_jmp_inv ha
      obtain ⟨b1, b2, b3⟩ := cnd_c h1 hs.1 hw.1 hx hy
      obtain ⟨_, _, d3⟩ := cnd_c h2 hs.1 hw.1 hx hy
      have key : ∀ ih : xH, xe_i xMT ih k (cH σ C) pc (cL σ L) (S.map (cV σ)) i = cond (bop c (Int32.ofInt (cF σ x)) (Int32.ofInt (cF σ y))) (ih k (cH σ C) t (cL σ L) (T.map (cV σ))) (ih k (cH σ C) (pc + 3) (cL σ L) (T.map (cV σ))) := fun ih => (hi ih).trans (jmp_at ht)
      cases hb : bop c (Int32.ofInt (cF σ x)) (Int32.ofInt (cF σ y)) with
      | true =>
        rw [hb] at key
        obtain ⟨e1, rfl, c1, c2, c3, c4⟩ := b3 ((bop_c b1 b2).1 hb)
        have hm : (e1, k, C, t, L, T, fr) ∈ ss := by
          cases r2 <;> (dsimp only at ha; cases ha; simp)
        exact sim_e hw hs c1 c2 c3 c4 hw.2.2.1 hT hw.2.2.2.2 hm (fun g => RP_i (k1 := k) hsp hlk key g)
      | false =>
        rw [hb] at key
        obtain ⟨e1, rfl, c1, c2, c3, c4⟩ := d3 ((bop_c b1 b2).2 hb)
        have hm : (e1, k, C, pc + 3, L, T, fr) ∈ ss := by
          cases r1 <;> (dsimp only at ha; cases ha; simp)
        exact sim_e hw hs c1 c2 c3 c4 hw.2.2.1 hT hw.2.2.2.2 hm (fun g => RP_i (k1 := k) hsp hlk key g)
theorem br1_ok {G : aG} {Φ : Option Value → xC → Prop} {σ : aσ} {e : aE} {k pc : Nat} {C : aH} {L : aL} {S : List aV} {fr : List aR} {i : Instr} {len c : Nat} {off : Int} {ss : List aS} (ha : aBr1 e k C pc L S fr c (bneg c) off = some ss) (hsp : xspot k pc = false) (hlk : xe_lk (xm_t (xMT k)) pc = some (i, len)) (hi : ∀ (ih : xH) (C : xC) (L : xL) (x : Int32) (T : List Value), xe_i xMT ih k C pc L (.int x :: T) i = xe_jmp pc off fun t => cond (bop c x (Int32.ofInt 0)) (ih k C t L T) (ih k C (pc + 3) L T)) (hw : wfs (e, k, C, pc, L, S, fr)) (hs : satS G σ (e, k, C, pc, L, S, fr)) : Sim G Φ σ (e, k, C, pc, L, S, fr) ss := by
  unfold aBr1 at ha
  split at ha
  · rename_i x T
    obtain ⟨hx, hT⟩ := tail_w hw.2.2.2.1
    refine br_ok ha hsp hlk (fun ih => ?_) hw hs hx lcst_w hT
    rw [lcst_c]
    exact hi ih _ _ _ _
  · cases ha
theorem br2_ok {G : aG} {Φ : Option Value → xC → Prop} {σ : aσ} {e : aE} {k pc : Nat} {C : aH} {L : aL} {S : List aV} {fr : List aR} {i : Instr} {len c : Nat} {off : Int} {ss : List aS} (ha : aBr2 e k C pc L S fr c (bneg c) off = some ss) (hsp : xspot k pc = false) (hlk : xe_lk (xm_t (xMT k)) pc = some (i, len)) (hi : ∀ (ih : xH) (C : xC) (L : xL) (x y : Int32) (T : List Value), xe_i xMT ih k C pc L (.int y :: .int x :: T) i = xe_jmp pc off fun t => cond (bop c x y) (ih k C t L T) (ih k C (pc + 3) L T)) (hw : wfs (e, k, C, pc, L, S, fr)) (hs : satS G σ (e, k, C, pc, L, S, fr)) : Sim G Φ σ (e, k, C, pc, L, S, fr) ss := by
  unfold aBr2 at ha
  split at ha
  · rename_i y x T
    obtain ⟨hy, hT⟩ := tail_w hw.2.2.2.1
    obtain ⟨hx, hT⟩ := tail_w hT
    exact br_ok ha hsp hlk (fun ih => hi ih _ _ _ _ _) hw hs hx hy hT
  · cases ha
/-- a way of a switch -/
theorem way_c {σ : aσ} {e : aE} {k pc : Nat} {C : aH} {L : aL} {T : List aV} {fr : List aR} {c n : Nat} {off v : Int} {x : aF} {r : Option (List aS)} {ss : List aS} (ha : aWay e k C pc L T fr c off x v r = some ss) (hs : sat σ e) (hw : wfe n e) (hx : wF n x) : (aMN ≤ cF σ x ∧ cF σ x ≤ aMX) ∧ (∃ l, r = some l ∧ ∀ s ∈ l, s ∈ ss) ∧ (cmpP c (cF σ x) v → ∃ (e1 : aE) (t : Nat), sat σ e1 ∧ wfe n e1 ∧ e1.1 = e.1 ∧ gE e1 = gE e ∧ (pc : Int) + off = (t : Int) ∧ (e1, k, C, t, L, T, fr) ∈ ss) := by
  unfold aWay at ha
  split at ha
  · cases ha
  · rename_i h1
    obtain ⟨b1, b2, b3⟩ := cnd_c h1 hs hw hx lcst_w
    rw [lcst_c] at b3
    refine ⟨b1, ⟨ss, ha, fun s h => h⟩, fun hc => ?_⟩
    obtain ⟨e1, h2, _⟩ := b3 hc
    cases h2
  · rename_i e1 h1
    obtain ⟨b1, b2, b3⟩ := cnd_c h1 hs hw hx lcst_w
    rw [lcst_c] at b3
    split at ha
    · cases ha
    · rename_i l
      obtain ⟨t, ht, ha⟩ := xe_jmp_inv ha
      cases ha
      refine ⟨b1, ⟨l, rfl, fun s h => List.mem_cons_of_mem _ h⟩, fun hc => ?_⟩
      obtain ⟨e2, h2, c1, c2, c3, c4⟩ := b3 hc
      cases h2
      exact ⟨e1, t, c1, c2, c3, c4, ht, List.mem_cons_self⟩
theorem swtR_c {σ : aσ} {e : aE} {k pc n : Nat} {C : aH} {L : aL} {T : List aV} {fr : List aR} {dflt lo hi : Int} {x : aF} (hs : sat σ e) (hw : wfe n e) (hx : wF n x) (offs : List Int) (v : Int) (ss : List aS) (ha : aSwtR e k C pc L T fr dflt lo hi x offs v = some ss) : (aMN ≤ cF σ x ∧ cF σ x ≤ aMX) ∧ ((cF σ x < lo ∨ hi < cF σ x) → ∃ (e1 : aE) (t : Nat), sat σ e1 ∧ wfe n e1 ∧ e1.1 = e.1 ∧ gE e1 = gE e ∧ (pc : Int) + dflt = (t : Int) ∧ (e1, k, C, t, L, T, fr) ∈ ss) ∧ (v ≤ cF σ x → cF σ x < v + offs.length → ∃ (off : Int) (e1 : aE) (t : Nat), offs[(cF σ x - v).toNat]? = some off ∧ sat σ e1 ∧ wfe n e1 ∧ e1.1 = e.1 ∧ gE e1 = gE e ∧ (pc : Int) + off = (t : Int) ∧ (e1, k, C, t, L, T, fr) ∈ ss) := by
  induction offs generalizing v ss with
  | nil =>
    obtain ⟨a1, ⟨l, a2, a3⟩, a4⟩ := way_c (show aWay e k C pc L T fr 2 dflt x lo (aWay e k C pc L T fr 4 dflt x hi (some [])) = some ss from ha) hs hw hx
    obtain ⟨_, _, b4⟩ := way_c a2 hs hw hx
    refine ⟨a1, fun h => ?_, fun h1 h2 => ?_⟩
    · rcases h with h | h
      · exact a4 h
      · obtain ⟨e1, t, c1, c2, c3, c4, c5, c6⟩ := b4 h
        exact ⟨e1, t, c1, c2, c3, c4, c5, a3 _ c6⟩
    · simp at h2
      omega
  | cons off t ih =>
    obtain ⟨a1, ⟨l, a2, a3⟩, a4⟩ := way_c (show aWay e k C pc L T fr 0 off x v (fI (Int.add v 1) (aSwtR e k C pc L T fr dflt lo hi x t)) = some ss from ha) hs hw hx
    rw [fI_eq] at a2
    obtain ⟨i1, i2, i3⟩ := ih _ _ a2
    refine ⟨a1, fun h => ?_, fun h1 h2 => ?_⟩
    · obtain ⟨e1, t, c1, c2, c3, c4, c5, c6⟩ := i2 h
      exact ⟨e1, t, c1, c2, c3, c4, c5, a3 _ c6⟩
    · by_cases hv : cF σ x = v
      · obtain ⟨e1, t, c1, c2, c3, c4, c5, c6⟩ := a4 hv
        exact ⟨off, e1, t, by rw [hv, show (v - v).toNat = 0 by omega]; rfl, c1, c2, c3, c4, c5, c6⟩
      · have e0 : Int.add v 1 = v + 1 := rfl
        rw [e0] at i3
        obtain ⟨o1, e1, t1, c0, c1, c2, c3, c4, c5, c6⟩ := i3 (by omega) (by simp at h2; omega)
        refine ⟨o1, e1, t1, ?_, c1, c2, c3, c4, c5, a3 _ c6⟩
        rw [show (cF σ x - v).toNat = (cF σ x - (v + 1)).toNat + 1 by omega]
        exact c0
theorem swt_ok {G : aG} {Φ : Option Value → xC → Prop} {σ : aσ} {e : aE} {k pc : Nat} {C : aH} {L : aL} {S : List aV} {fr : List aR} {len : Nat} {dflt lo hi : Int} {offs : Array Int} {ss : List aS} (ha : aSwt e k C pc L S fr dflt lo hi offs = some ss) (hsp : xspot k pc = false) (hlk : xe_lk (xm_t (xMT k)) pc = some (.tableswitch dflt lo hi offs, len)) (hw : wfs (e, k, C, pc, L, S, fr)) (hs : satS G σ (e, k, C, pc, L, S, fr)) : Sim G Φ σ (e, k, C, pc, L, S, fr) ss := by
  unfold aSwt at ha
  split at ha
  · rename_i x T
    obtain ⟨hx, hT⟩ := tail_w hw.2.2.2.1
    have hx : wF e.1 x := hx
    have hi0 : ∀ ih : xH, xe_i xMT ih k (cH σ C) pc (cL σ L) ((Sum.inl x :: T).map (cV σ)) (.tableswitch dflt lo hi offs) = cond (decide ((Int32.ofInt (cF σ x)).toInt < lo) || decide (hi < (Int32.ofInt (cF σ x)).toInt)) (xe_jmp pc dflt fun t => ih k (cH σ C) t (cL σ L) (T.map (cV σ))) (match xe_nth offs.toList ((Int32.ofInt (cF σ x)).toInt - lo).toNat with
      | some off => xe_jmp pc off fun t => ih k (cH σ C) t (cL σ L) (T.map (cV σ))
      | none => none) := fun _ => rfl
    have out : ∀ (e1 : aE) (t : Nat), aMN ≤ cF σ x ∧ cF σ x ≤ aMX → (cF σ x < lo ∨ hi < cF σ x) → sat σ e1 → wfe e.1 e1 → e1.1 = e.1 → gE e1 = gE e → (pc : Int) + dflt = (t : Int) → (e1, k, C, t, L, T, fr) ∈ ss → Sim G Φ σ (e, k, C, pc, L, Sum.inl x :: T, fr) ss := by
      intro e1 t b1 h c1 c2 c3 c4 ht hm
      refine sim_e hw hs c1 c2 c3 c4 hw.2.2.1 hT hw.2.2.2.2 hm (fun g => RP_i (k1 := k) hsp hlk (fun ih => ?_) g)
      rw [hi0 ih, oi_toInt b1.1 b1.2, show (decide (cF σ x < lo) || decide (hi < cF σ x)) = true by simpa using h]
      exact jmp_at ht
    have inn : ∀ (off : Int) (e1 : aE) (t : Nat), aMN ≤ cF σ x ∧ cF σ x ≤ aMX → lo ≤ cF σ x → cF σ x ≤ hi → offs.toList[(cF σ x - lo).toNat]? = some off → sat σ e1 → wfe e.1 e1 → e1.1 = e.1 → gE e1 = gE e → (pc : Int) + off = (t : Int) → (e1, k, C, t, L, T, fr) ∈ ss → Sim G Φ σ (e, k, C, pc, L, Sum.inl x :: T, fr) ss := by
      intro off e1 t b1 h h2 ho c1 c2 c3 c4 ht hm
      refine sim_e hw hs c1 c2 c3 c4 hw.2.2.1 hT hw.2.2.2.2 hm (fun g => RP_i (k1 := k) hsp hlk (fun ih => ?_) g)
      rw [hi0 ih, oi_toInt b1.1 b1.2, show (decide (cF σ x < lo) || decide (hi < cF σ x)) = false by simp; omega, xe_nth_eq, ho]
      exact jmp_at ht
    split at ha
    · rename_i hx0
      have hX : cF σ x = x.1 := by show x.1 + cT σ x.2 = x.1; rw [hx0]; show x.1 + 0 = x.1; omega
      obtain ⟨h1, ha⟩ := cond_so ha
      obtain ⟨h1, h2⟩ := cond_tf h1
      have b1 : aMN ≤ cF σ x ∧ cF σ x ≤ aMX := by rw [hX]; exact ⟨iLe_le h1, iLe_le h2⟩
      cases hq : (cond (iLe lo x.1) (iLe x.1 hi) false) with
      | true =>
        rw [hq] at ha
        obtain ⟨h3, h4⟩ := cond_tf hq
        simp only [cond_true] at ha
        split at ha
        · rename_i off ho
          obtain ⟨t, ht, ha⟩ := xe_jmp_inv ha
          cases ha
          rw [xe_nth_eq] at ho
          have e0 : Int.sub x.1 lo = cF σ x - lo := by rw [hX]; rfl
          rw [e0] at ho
          exact inn off e t b1 (by rw [hX]; exact iLe_le h3) (by rw [hX]; exact iLe_le h4) ho hs.1 hw.1 rfl rfl ht (List.mem_singleton.mpr rfl)
        · cases ha
      | false =>
        rw [hq] at ha
        obtain ⟨t, ht, ha⟩ := xe_jmp_inv ha
        cases ha
        refine out e t b1 ?_ hs.1 hw.1 rfl rfl ht (List.mem_singleton.mpr rfl)
        rw [hX]
        cases h3 : iLe lo x.1 with
        | true =>
          rw [h3] at hq
          exact Or.inr (iLe_false hq)
        | false => exact Or.inl (iLe_false h3)
    · obtain ⟨h1, ha⟩ := cond_so ha
      have h1 : lo + (offs.toList.length : Int) = hi + 1 := iEq_eq h1
      obtain ⟨a1, a2, a3⟩ := swtR_c (σ := σ) (n := e.1) hs.1 hw.1 hx _ _ _ ha
      by_cases h : cF σ x < lo ∨ hi < cF σ x
      · obtain ⟨e1, t, c1, c2, c3, c4, c5, c6⟩ := a2 h
        exact out e1 t a1 h c1 c2 c3 c4 c5 c6
      · obtain ⟨off, e1, t, c0, c1, c2, c3, c4, c5, c6⟩ := a3 (by omega) (by omega)
        exact inn off e1 t a1 (by omega) (by omega) c0 c1 c2 c3 c4 c5 c6
  · cases ha
theorem swlR_c {σ : aσ} {k pc n : Nat} {C : aH} {L : aL} {T : List aV} {fr : List aR} {dflt : Int} {x : aF} (hx : wF n x) (hr : aMN ≤ cF σ x ∧ cF σ x ≤ aMX) (ps : List (Int × Int)) (e : aE) (hs : sat σ e) (hw : wfe n e) (ss : List aS) (ha : aSwlR k C pc L T fr dflt x ps e = some ss) : ∃ (e1 : aE) (t : Nat), sat σ e1 ∧ wfe n e1 ∧ e1.1 = e.1 ∧ gE e1 = gE e ∧ (pc : Int) + Op.lookupswitch.offset ps dflt (cF σ x) = (t : Int) ∧ (e1, k, C, t, L, T, fr) ∈ ss := by
  induction ps generalizing e ss with
  | nil =>
    obtain ⟨t, ht, ha⟩ := xe_jmp_inv (show xe_jmp pc dflt (fun t => some [(e, k, C, t, L, T, fr)]) = some ss from ha)
    cases ha
    exact ⟨e, t, hs, hw, rfl, rfl, ht, List.mem_singleton.mpr rfl⟩
  | cons q t ih =>
    obtain ⟨a, o⟩ := q
    obtain ⟨a1, ⟨l, a2, a3⟩, a4⟩ := way_c (σ := σ) (n := n) (show aWay e k C pc L T fr 0 o x a (match cnd e 1 x (a, []) with
      | none => none
      | some none => some []
      | some (some e2) => aSwlR k C pc L T fr dflt x t e2) = some ss from ha) hs hw hx
    show ∃ (e1 : aE) (t1 : Nat), sat σ e1 ∧ wfe n e1 ∧ e1.1 = e.1 ∧ gE e1 = gE e ∧ (pc : Int) + (if a = cF σ x then o else Op.lookupswitch.offset t dflt (cF σ x)) = (t1 : Int) ∧ (e1, k, C, t1, L, T, fr) ∈ ss
    by_cases hv : a = cF σ x
    · rw [if_pos hv]
      exact a4 hv.symm
    · rw [if_neg hv]
      split at a2
      · cases a2
      · rename_i h1
        obtain ⟨_, _, b3⟩ := cnd_c h1 hs hw hx lcst_w
        rw [lcst_c] at b3
        obtain ⟨e1, h2, _⟩ := b3 (fun h => hv h.symm)
        cases h2
      · rename_i e2 h1
        obtain ⟨_, _, b3⟩ := cnd_c h1 hs hw hx lcst_w
        rw [lcst_c] at b3
        obtain ⟨e3, h2, c1, c2, c3, c4⟩ := b3 (fun h => hv h.symm)
        cases h2
        obtain ⟨e4, t4, d1, d2, d3, d4, d5, d6⟩ := ih e2 c1 c2 _ a2
        exact ⟨e4, t4, d1, d2, d3.trans c3, d4.trans c4, d5, a3 _ d6⟩
theorem swl_ok {G : aG} {Φ : Option Value → xC → Prop} {σ : aσ} {e : aE} {k pc : Nat} {C : aH} {L : aL} {S : List aV} {fr : List aR} {len : Nat} {dflt : Int} {ps : Array (Int × Int)} {ss : List aS} (ha : aSwl e k C pc L S fr dflt ps = some ss) (hsp : xspot k pc = false) (hlk : xe_lk (xm_t (xMT k)) pc = some (.lookupswitch dflt ps, len)) (hw : wfs (e, k, C, pc, L, S, fr)) (hs : satS G σ (e, k, C, pc, L, S, fr)) : Sim G Φ σ (e, k, C, pc, L, S, fr) ss := by
  unfold aSwl at ha
  split at ha
  · rename_i x T
    obtain ⟨hx, hT⟩ := tail_w hw.2.2.2.1
    have hx : wF e.1 x := hx
    obtain ⟨h0, ha⟩ := cond_so ha
    obtain ⟨hn, h0⟩ := cond_tf h0
    have hr : aMN ≤ cF σ x ∧ cF σ x ≤ aMX := by
      obtain ⟨q, t, hq⟩ := List.exists_cons_of_length_pos (Nat.le_of_ble_eq_true hn)
      rw [hq] at ha
      exact (way_c (σ := σ) (n := e.1) (show aWay e k C pc L T fr 0 q.2 x q.1 (match cnd e 1 x (q.1, []) with
      | none => none
      | some none => some []
      | some (some e2) => aSwlR k C pc L T fr dflt x t e2) = some ss from ha) hs.1 hw.1 hx).1
    obtain ⟨e1, t, c1, c2, c3, c4, c5, c6⟩ := swlR_c (σ := σ) (n := e.1) hx hr _ e hs.1 hw.1 _ ha
    refine sim_e hw hs c1 c2 c3 c4 hw.2.2.1 hT hw.2.2.2.2 c6 (fun g => RP_i (k1 := k) hsp hlk (fun ih => ?_) g)
    show cond ((ps.toList.zip (ps.toList.drop 1)).all (fun (a, next) => a.1 < next.1)) (xe_jmp pc (Op.lookupswitch.offset ps.toList dflt (Int32.ofInt (cF σ x)).toInt) fun t => ih k (cH σ C) t (cL σ L) (T.map (cV σ))) none = _
    rw [h0, oi_toInt hr.1 hr.2]
    exact jmp_at c5
  · cases ha
