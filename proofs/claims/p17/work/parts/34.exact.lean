/-! EXACT ANSWERS: runs with a further check at their ends -/
noncomputable def sσ (G : aG) (σ : aσ) (xs : List Int32) : aσ := fun i => if i < G.2.2.2.2.1.length then σ i else match xs[i - G.2.2.2.2.1.length]? with
  | some x => fun _ => x.toInt
  | none => fun _ => 0
noncomputable def aRunX (HN : List (List (Nat × aHn))) (G : aG) (FIN : aE → aH → Option aF → Bool) (rs : List (Int × Int)) (k p n : Nat) : Bool := match cids G.2.2.2.2.2 G.1 with
  | some T => fR (aPr rs G.2.2.2.2.1.length (nmV G.2.2.2.2.1 0 [])) fun V1 => fR (nmA G.2.2.2.2.1 0 []) fun A1 => fH G.2.2.2.2.2 fun C1 => fL (aArgs (.inr p :: aPs rs G.2.2.2.2.1.length) 0) fun L1 => xe_fn (G.2.2.2.2.1.length + rs.length) fun w => ai G FIN HN (fun _ _ => none) n none [] ((w, V1, A1, [], [], [], [], [T], [], (G.2.2.1, [])), k, C1, 0, L1, [], [])
  | none => false
/-- a run of the interpreter with any end -/
theorem con_gen {HN : List (List (Nat × aHn))} {G : aG} {FIN : aE → aH → Option aF → Bool} {rs : List (Int × Int)} {k p n : Nat} (hG : aGok G) (hSM : SumOK G) (h : aRunX HN G FIN rs k p n = true) {σ : aσ} {xs : List Int32} (hI : InvV G σ) (hx : rngP rs (xs.map Int32.toInt)) {Φ : Option Value → xC → Prop} (hF : FinOK FIN Φ (G.2.2.2.2.1.length + rs.length) (sσ G σ xs)) : RP k (cH σ G.2.2.2.2.2) 0 (lv_args 0 (.ref p :: xs.map .int)) [] Φ := by
  obtain ⟨i1, i2, cs, i3, i4⟩ := hI
  unfold aRunX at h
  rw [i3] at h
  dsimp only at h
  simp only [fR_eq, fH_eq, fL_eq, xe_fn_eq] at h
  -- names for the arguments
  obtain ⟨σ0, hσ0⟩ : ∃ σ0 : aσ, σ0 = sσ G σ xs := ⟨_, rfl⟩
  rw [← hσ0] at hF
  unfold sσ at hσ0
  have hag : aAg G.2.2.2.2.1.length σ σ0 := fun i hi => by rw [hσ0]; dsimp only; rw [if_pos hi]
  have hat : ∀ (m : Nat) (x : Int32), xs[m]? = some x → σ0 (G.2.2.2.2.1.length + m) = fun _ => x.toInt := fun m x hm => by
    rw [hσ0]
    dsimp only
    rw [if_neg (by omega), show G.2.2.2.2.1.length + m - G.2.2.2.2.1.length = m by omega, hm]
  have hB0 : aBD σ0 := by
    intro v j
    rw [hσ0]
    dsimp only
    by_cases hv : v < G.2.2.2.2.1.length
    · rw [if_pos hv]; exact i1 v j
    · rw [if_neg hv]
      cases xs[v - G.2.2.2.2.1.length]? with
      | none => exact (show aMN ≤ (0 : Int) ∧ (0 : Int) ≤ aMX from ⟨by decide, by decide⟩)
      | some x => exact oi_le x
  have hlen : ∀ (rs : List (Int × Int)) (ys : List Int), rngP rs ys → rs.length = ys.length := by
    intro rs
    induction rs with
    | nil => intro ys h; cases ys with
      | nil => rfl
      | cons y t => cases h
    | cons r t ih => intro ys h; cases ys with
      | nil => cases h
      | cons y u => exact congrArg (· + 1) (ih u h.2)
  have hl0 : rs.length = xs.length := by rw [hlen _ _ hx, List.length_map]
  have hpr : ∀ (rs : List (Int × Int)) (n : Nat) (W : List (Nat × Int × Int)) (q : Nat × Int × Int), q ∈ aPr rs n W → q ∈ W ∨ ∃ (m : Nat) (r : Int × Int), rs[m]? = some r ∧ q = (n + m, r.1, r.2) := by
    intro rs
    induction rs with
    | nil => exact fun n W q hq => Or.inl hq
    | cons r t ih =>
      intro n W q hq
      rcases List.mem_cons.mp (show q ∈ (n, r.1, r.2) :: aPr t (n + 1) W from hq) with e | e
      · exact Or.inr ⟨0, r, rfl, e⟩
      · rcases ih (n + 1) W q e with e | ⟨m, r', e1, e2⟩
        · exact Or.inl e
        · exact Or.inr ⟨m + 1, r', e1, by rw [e2, show n + 1 + m = n + (m + 1) by omega]⟩
  have hrp : ∀ (rs : List (Int × Int)) (ys : List Int) (m : Nat) (r : Int × Int), rngP rs ys → rs[m]? = some r → ∃ y, ys[m]? = some y ∧ r.1 ≤ y ∧ y ≤ r.2 := by
    intro rs
    induction rs with
    | nil => intro ys m r _ hr; cases hr
    | cons r t ih =>
      intro ys m r' h hr
      cases ys with
      | nil => cases h
      | cons y u =>
        cases m with
        | zero => cases hr; exact ⟨y, rfl, h.1.1, h.1.2⟩
        | succ m => exact ih u m r' h.2 hr
  have hcw := cids_w hG.2.2.1 i3
  have hle : G.2.2.2.2.1.length ≤ G.2.2.2.2.1.length + rs.length := Nat.le_add_right _ _
  have hps : ∀ (rs : List (Int × Int)) (n : Nat) (ys : List Int32), rs.length = ys.length → (∀ m x, ys[m]? = some x → σ0 (n + m) = fun _ => x.toInt) → (aPs rs n).map (cV σ0) = ys.map .int := by
    intro rs
    induction rs with
    | nil => intro n ys hl _; cases ys with
      | nil => rfl
      | cons y t => cases hl
    | cons r t ih =>
      intro n ys hl hy
      cases ys with
      | nil => cases hl
      | cons y u =>
        show cV σ0 (.inl (0, [(n, 1)])) :: (aPs t (n + 1)).map (cV σ0) = .int y :: u.map .int
        rw [ih (n + 1) u (by simpa using hl) (fun m x hm => by rw [show n + 1 + m = n + (m + 1) by omega]; exact hy (m + 1) x hm)]
        congr 1
        show Value.int (Int32.ofInt (cF σ0 (0, [(n, 1)]))) = Value.int y
        rw [lvar_c]
        have := hy 0 y rfl
        rw [Nat.add_zero] at this
        rw [this, oi_of]
  have hpw : ∀ (rs : List (Int × Int)) (n m : Nat), n + rs.length ≤ m → wS m (aPs rs n) := by
    intro rs
    induction rs with
    | nil => exact fun n m _ v hv => absurd hv List.not_mem_nil
    | cons r t ih =>
      intro n m hnm
      have hnm : n + (t.length + 1) ≤ m := hnm
      exact cons_w (v := .inl (0, [(n, 1)])) (lvar_w (by omega)) (ih (n + 1) m (by omega))
  have hw : wfs ((G.2.2.2.2.1.length + rs.length, aPr rs G.2.2.2.2.1.length (nmV G.2.2.2.2.1 0 []), nmA G.2.2.2.2.1 0 [], [], [], [], [], [cs], [], (G.2.2.1, [])), k, G.2.2.2.2.2, 0, aArgs (.inr p :: aPs rs G.2.2.2.2.1.length) 0, [], []) := by
    refine ⟨⟨fun q hq => ?_, fun q hq => ?_, fun f hf => absurd hf List.not_mem_nil, fun f hf => absurd hf List.not_mem_nil, fun f hf => absurd hf List.not_mem_nil, fun f hf => absurd hf List.not_mem_nil, fun l hl => ?_, fun f hf => absurd hf List.not_mem_nil, lcst_w⟩, wH_le hle hG.2.2.1, aArgs_w (cons_w (v := .inr p) trivial (hpw _ _ _ (Nat.le_refl _))) 0, fun v hv => absurd hv List.not_mem_nil, fun v hv => absurd hv List.not_mem_nil⟩
    · rcases hpr _ _ _ q hq with e | ⟨m, r, e1, e2⟩
      · rcases nmV_mem e with e | ⟨m, z, e1, _, e3⟩
        · exact absurd e List.not_mem_nil
        · rw [e3]
          have := (List.getElem?_eq_some_iff.mp e1).1
          show 0 + m < G.2.2.2.2.1.length + rs.length
          omega
      · rw [e2]
        have := (List.getElem?_eq_some_iff.mp e1).1
        show G.2.2.2.2.1.length + m < G.2.2.2.2.1.length + rs.length
        omega
    · rcases nmA_mem hq with e | ⟨m, z, e1, _, e3⟩
      · exact absurd e List.not_mem_nil
      · rw [e3]
        have := (List.getElem?_eq_some_iff.mp e1).1
        show 0 + m < G.2.2.2.2.1.length + rs.length
        omega
    · rcases List.mem_cons.mp hl with e | e
      · rw [e]; exact fun c hc => Nat.lt_of_lt_of_le (hcw c hc) hle
      · exact absurd e List.not_mem_nil
  have hs : satS G σ0 ((G.2.2.2.2.1.length + rs.length, aPr rs G.2.2.2.2.1.length (nmV G.2.2.2.2.1 0 []), nmA G.2.2.2.2.1 0 [], [], [], [], [], [cs], [], (G.2.2.1, [])), k, G.2.2.2.2.2, 0, aArgs (.inr p :: aPs rs G.2.2.2.2.1.length) 0, [], []) := by
    refine ⟨⟨hB0, fun q hq => ?_, fun q hq j => ?_, fun f hf => absurd hf List.not_mem_nil, fun f hf => absurd hf List.not_mem_nil, fun f hf => absurd hf List.not_mem_nil, fun f hf => absurd hf List.not_mem_nil, fun l hl => ?_, fun f hf => absurd hf List.not_mem_nil⟩, ?_, hG.2.2.2.1, hG.2.2.2.2.1⟩
    · rcases hpr _ _ _ q hq with e | ⟨m, r, e1, e2⟩
      · rcases nmV_mem e with e | ⟨m, z, e1, e2, e3⟩
        · exact absurd e List.not_mem_nil
        · rw [e3]
          have := (List.getElem?_eq_some_iff.mp e1).1
          show z.2.2.2.1 ≤ σ0 (0 + m) 0 ∧ σ0 (0 + m) 0 ≤ z.2.2.2.2
          rw [Nat.zero_add, ← hag m this]
          exact (i2 m z e1).2 e2
      · rw [e2]
        obtain ⟨y, y1, y2⟩ := hrp _ _ m r hx e1
        rw [List.getElem?_map] at y1
        cases hxm : xs[m]? with
        | none => rw [hxm] at y1; cases y1
        | some x =>
          rw [hxm] at y1
          cases y1
          show r.1 ≤ σ0 (G.2.2.2.2.1.length + m) 0 ∧ σ0 (G.2.2.2.2.1.length + m) 0 ≤ r.2
          rw [hat m x hxm]
          exact y2
    · rcases nmA_mem hq with e | ⟨m, z, e1, e2, e3⟩
      · exact absurd e List.not_mem_nil
      · rw [e3]
        have := (List.getElem?_eq_some_iff.mp e1).1
        show z.2.2.2.1 ≤ σ0 (0 + m) j ∧ σ0 (0 + m) j ≤ z.2.2.2.2
        rw [Nat.zero_add, ← hag m this]
        exact (i2 m z e1).1 e2 j
    · rcases List.mem_cons.mp hl with e | e
      · rw [e]; exact toldS_ag hag hcw i4
      · exact absurd e List.not_mem_nil
    · show phi G.2.1 (cH σ0 G.2.2.2.2.2) ≤ cF σ0 (G.2.2.1, [])
      rw [lcst_c]
      exact Int.le_trans (phi_max _ _ _) hG.2.2.2.1
  have hgo := ai_ok (HN := HN) (MAC := fun _ _ => none) hSM hF (fun _ _ _ _ hm => by cases hm) n [] _ σ0 h hw hs (Nat.le_refl _) (fun _ _ => rfl) (fun q hq => absurd hq List.not_mem_nil)
  have hgo : RP k (cH σ0 G.2.2.2.2.2) 0 (cL σ0 (aArgs (.inr p :: aPs rs G.2.2.2.2.1.length) 0)) [] Φ := hgo
  rw [← cH_ag hag hG.2.2.1, ← aArgs_c] at hgo
  have e1 : (Sum.inr p :: aPs rs G.2.2.2.2.1.length : List aV).map (cV σ0) = .ref p :: xs.map .int := by
    show Value.ref p :: (aPs rs G.2.2.2.2.1.length).map (cV σ0) = _
    rw [hps _ _ xs hl0 hat]
  rw [e1] at hgo
  exact hgo
theorem fin_c {G : aG} {sm : aSm} {σ : aσ} (hG : aGok G) (hr : ∀ q ∈ sm.2.1, aMN ≤ q.1 ∧ q.2 ≤ aMX) {e : aE} {C : aH} {r : Option aF} {τ : aσ} (hf : aFin G sm e C r = true) (t1 : sat τ e) (t6 : aAg G.2.2.2.2.1.length σ τ) : InvV G (aTau τ G.2.2.2.2.1 0 C [] (0, [])) ∧ cH τ C = cH (aTau τ G.2.2.2.2.1 0 C [] (0, [])) G.2.2.2.2.2 ∧ frmP sm σ (aTau τ G.2.2.2.2.1 0 C [] (0, [])) G.2.2.2.2.1 ∧ retP sm.2.1 (r.map fun f => .int (Int32.ofInt (cF τ f))) := by
  unfold aFin at hf
  obtain ⟨f1, f2⟩ := cond_tf hf
  obtain ⟨f2, f3⟩ := cond_tf f2
  obtain ⟨v1, v2, v3, v4⟩ := inv_c hG f1 t1
  refine ⟨v1, v2.symm, fun i q hi hm => ?_, ?_⟩
  · obtain ⟨a1, a2⟩ := aFrm_c f2 i q hi hm
    rw [Nat.zero_add] at a1 a2
    have hat := aTau_at (σ := τ) (n0 := 0) (C := C) (L := []) (g := (0, [])) hi
    rw [Nat.zero_add] at hat
    have hilt := (List.getElem?_eq_some_iff.mp hi).1
    rw [hat]
    refine ⟨fun e3 => ?_, fun e3 => ?_⟩
    · unfold sval
      rw [if_pos e3, a1 e3]
      exact (t6 i hilt).symm
    · unfold sval
      rw [if_neg e3]
      by_cases e2 : q.1 = 2
      · have h0 : sform C [] (0, []) q = some (0, []) := by unfold sform; rw [e2]; rfl
        rw [a2 e3] at h0
        cases h0
      · rw [if_neg e2, a2 e3]
        show (Int32.ofInt (cF τ (0, [(i, 1)]))).toInt = σ i 0
        rw [lvar_c, oi_toInt (t1.1 i 0).1 (t1.1 i 0).2, t6 i hilt]
  · cases hsr : sm.2.1 with
    | none =>
      rw [hsr] at f3
      cases r with
      | none => rfl
      | some f => cases f3
    | some q =>
      rw [hsr] at f3
      obtain ⟨a, b⟩ := q
      cases r with
      | none => cases f3
      | some f =>
        have f3 : cond (cond (iEq a aMN) (iEq b aMX) false) true (prB e.2.1 e.2.2.2.1 f a b) = true := f3
        refine ⟨Int32.ofInt (cF τ f), rfl, ?_⟩
        rcases cond_tt f3 with f3 | f3
        · obtain ⟨g1, g2⟩ := cond_tf f3
          rw [iEq_eq g1, iEq_eq g2]
          exact oi_le _
        · have g := prB_c t1.1 t1.2.1 t1.2.2.2.1 f3
          have hq := hr (a, b) (by rw [hsr]; rfl)
          have hq1 : aMN ≤ a := hq.1
          have hq2 : b ≤ aMX := hq.2
          rw [oi_toInt (by omega) (by omega)]
          exact g
/-- the end of input(): what it answers, and the new count, by path -/
noncomputable def aXin (p j id vid : Nat) (e : aE) (C : aH) (r : Option aF) : Bool := match sform C [] (0, []) (1, p, j, 0, 0), r with
  | some f, some q => cond (cond (lEq q (-1, [])) (lEq f (0, [(id, 1)])) false) (cond (pr0 e.2.1 (lsub (-1, []) (0, [(vid, 1)]))) true (cond (pr0 e.2.1 (lsub (0, [(vid, 1)]) (256, []))) true (pr0 e.2.1 (lsub (0, [(id, 1)]) (16, []))))) (cond (lEq f (1, [(id, 1)])) (cond (lEq q f) (cond (pr0 e.2.1 (0, [(vid, 1)])) (cond (pr0 e.2.1 (lsub (255, []) (0, [(vid, 1)]))) (pr0 e.2.1 (lsub (15, []) (0, [(id, 1)]))) false) false) false) false)
  | _, _ => false
noncomputable def aFinX (G : aG) (sm : aSm) (X : aE → aH → Option aF → Bool) (e : aE) (C : aH) (r : Option aF) : Bool := cond (aFin G sm e C r) (X e C r) false
/-- what input(v) answers where the count is n, and the new count m -/
def inpP (n : Int) (v : Int32) (r : Option Value) (m : Int) : Prop := (¬ (0 ≤ v.toInt ∧ v.toInt ≤ 255 ∧ n ≤ 15) ∧ r = some (.int (-1)) ∧ m = n) ∨ ((0 ≤ v.toInt ∧ v.toInt ≤ 255 ∧ n ≤ 15) ∧ r = some (.int (Int32.ofInt (n + 1))) ∧ m = n + 1)
theorem inp_same {n : Int} {v : Int32} {r r' : Option Value} {m m' : Int} (h : inpP n v r m) (h' : inpP n v r' m') : r = r' ∧ m = m' := by
  rcases h with ⟨a, b, c⟩ | ⟨a, b, c⟩ <;> rcases h' with ⟨a', b', c'⟩ | ⟨a', b', c'⟩
  · exact ⟨b.trans b'.symm, c.trans c'.symm⟩
  · exact absurd a' a
  · exact absurd a a'
  · exact ⟨b.trans b'.symm, c.trans c'.symm⟩
theorem inp_con {HN : List (List (Nat × aHn))} {G : aG} {sm : aSm} {k n p j id : Nat} {lo hi : Int} (hG : aGok G) (hSM : SumOK G) (hr : ∀ q ∈ sm.2.1, aMN ≤ q.1 ∧ q.2 ≤ aMX) (hid : G.2.2.2.2.1[id]? = some (1, p, j, lo, hi)) (hhi : -1 ≤ lo ∧ hi ≤ 16) (h : aRunX HN G (aFinX G sm (aXin p j id G.2.2.2.2.1.length)) [(aMN, aMX)] k 0 n = true) {σ : aσ} {v : Int32} (hI : InvV G σ) : RP k (cH σ G.2.2.2.2.2) 0 (lv_args 0 [.ref 0, .int v]) [] (fun r C' => ∃ τ, InvV G τ ∧ C' = cH τ G.2.2.2.2.2 ∧ frmP sm σ τ G.2.2.2.2.1 ∧ retP sm.2.1 r ∧ inpP (σ id 0) v r (τ id 0)) := by
  have hidl := (List.getElem?_eq_some_iff.mp hid).1
  refine con_gen (xs := [v]) hG hSM h hI ⟨oi_le v, trivial⟩ (fun e C r τ hf t1 t2 t3 t4 t5 t6 => ?_)
  obtain ⟨f1, f2⟩ := cond_tf hf
  have hagN : aAg G.2.2.2.2.1.length σ τ := fun i hi => by
    rw [← t6 i (by omega)]
    unfold sσ
    rw [if_pos hi]
  have hv : τ G.2.2.2.2.1.length = fun _ => v.toInt := by
    rw [← t6 G.2.2.2.2.1.length (by show G.2.2.2.2.1.length < G.2.2.2.2.1.length + 1; omega)]
    unfold sσ
    rw [if_neg (by omega), Nat.sub_self]
    rfl
  have hv0 : τ G.2.2.2.2.1.length 0 = v.toInt := by rw [hv]
  obtain ⟨c1, c2, c3, c4⟩ := fin_c hG hr f1 t1 hagN
  refine ⟨_, c1, c2, c3, c4, ?_⟩
  have hrg := hI.2.1 id _ hid
  have hrg : lo ≤ σ id 0 ∧ σ id 0 ≤ hi := hrg.2 (show (1 : Nat) ≠ 3 by decide)
  have hτid : τ id 0 = σ id 0 := by rw [hagN id hidl]
  have hat := aTau_at (σ := τ) (n0 := 0) (C := C) (L := []) (g := (0, [])) hid
  rw [Nat.zero_add] at hat
  have hB : aBD τ := t1.1
  have hV : aRG τ e.2.1 := t1.2.1
  have hsf : ∀ f, sform C [] (0, []) (1, p, j, 0, 0) = some f → aTau τ G.2.2.2.2.1 0 C [] (0, []) id 0 = (Int32.ofInt (cF τ f)).toInt := fun f hf => by
    rw [hat]
    unfold sval
    rw [if_neg (show ¬ (1 : Nat) = 3 by decide), if_neg (show ¬ (1 : Nat) = 2 by decide)]
    have : sform C [] (0, []) (1, p, j, lo, hi) = sform C [] (0, []) (1, p, j, 0, 0) := rfl
    rw [this, hf]
  unfold aXin at f2
  cases hs : sform C [] (0, []) (1, p, j, 0, 0) with
  | none => rw [hs] at f2; cases f2
  | some f =>
    rw [hs] at f2
    cases r with
    | none => cases f2
    | some q =>
      have hval := hsf f hs
      rw [hval]
      dsimp only at f2
      cases hc : (cond (lEq q (-1, [])) (lEq f (0, [(id, 1)])) false) with
      | true =>
        rw [hc] at f2
        simp only [cond_true] at f2
        obtain ⟨g1, g2⟩ := cond_tf hc
        refine Or.inl ⟨?_, ?_, ?_⟩
        · rcases cond_tt f2 with f2 | f2
          · have := pr0_c hB hV f2
            rw [lsub_c, lcst_c, lvar_c, hv0] at this
            omega
          · rcases cond_tt f2 with f2 | f2
            · have := pr0_c hB hV f2
              rw [lsub_c, lcst_c, lvar_c, hv0] at this
              omega
            · have := pr0_c hB hV f2
              rw [lsub_c, lcst_c, lvar_c, hτid] at this
              omega
        · rw [lEq_eq g1]
          show some (Value.int (Int32.ofInt (cF τ (-1, [])))) = _
          rw [lcst_c]
          rfl
        · rw [lEq_eq g2, lvar_c, oi_toInt (hB id 0).1 (hB id 0).2, hτid]
      | false =>
        rw [hc] at f2
        simp only [cond_false] at f2
        obtain ⟨g1, f2⟩ := cond_tf f2
        obtain ⟨g2, f2⟩ := cond_tf f2
        obtain ⟨g3, f2⟩ := cond_tf f2
        obtain ⟨g4, g5⟩ := cond_tf f2
        have h3 := pr0_c hB hV g3
        have h4 := pr0_c hB hV g4
        have h5 := pr0_c hB hV g5
        rw [lvar_c, hv0] at h3
        rw [lsub_c, lcst_c, lvar_c, hv0] at h4
        rw [lsub_c, lcst_c, lvar_c, hτid] at h5
        have ef : cF τ f = σ id 0 + 1 := by
          rw [lEq_eq g1]
          show 1 + (1 * τ id 0 + 0) = σ id 0 + 1
          rw [hτid]
          omega
        refine Or.inr ⟨⟨h3, by omega, by omega⟩, ?_, ?_⟩
        · rw [lEq_eq g2]
          show some (Value.int (Int32.ofInt (cF τ f))) = _
          rw [ef]
        · rw [ef]
          exact oi_toInt (by show -2147483648 ≤ _; omega) (by show _ ≤ (2147483647 : Int); omega)
/-! input() on both sides -/
theorem axi_x : aRunX aHN aGX_6 (aFinX aGX_6 sm_56_0 (aXin 0 3 0 aGX_6.2.2.2.2.1.length)) [(aMN, aMX)] 56 0 20000 = true := by decide +kernel
theorem axi_m : aRunX aHN aGM_4 (aFinX aGM_4 sm_97_0 (aXin 0 4 0 aGM_4.2.2.2.2.1.length)) [(aMN, aMX)] 97 0 20000 = true := by decide +kernel
theorem inp_x {σ : aσ} {v : Int32} (hI : InvV aGX_6 σ) : RP 56 (cH σ aHX) 0 (lv_args 0 [.ref 0, .int v]) [] (fun r C' => ∃ τ, InvV aGX_6 τ ∧ C' = cH τ aHX ∧ frmP sm_56_0 σ τ aISX ∧ retP sm_56_0.2.1 r ∧ inpP (σ 0 0) v r (τ 0 0)) := inp_con gX_6 soX_6 (smOK_of (by decide +kernel)).2 (p := 0) (j := 3) (id := 0) (lo := 0) (hi := 16) (by decide +kernel) (by decide) axi_x hI
theorem inp_m {σ : aσ} {v : Int32} (hI : InvV aGM_4 σ) : RP 97 (cH σ aHM) 0 (lv_args 0 [.ref 0, .int v]) [] (fun r C' => ∃ τ, InvV aGM_4 τ ∧ C' = cH τ aHM ∧ frmP sm_97_0 σ τ aISM ∧ retP sm_97_0.2.1 r ∧ inpP (σ 0 0) v r (τ 0 0)) := inp_con gM_4 soM_4 (smOK_of (by decide +kernel)).2 (p := 0) (j := 4) (id := 0) (lo := 0) (hi := 16) (by decide +kernel) (by decide) axi_m hI
