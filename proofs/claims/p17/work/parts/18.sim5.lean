/-! ONE STEP IS RIGHT: the shortcuts, returns, calls -/
theorem imin_c (a b : Int) : imin a b ≤ a ∧ imin a b ≤ b := by
  unfold imin
  cases h : iLe a b with
  | true => exact ⟨Int.le_refl a, iLe_le h⟩
  | false => have := iLe_false h; exact ⟨by show b ≤ a; omega, Int.le_refl b⟩
theorem imax_c (a b : Int) : a ≤ imax a b ∧ b ≤ imax a b := by
  unfold imax
  cases h : iLe a b with
  | true => exact ⟨iLe_le h, Int.le_refl b⟩
  | false => have := iLe_false h; exact ⟨Int.le_refl a, by show b ≤ a; omega⟩
theorem div_ok {G : aG} {Φ : Option Value → xC → Prop} {σ : aσ} {e : aE} {k pc pc1 : Nat} {C : aH} {L : aL} {S : List aV} {fr : List aR} {rem : Bool} {ss : List aS} (ha : aDiv rem e k C pc1 L S fr = some ss) (hi : ∀ (C : xC) (L : xL) (S : List Value), xmac k C pc L S = cond rem (xm_rem C pc1 L S) (xm_div C pc1 L S)) (hw : wfs (e, k, C, pc, L, S, fr)) (hs : satS G σ (e, k, C, pc, L, S, fr)) : Sim G Φ σ (e, k, C, pc, L, S, fr) ss := by
  unfold aDiv at ha
  split at ha
  · rename_i y x T
    obtain ⟨hy, hT⟩ := tail_w hw.2.2.2.1
    obtain ⟨hx, hT⟩ := tail_w hT
    split at ha
    · rename_i hy0
      have hY : cF σ y = y.1 := by show y.1 + cT σ y.2 = y.1; rw [hy0]; show y.1 + 0 = y.1; omega
      obtain ⟨h1, ha⟩ := cond_so ha
      obtain ⟨h1, h2⟩ := cond_tf h1
      have h1 := iLe_le h1
      have h2 := iLe_le h2
      have hB : aBD σ := hs.1.1
      have hV : aRG σ e.2.1 := hs.1.2.1
      have hne : ¬ Int32.ofInt (cF σ y) = 0 := by
        intro h
        have := oi_toInt (x := cF σ y) (by show -2147483648 ≤ _; omega) (by omega)
        rw [h] at this
        have h0 : (0 : Int32).toInt = 0 := rfl
        omega
      have hst : ∀ rem : Bool, cond rem (xm_rem (cH σ C) pc1 (cL σ L) ((Sum.inl y :: Sum.inl x :: T).map (cV σ))) (xm_div (cH σ C) pc1 (cL σ L) ((Sum.inl y :: Sum.inl x :: T).map (cV σ))) = some (cH σ C, pc1, cL σ L, .int (cond rem (Int32.ofInt (cF σ x) - Int32.ofInt (cF σ x) / Int32.ofInt (cF σ y) * Int32.ofInt (cF σ y)) (Int32.ofInt (cF σ x) / Int32.ofInt (cF σ y))) :: T.map (cV σ)) := by
        intro rem
        cases rem with
        | true =>
          show cond (decide (Int32.ofInt (cF σ y) = 0)) none (some _) = _
          rw [decide_eq_false hne]
          rfl
        | false =>
          show cond (decide (Int32.ofInt (cF σ y) = 0)) none (some _) = _
          rw [decide_eq_false hne]
          rfl
      have hgo : RP k (cH σ C) pc1 (cL σ L) (.int (cond rem (Int32.ofInt (cF σ x) - Int32.ofInt (cF σ x) / Int32.ofInt (cF σ y) * Int32.ofInt (cF σ y)) (Int32.ofInt (cF σ x) / Int32.ofInt (cF σ y))) :: T.map (cV σ)) (kont σ Φ fr) → goal σ Φ (e, k, C, pc, L, Sum.inl y :: Sum.inl x :: T, fr) := fun g => RP_m ((hi _ _ _).trans (hst rem)) g
      cases hq : (cond (pr0 e.2.1 x) (iLe (bhi e.2.1 x) aMX) false) with
      | true =>
        rw [hq] at ha
        obtain ⟨b1, b2⟩ := cond_tf hq
        have c1 := pr0_c hB hV b1
        have c2 := bhi_c hB hV x
        have b2 := iLe_le b2
        cases rem with
        | true =>
          refine rng_ok ha hw hs ?_ hT hgo
          show 0 ≤ (Int32.ofInt (cF σ x) - Int32.ofInt (cF σ x) / Int32.ofInt (cF σ y) * Int32.ofInt (cF σ y)).toInt ∧ (Int32.ofInt (cF σ x) - Int32.ofInt (cF σ x) / Int32.ofInt (cF σ y) * Int32.ofInt (cF σ y)).toInt ≤ y.1 - 1
          rw [nb_rem c1 (by omega) (by omega) (by omega)]
          have := Int.emod_nonneg (cF σ x) (show cF σ y ≠ 0 by omega)
          have := Int.emod_lt_of_pos (cF σ x) (show 0 < cF σ y by omega)
          omega
        | false =>
          refine rng_ok ha hw hs ?_ hT hgo
          show 0 ≤ (Int32.ofInt (cF σ x) / Int32.ofInt (cF σ y)).toInt ∧ (Int32.ofInt (cF σ x) / Int32.ofInt (cF σ y)).toInt ≤ bhi e.2.1 x / y.1
          rw [nb_div c1 (by omega) (by omega) (by omega), hY]
          exact ⟨Int.ediv_nonneg c1 (by omega), Int.ediv_le_ediv (by omega) c2⟩
      | false =>
        rw [hq] at ha
        exact full_ok ha hw hs hT hgo
    · cases ha
  · cases ha
theorem cpy_ok {G : aG} {Φ : Option Value → xC → Prop} {σ : aσ} {e : aE} {k pc pc1 : Nat} {C : aH} {L : aL} {S : List aV} {fr : List aR} {ss : List aS} (ha : aCpy G e k C pc1 L S fr = some ss) (hi : ∀ (C : xC) (L : xL) (S : List Value), xmac k C pc L S = xm_cpy C pc1 L S) (hw : wfs (e, k, C, pc, L, S, fr)) (hs : satS G σ (e, k, C, pc, L, S, fr)) : Sim G Φ σ (e, k, C, pc, L, S, fr) ss := by
  unfold aCpy at ha
  split at ha
  · rename_i n dp a sp b
    split at ha
    · rename_i t0 n0 r0 hCb
      split at ha
      · rename_i t1 n1 r1 hCa
        obtain ⟨nv, V, AR, K, LD, OR, NE, TO, DF, gg⟩ := e
        dsimp only at ha
        have h0 := cond_so ha
        clear ha
        obtain ⟨q1, ha⟩ := h0
        obtain ⟨q1, q2⟩ := cond_tf q1
        obtain ⟨e0, q1⟩ := cond_tf q1
        obtain ⟨e1, q1⟩ := cond_tf q1
        obtain ⟨q0, q9⟩ := cond_tf q1
        have e0 := Nat.eq_of_beq_eq_true e0
        have e1 := Nat.eq_of_beq_eq_true e1
        subst e0; subst e1
        obtain ⟨p1, q2⟩ := cond_tf q2
        obtain ⟨p2, q2⟩ := cond_tf q2
        obtain ⟨p3, q2⟩ := cond_tf q2
        obtain ⟨p4, p5⟩ := cond_tf q2
        have hB : aBD σ := hs.1.1
        have hV : aRG σ V := hs.1.2.1
        have hA : aRA σ AR := hs.1.2.2.1
        have hK : aKK σ K := hs.1.2.2.2.1
        obtain ⟨qn0, qn1⟩ := cond_tf q0
        have qn0 := Nat.le_of_ble_eq_true qn0
        have qn1 := Nat.le_of_ble_eq_true qn1
        have p1 := prB_c hB hV hK p1
        have p2 := prB_c hB hV hK p2
        have p3 := prB_c hB hV hK p3
        have p4 := pr2_c hB hV hK p4
        have p5 := pr2_c hB hV hK p5
        rw [lsub_c, lsub_c, lcst_c] at p4 p5
        have p1 : 0 ≤ cF σ n ∧ cF σ n ≤ (n0 : Int) := p1
        have p2 : 0 ≤ cF σ sp ∧ cF σ sp ≤ (n0 : Int) := p2
        have p3 : 0 ≤ cF σ dp ∧ cF σ dp ≤ (n1 : Int) := p3
        have p4 : 0 ≤ (n0 : Int) - cF σ sp - cF σ n := p4
        have p5 : 0 ≤ (n1 : Int) - cF σ dp - cF σ n := p5
        have mx : ∀ z : Int, z ≤ (n0 : Int) ∨ z ≤ (n1 : Int) → z ≤ aMX := fun z hz => by show z ≤ (2147483647 : Int); omega
        have c1 := nb_clamp p1.1 (mx _ (Or.inl p1.2))
        have c2 := nb_clamp p2.1 (mx _ (Or.inl p2.2))
        have c3 := nb_clamp p3.1 (mx _ (Or.inr p3.2))
        have d1 := nb_not_neg p1.1 (mx _ (Or.inl p1.2))
        have d2 := nb_not_neg p2.1 (mx _ (Or.inl p2.2))
        have d3 := nb_not_neg p3.1 (mx _ (Or.inr p3.2))
        have hCa2 : C[a]? = some (.inl (0, n1, r1)) := by rw [← xe_nth_eq]; exact hCa
        have gb : (cH σ C)[b]? = some (.inl (0, n0, .inl (fun j => Int32.ofInt (σ r0 j)))) := by rw [← xe_nth_eq]; exact cH_get hCb
        have ga : (cH σ C)[a]? = some (.inl (0, n1, .inl (fun j => Int32.ofInt (σ r1 j)))) := by rw [← xe_nth_eq]; exact cH_get hCa
        obtain ⟨y, hy⟩ : ∃ y : Nat → Int, y = fun j => if (cF σ dp).toNat ≤ j ∧ j < (cF σ dp).toNat + (cF σ n).toNat then σ r0 ((cF σ sp).toNat + (j - (cF σ dp).toNat)) else σ r1 j := ⟨_, rfl⟩
        have hy2 : ∀ j, aMN ≤ y j ∧ y j ≤ aMX := fun j => by
          rw [hy]
          dsimp only
          split
          · exact hB r0 _
          · exact hB r1 j
        have hyu : (fun j => Int32.ofInt (y j)) = va_cpy (fun j => Int32.ofInt (σ r0 j)) (fun j => Int32.ofInt (σ r1 j)) (cF σ sp).toNat (cF σ dp).toNat (cF σ n).toNat := by
          rw [hy]
          funext j
          show Int32.ofInt (if _ then _ else _) = if _ then _ else _
          split <;> rfl
        have hst : xm_cpy (cH σ C) pc1 (cL σ L) [.int (Int32.ofInt (cF σ n)), .int (Int32.ofInt (cF σ dp)), .ref a, .int (Int32.ofInt (cF σ sp)), .ref b] = some ((cH σ C).set a (.inl (0, n1, .inl (fun j => Int32.ofInt (y j)))), pc1, cL σ L, []) := by
          unfold xm_cpy
          simp only [gb, ga]
          rw [decide_eq_true ⟨d2, d3, d1, by rw [c1, c2]; omega, by rw [c1, c3]; omega⟩, c1, c2, c3, hyu]
          rfl
        simp only [fI_eq, xe_fn_eq, xe_set_eq] at ha
        cases ha
        have hps := phi_set (PH := G.2.1) (C := cH σ C) (p := a) (c := .inl (0, n1, .inl (fun j => Int32.ofInt (y j)))) (D := phiK ((cH σ C).set a (.inl (0, n1, .inl (fun j => Int32.ofInt (y j)))))[a]? - phiK (cH σ C)[a]?) (by omega) hs.2.2.2
        have hna : ¬ a ∈ G.2.1 := fun h => by rw [nmem_of h] at q9; cases q9
        rw [if_neg hna] at hps
        have hP0 : phi G.2.1 (cH σ C) ≤ cF σ gg := hs.2.1
        have m1 := imin_c (vrg AR r0).1 (vrg AR r1).1
        have m2 := imax_c (vrg AR r0).2 (vrg AR r1).2
        refine sim_a hw hs hCa2 (fun j => ?_) hy2 (fun v hv => absurd hv List.not_mem_nil) hw.1.2.2.2.2.2.2.2.2 (ld_up hw.1.2.2.2.1 hs.1.2.2.2.2.1) (df_up hw.1.2.2.2.2.2.2.2.1 hs.1.2.2.2.2.2.2.2.2) (Int.le_trans hps (by omega)) (fun g => RP_m ((hi _ _ _).trans hst) g)
        rw [hy]
        dsimp only
        split
        · have := vra_c hB hA r0 ((cF σ sp).toNat + (j - (cF σ dp).toNat))
          exact ⟨by omega, by omega⟩
        · have := vra_c hB hA r1 j
          exact ⟨by omega, by omega⟩
      · cases ha
    · cases ha
  · cases ha
theorem mac_ok {G : aG} {Φ : Option Value → xC → Prop} {σ : aσ} {e : aE} {k pc : Nat} {C : aH} {L : aL} {S : List aV} {fr : List aR} {ss : List aS} (ha : aMac G e k C pc L S fr = some ss) (hsp : xspot k pc = true) (hw : wfs (e, k, C, pc, L, S, fr)) (hs : satS G σ (e, k, C, pc, L, S, fr)) : Sim G Φ σ (e, k, C, pc, L, S, fr) ss := by
  have hcases : (k = 82 ∧ pc = 3) ∨ (k = 83 ∧ pc = 3) ∨ (k = 104 ∧ pc = 160) ∨ (k = 52 ∧ pc = 11) := by
    simp only [xspot, Bool.or_eq_true, Bool.and_eq_true] at hsp
    rcases hsp with h | h | h | h
    · exact Or.inl ⟨Nat.eq_of_beq_eq_true h.1, Nat.eq_of_beq_eq_true h.2⟩
    · exact Or.inr (Or.inl ⟨Nat.eq_of_beq_eq_true h.1, Nat.eq_of_beq_eq_true h.2⟩)
    · exact Or.inr (Or.inr (Or.inl ⟨Nat.eq_of_beq_eq_true h.1, Nat.eq_of_beq_eq_true h.2⟩))
    · exact Or.inr (Or.inr (Or.inr ⟨Nat.eq_of_beq_eq_true h.1, Nat.eq_of_beq_eq_true h.2⟩))
  rcases hcases with ⟨rfl, rfl⟩ | ⟨rfl, rfl⟩ | ⟨rfl, rfl⟩ | ⟨rfl, rfl⟩
  · exact div_ok (rem := false) ha (fun _ _ _ => rfl) hw hs
  · exact div_ok (rem := true) ha (fun _ _ _ => rfl) hw hs
  · exact div_ok (rem := true) ha (fun _ _ _ => rfl) hw hs
  · exact cpy_ok ha (fun _ _ _ => rfl) hw hs
/-- what the end of a method must give -/
def FinOK (FIN : aE → aH → Option aF → Bool) (Φ : Option Value → xC → Prop) (n0 : Nat) (σ0 : aσ) : Prop := ∀ (e : aE) (C : aH) (r : Option aF) (τ : aσ), FIN e C r = true → sat τ e → wfe e.1 e → wH e.1 C → (∀ f, r = some f → wF e.1 f) → n0 ≤ e.1 → aAg n0 σ0 τ → Φ (r.map fun f => .int (Int32.ofInt (cF τ f))) (cH τ C)
theorem ret_ok {G : aG} {FIN : aE → aH → Option aF → Bool} {Φ : Option Value → xC → Prop} {σ σ0 : aσ} {n0 : Nat} {e : aE} {k pc : Nat} {C : aH} {L : aL} {S : List aV} {fr : List aR} {r : Option aF} {i : Instr} {len : Nat} {ss : List aS} (ha : aRet FIN e C r fr = some ss) (hF : FinOK FIN Φ n0 σ0) (hn : n0 ≤ e.1) (h0 : aAg n0 σ0 σ) (hsp : xspot k pc = false) (hlk : xe_lk (xm_t (xMT k)) pc = some (i, len)) (hi : ∀ ih : xH, xe_i xMT ih k (cH σ C) pc (cL σ L) (S.map (cV σ)) i = some (r.map (fun f => .int (Int32.ofInt (cF σ f))), cH σ C)) (hr : ∀ f, r = some f → wF e.1 f) (hw : wfs (e, k, C, pc, L, S, fr)) (hs : satS G σ (e, k, C, pc, L, S, fr)) : Sim G Φ σ (e, k, C, pc, L, S, fr) ss := by
  have hend : kont σ Φ fr (r.map (fun f => .int (Int32.ofInt (cF σ f)))) (cH σ C) → goal σ Φ (e, k, C, pc, L, S, fr) := by
    intro g
    refine RP_done 1 (fun n => ?_) g
    show xe_b xMT xmac (xe xMT xmac n) k _ pc _ _ = _
    unfold xe_b
    rw [xe_fn_eq, xmac_none hsp]
    simp only [hlk]
    exact hi _
  unfold aRet at ha
  split at ha
  · obtain ⟨h1, ha⟩ := cond_so ha
    exact Or.inl (hend (hF e C r σ h1 hs.1 hw.1 hw.2.1 hr hn h0))
  · rename_i k1 pc1 L1 S1 t
    have hR := hw.2.2.2.2
    obtain ⟨a1, a2⟩ := hR _ List.mem_cons_self
    have a3 : wR e.1 t := fun q hq => hR q (List.mem_cons_of_mem _ hq)
    split at ha
    · cases ha
      exact sim_e hw hs hs.1 hw.1 rfl rfl a1 a2 a3 (List.mem_singleton.mpr rfl) (fun g => hend g)
    · rename_i z
      cases ha
      exact sim_e hw hs hs.1 hw.1 rfl rfl a1 (cons_w (v := .inl z) (hr z rfl) a2) a3 (List.mem_singleton.mpr rfl) (fun g => hend g)
theorem aArgs_c (σ : aσ) (vs : List aV) (i : Nat) : lv_args i (vs.map (cV σ)) = cL σ (aArgs vs i) := by
  induction vs generalizing i with
  | nil => rfl
  | cons v t ih =>
    show (i, cV σ v) :: lv_args (if (cV σ v).category = 2 then i + 2 else i + 1) (t.map (cV σ)) = (i, cV σ v) :: cL σ (aArgs t (i + 1))
    rw [cV_cat, if_neg (by decide), ih]
theorem aArgs_w {n : Nat} {vs : List aV} (h : wS n vs) (i : Nat) : wL n (aArgs vs i) := by
  induction vs generalizing i with
  | nil => exact fun q hq => absurd hq List.not_mem_nil
  | cons v t ih => exact consL_w (h v List.mem_cons_self) (ih (fun w hw => h w (List.mem_cons_of_mem _ hw)) (i + 1))
theorem aPop_c {σ : aσ} {m n : Nat} {S As Bs rest : List aV} (h : aPop n S As = some (Bs, rest)) (hS : wS m S) (hA : wS m As) : xe_pop n (S.map (cV σ)) (As.map (cV σ)) = some (Bs.map (cV σ), rest.map (cV σ)) ∧ wS m Bs ∧ wS m rest := by
  induction n generalizing S As with
  | zero => cases h; exact ⟨rfl, hA, hS⟩
  | succ n ih =>
    cases S with
    | nil => cases h
    | cons v T =>
      obtain ⟨h1, h2⟩ := tail_w hS
      exact ih (show aPop n T (v :: As) = some (Bs, rest) from h) h2 (cons_w h1 hA)
theorem cat_sum (σ : aσ) (l : List aV) : ((l.map (cV σ)).map fun v => v.category).sum = l.length := by
  induction l with
  | nil => rfl
  | cons v t ih =>
    rw [List.map_cons, List.map_cons, List.sum_cons, ih, cV_cat, List.length_cons]
    omega
theorem c1_c (σ : aσ) (l : List aV) : xe_c1 (l.map (cV σ)) = true := by
  unfold xe_c1
  rw [List.all_map]
  exact List.all_eq_true.mpr fun v _ => by
    show Nat.beq (cV σ v).category 1 = true
    rw [cV_cat]
    rfl
/-- a call by its contract: what the caller comes to -/
def SumOK (G : aG) : Prop := ∀ (Φ : Option Value → xC → Prop) (σ : aσ) (sm : aSm) (e : aE) (k k' p pc pc0 : Nat) (C : aH) (L : aL) (As rest S : List aV) (fr : List aR) (ss : List aS), G.2.2.2.1 k' p = some sm → aSum G sm e k C pc L As rest fr = some ss → wfs (e, k, C, pc0, L, S, fr) → satS G σ (e, k, C, pc0, L, S, fr) → wS e.1 As → wS e.1 rest → (RP k' (cH σ C) 0 (cL σ (aArgs (.inr p :: As) 0)) [] (fun r C1 => (r = none ∧ RP k C1 pc (cL σ L) (rest.map (cV σ)) (kont σ Φ fr)) ∨ ∃ v : Int32, r = some (.int v) ∧ RP k C1 pc (cL σ L) (.int v :: rest.map (cV σ)) (kont σ Φ fr)) → goal σ Φ (e, k, C, pc0, L, S, fr)) → Sim G Φ σ (e, k, C, pc0, L, S, fr) ss
theorem call_ok {G : aG} {Φ : Option Value → xC → Prop} {σ : aσ} {e : aE} {k k' pc : Nat} {C : aH} {L : aL} {vs rest S : List aV} {fr : List aR} {i : Instr} {len : Nat} {ss : List aS} (ha : aCall G k' e k C pc L vs rest fr = some ss) (hSM : SumOK G) (hsp : xspot k pc = false) (hlk : xe_lk (xm_t (xMT k)) pc = some (i, len)) (hi : ∀ ih : xH, xe_i xMT ih k (cH σ C) pc (cL σ L) (S.map (cV σ)) i = xe_call (xMT k') ih k (cH σ C) pc (cL σ L) k' (vs.map (cV σ)) (rest.map (cV σ))) (hvs : wS e.1 vs) (hrest : wS e.1 rest) (hw : wfs (e, k, C, pc, L, S, fr)) (hs : satS G σ (e, k, C, pc, L, S, fr)) : Sim G Φ σ (e, k, C, pc, L, S, fr) ss := by
  unfold aCall at ha
  obtain ⟨q1, ha⟩ := cond_so ha
  obtain ⟨q1, q2⟩ := cond_tf q1
  have hcall : ∀ n : Nat, xe xMT xmac (n + 1) k (cH σ C) pc (cL σ L) (S.map (cV σ)) = match xe xMT xmac n k' (cH σ C) 0 (lv_args 0 (vs.map (cV σ))) [] with
    | some (none, C1) => xe xMT xmac n k C1 (pc + 3) (cL σ L) (rest.map (cV σ))
    | some (some (.int v), C1) => xe xMT xmac n k C1 (pc + 3) (cL σ L) (.int v :: rest.map (cV σ))
    | _ => none := by
    intro n
    show xe_b xMT xmac (xe xMT xmac n) k _ pc _ _ = _
    unfold xe_b
    rw [xe_fn_eq, xmac_none hsp]
    simp only [hlk]
    rw [hi]
    unfold xe_call
    rw [cat_sum, c1_c, List.length_map, q2, decide_eq_true (Nat.le_of_ble_eq_true q1)]
    rfl
  have hgo : RP k' (cH σ C) 0 (cL σ (aArgs vs 0)) [] (fun r C1 => (r = none ∧ RP k C1 (pc + 3) (cL σ L) (rest.map (cV σ)) (kont σ Φ fr)) ∨ ∃ v : Int32, r = some (.int v) ∧ RP k C1 (pc + 3) (cL σ L) (.int v :: rest.map (cV σ)) (kont σ Φ fr)) → goal σ Φ (e, k, C, pc, L, S, fr) := fun g => RP_call k' (vs.map (cV σ)) hcall (by rw [aArgs_c]; exact g)
  split at ha
  · rename_i sm hsm
    split at hsm
    · rename_i p As _
      exact hSM Φ σ sm e k k' p (pc + 3) pc C L As rest S fr ss hsm ha hw hs (tail_w hvs).2 hrest hgo
    · cases hsm
  · cases ha
    refine sim_e hw hs hs.1 hw.1 rfl rfl (aArgs_w hvs 0) (fun v hv => absurd hv List.not_mem_nil) (fun q hq => ?_) (List.mem_singleton.mpr rfl) (fun g => hgo (RP_mono g fun r C1 h => ?_))
    · rcases List.mem_cons.mp hq with e | e
      · rw [e]; exact ⟨hw.2.2.1, hrest⟩
      · exact hw.2.2.2.2 q e
    · cases r with
      | none => exact Or.inl ⟨rfl, h⟩
      | some v => cases v with
        | int v => exact Or.inr ⟨v, rfl, h⟩
        | _ => cases h
theorem invoke_ok {G : aG} {Φ : Option Value → xC → Prop} {σ : aσ} {e : aE} {k pc idx : Nat} {C : aH} {L : aL} {S : List aV} {fr : List aR} {virt : Bool} {i : Instr} {len : Nat} {ss : List aS} (ha : aInvoke G virt idx e k C pc L S fr = some ss) (hSM : SumOK G) (hsp : xspot k pc = false) (hlk : xe_lk (xm_t (xMT k)) pc = some (i, len)) (hi : ∀ (ih : xH) (C : xC) (L : xL) (S : List Value), xe_i xMT ih k C pc L S i = xe_inv xMT ih k C pc L S virt idx) (hw : wfs (e, k, C, pc, L, S, fr)) (hs : satS G σ (e, k, C, pc, L, S, fr)) : Sim G Φ σ (e, k, C, pc, L, S, fr) ss := by
  unfold aInvoke at ha
  split at ha
  · rename_i k' n kd ci hI
    split at ha
    · rename_i As rest hP
      obtain ⟨p1, p2, p3⟩ := aPop_c (σ := σ) hP hw.2.2.2.1 (fun v hv => absurd hv List.not_mem_nil)
      cases virt with
      | true =>
        simp only [cond_true] at ha
        obtain ⟨q1, ha⟩ := cond_so ha
        split at ha
        · rename_i b T _
          obtain ⟨_, hT⟩ := tail_w p3
          split at ha
          · rename_i cj fs hC
            obtain ⟨q2, ha⟩ := cond_so ha
            refine call_ok ha hSM hsp hlk (fun ih => ?_) (cons_w (v := .inr b) trivial p2) hT hw hs
            rw [hi]
            unfold xe_inv
            simp only [hI]
            rw [show ([] : List Value) = ([] : List aV).map (cV σ) from rfl, p1]
            simp only [cond_true, q1]
            show (match xe_nth (cH σ C) b with
              | some (.inr (cj, _)) => cond (Nat.beq cj ci) (xe_call (xMT k') ih k (cH σ C) pc (cL σ L) k' (.ref b :: As.map (cV σ)) (T.map (cV σ))) none
              | _ => none) = _
            rw [cH_get hC]
            show cond (Nat.beq cj ci) _ none = _
            rw [q2]
            rfl
          · cases ha
        · cases ha
      | false =>
        simp only [cond_false] at ha
        cases hk : Nat.beq kd 0 with
        | true => rw [hk] at ha; cases ha
        | false =>
          rw [hk] at ha
          refine call_ok ha hSM hsp hlk (fun ih => ?_) p2 p3 hw hs
          rw [hi]
          unfold xe_inv
          simp only [hI]
          rw [show ([] : List Value) = ([] : List aV).map (cV σ) from rfl, p1]
          simp only [cond_false, hk]
    · cases ha
  · cases ha
/-! the step -/
set_option maxHeartbeats 1000000 in
theorem aI_ok {G : aG} {FIN : aE → aH → Option aF → Bool} {Φ : Option Value → xC → Prop} {σ σ0 : aσ} {n0 : Nat} {e : aE} {k pc : Nat} {C : aH} {L : aL} {S : List aV} {fr : List aR} {i : Instr} {len : Nat} {ss : List aS} (ha : aI G FIN i e k C pc L S fr = some ss) (hSM : SumOK G) (hF : FinOK FIN Φ n0 σ0) (hn : n0 ≤ e.1) (h0 : aAg n0 σ0 σ) (hsp : xspot k pc = false) (hlk : xe_lk (xm_t (xMT k)) pc = some (i, len)) (hw : wfs (e, k, C, pc, L, S, fr)) (hs : satS G σ (e, k, C, pc, L, S, fr)) : Sim G Φ σ (e, k, C, pc, L, S, fr) ss := by
  cases i with
  | iconst v =>
    refine push_ok ha hsp hlk hw hs lcst_w hw.2.2.2.1 (fun ih => ?_)
    rw [lcst_c]
    exact xe_push_eq _ _ _
  | bipush v =>
    obtain ⟨q, ha⟩ := cond_so ha
    obtain ⟨q1, q2⟩ := cond_tf q
    refine push_ok ha hsp hlk hw hs lcst_w hw.2.2.2.1 (fun ih => ?_)
    rw [lcst_c, ← nb_bipush v (iLe_le q1) (iLe_le q2)]
    exact xe_push_eq _ _ _
  | sipush v =>
    obtain ⟨q, ha⟩ := cond_so ha
    obtain ⟨q1, q2⟩ := cond_tf q
    refine push_ok ha hsp hlk hw hs lcst_w hw.2.2.2.1 (fun ih => ?_)
    rw [lcst_c, ← nb_sipush v (iLe_le q1) (iLe_le q2)]
    exact xe_push_eq _ _ _
  | ldc idx =>
    dsimp only [aI] at ha
    split at ha
    · rename_i v hv
      refine push_ok ha hsp hlk hw hs lcst_w hw.2.2.2.1 (fun ih => ?_)
      rw [lcst_c, oi_of]
      show xe_ldc (xm_K (xMT k)) idx _ _ = _
      unfold xe_ldc
      simp only [hv]
    · cases ha
  | ldc_w idx =>
    dsimp only [aI] at ha
    split at ha
    · rename_i v hv
      refine push_ok ha hsp hlk hw hs lcst_w hw.2.2.2.1 (fun ih => ?_)
      rw [lcst_c, oi_of]
      show xe_ldc (xm_K (xMT k)) idx _ _ = _
      unfold xe_ldc
      simp only [hv]
    · cases ha
  | iload_n j =>
    dsimp only [aI] at ha
    split at ha
    · rename_i f hf
      cases ha
      refine sim_s hsp hlk hw hs hw.2.2.1 (cons_w (as_w hw.2.2.1 hf) hw.2.2.2.1) (fun ih => ?_)
      show xe_ldi (cL σ L) j.val _ _ = _
      unfold xe_ldi
      rw [as_cL, hf]
      rfl
    · cases ha
  | iload j =>
    dsimp only [aI] at ha
    split at ha
    · rename_i f hf
      cases ha
      refine sim_s hsp hlk hw hs hw.2.2.1 (cons_w (as_w hw.2.2.1 hf) hw.2.2.2.1) (fun ih => ?_)
      show xe_ldi (cL σ L) j _ _ = _
      unfold xe_ldi
      rw [as_cL, hf]
      rfl
    · cases ha
  | aload_n j =>
    dsimp only [aI] at ha
    split at ha
    · rename_i f hf
      cases ha
      refine sim_s hsp hlk hw hs hw.2.2.1 (cons_w (as_w hw.2.2.1 hf) hw.2.2.2.1) (fun ih => ?_)
      show xe_lda (cL σ L) j.val _ _ = _
      unfold xe_lda
      rw [as_cL, hf]
      rfl
    · cases ha
  | aload j =>
    dsimp only [aI] at ha
    split at ha
    · rename_i f hf
      cases ha
      refine sim_s hsp hlk hw hs hw.2.2.1 (cons_w (as_w hw.2.2.1 hf) hw.2.2.2.1) (fun ih => ?_)
      show xe_lda (cL σ L) j _ _ = _
      unfold xe_lda
      rw [as_cL, hf]
      rfl
    · cases ha
  | istore_n j =>
    dsimp only [aI] at ha
    split at ha
    · rename_i f T
      obtain ⟨q, ha⟩ := cond_so ha
      rw [fL_eq] at ha
      cases ha
      obtain ⟨hf, hT⟩ := tail_w hw.2.2.2.1
      refine sim_s hsp hlk hw hs (consL_w hf (rm_w hw.2.2.1)) hT (fun ih => ?_)
      rw [st_cL]
      show cond (Nat.blt j.val (xm_n (xMT k))) _ none = _
      rw [q]
      rfl
    · cases ha
  | istore j =>
    dsimp only [aI] at ha
    split at ha
    · rename_i f T
      obtain ⟨q, ha⟩ := cond_so ha
      rw [fL_eq] at ha
      cases ha
      obtain ⟨hf, hT⟩ := tail_w hw.2.2.2.1
      refine sim_s hsp hlk hw hs (consL_w hf (rm_w hw.2.2.1)) hT (fun ih => ?_)
      rw [st_cL]
      show cond (Nat.blt j (xm_n (xMT k))) _ none = _
      rw [q]
      rfl
    · cases ha
  | iinc j n =>
    dsimp only [aI] at ha
    split at ha
    · rename_i f hf
      obtain ⟨q, ha⟩ := cond_so ha
      rw [fF_eq, fL_eq] at ha
      cases ha
      refine sim_s hsp hlk hw hs (consL_w (v := .inl (ladd f (n, []))) (ladd_w (as_w hw.2.2.1 hf) lcst_w) (rm_w hw.2.2.1)) hw.2.2.2.1 (fun ih => ?_)
      rw [st_cL]
      show xe_inc (xm_n (xMT k)) (cL σ L) j n (fun L' => ih k (cH σ C) (pc + 3) L' (S.map (cV σ))) = _
      unfold xe_inc
      rw [as_cL, hf]
      show cond (Nat.blt j (xm_n (xMT k))) _ none = _
      rw [q]
      simp only [cond_true, xe_f_eq]
      show _ = ih k (cH σ C) (pc + 3) (xe_st (cL σ L) j (.int (Int32.ofInt (cF σ (ladd f (n, [])))))) (S.map (cV σ))
      rw [ladd_c, lcst_c, Int32.ofInt_add]
    · cases ha
  | iadd => exact add_ok (o := 0) ha hsp hlk (fun _ _ _ _ => rfl) hw hs
  | isub => exact add_ok (o := 1) ha hsp hlk (fun _ _ _ _ => rfl) hw hs
  | imul => exact add_ok (o := 2) ha hsp hlk (fun _ _ _ _ => rfl) hw hs
  | iand => exact add_ok (o := 3) ha hsp hlk (fun _ _ _ _ => rfl) hw hs
  | ior => exact add_ok (o := 4) ha hsp hlk (fun _ _ _ _ => rfl) hw hs
  | ishl => exact add_ok (o := 5) ha hsp hlk (fun _ _ _ _ => rfl) hw hs
  | ixor => exact add_ok (o := 6) ha hsp hlk (fun _ _ _ _ => rfl) hw hs
  | ishr => exact add_ok (o := 7) ha hsp hlk (fun _ _ _ _ => rfl) hw hs
  | iushr => exact add_ok (o := 8) ha hsp hlk (fun _ _ _ _ => rfl) hw hs
  | dup =>
    dsimp only [aI] at ha
    split at ha
    · rename_i v T
      cases ha
      obtain ⟨hv, hT⟩ := tail_w hw.2.2.2.1
      refine sim_s hsp hlk hw hs hw.2.2.1 (cons_w hv (cons_w hv hT)) (fun ih => ?_)
      show cond (Nat.beq (cV σ v).category 1) _ none = _
      rw [cV_cat]
      rfl
    · cases ha
  | dup2 =>
    dsimp only [aI] at ha
    split at ha
    · rename_i v w T
      cases ha
      obtain ⟨hv, hT⟩ := tail_w hw.2.2.2.1
      obtain ⟨hv2, hT⟩ := tail_w hT
      refine sim_s hsp hlk hw hs hw.2.2.1 (cons_w hv (cons_w hv2 (cons_w hv (cons_w hv2 hT)))) (fun ih => ?_)
      show cond (Nat.beq (cV σ v).category 1 && Nat.beq (cV σ w).category 1) _ none = _
      rw [cV_cat, cV_cat]
      rfl
    · cases ha
  | pop =>
    dsimp only [aI] at ha
    split at ha
    · rename_i v T
      cases ha
      obtain ⟨hv, hT⟩ := tail_w hw.2.2.2.1
      refine sim_s hsp hlk hw hs hw.2.2.1 hT (fun ih => ?_)
      show cond (Nat.beq (cV σ v).category 1) _ none = _
      rw [cV_cat]
      rfl
    · cases ha
  | goto off =>
    obtain ⟨t, ht, ha⟩ := xe_jmp_inv (show xe_jmp pc off (fun t => some [(e, k, C, t, L, S, fr)]) = some ss from ha)
    cases ha
    exact sim_s hsp hlk hw hs hw.2.2.1 hw.2.2.2.1 (fun ih => jmp_at ht)
  | ifCond c off => cases c with
    | eq => exact br1_ok (c := 0) ha hsp hlk (fun _ _ _ _ _ => rfl) hw hs
    | ne => exact br1_ok (c := 1) ha hsp hlk (fun _ _ _ _ _ => rfl) hw hs
    | lt => exact br1_ok (c := 2) ha hsp hlk (fun _ _ _ _ _ => rfl) hw hs
    | ge => exact br1_ok (c := 3) ha hsp hlk (fun _ _ _ _ _ => rfl) hw hs
    | gt => exact br1_ok (c := 4) ha hsp hlk (fun _ _ _ _ _ => rfl) hw hs
    | le => exact br1_ok (c := 5) ha hsp hlk (fun _ _ _ _ _ => rfl) hw hs
  | if_icmp c off => cases c with
    | eq => exact br2_ok (c := 0) ha hsp hlk (fun _ _ _ _ _ _ => rfl) hw hs
    | ne => exact br2_ok (c := 1) ha hsp hlk (fun _ _ _ _ _ _ => rfl) hw hs
    | lt => exact br2_ok (c := 2) ha hsp hlk (fun _ _ _ _ _ _ => rfl) hw hs
    | ge => exact br2_ok (c := 3) ha hsp hlk (fun _ _ _ _ _ _ => rfl) hw hs
    | gt => exact br2_ok (c := 4) ha hsp hlk (fun _ _ _ _ _ _ => rfl) hw hs
    | le => exact br2_ok (c := 5) ha hsp hlk (fun _ _ _ _ _ _ => rfl) hw hs
  | tableswitch dflt lo hi offs => exact swt_ok ha hsp hlk hw hs
  | lookupswitch dflt ps => exact swl_ok ha hsp hlk hw hs
  | getfield idx => exact get_ok ha hsp hlk hw hs
  | putfield idx => exact put_ok ha hsp hlk hw hs
  | iaload => exact ald_ok (tag := 0) ha hsp hlk (fun _ _ _ _ => rfl) hw hs
  | baload => exact ald_ok (tag := 1) ha hsp hlk (fun _ _ _ _ => rfl) hw hs
  | iastore => exact ast_ok (tag := 0) (nar := fun x => x) ha hsp hlk (fun _ _ _ _ => rfl) (fun _ _ => rfl) hw hs
  | bastore => exact ast_ok (tag := 1) (nar := fun x => vp_nar .boolean x) ha hsp hlk (fun _ _ _ _ => rfl) (fun x hx => nb_nar (hx.resolve_left (by decide)).1 (hx.resolve_left (by decide)).2) hw hs
  | arraylength =>
    dsimp only [aI] at ha
    split at ha
    · rename_i p T
      split at ha
      · rename_i t n r hC
        obtain ⟨q, ha⟩ := cond_so ha
        obtain ⟨q1, q2⟩ := cond_tf q
        cases ha
        obtain ⟨_, hT⟩ := tail_w hw.2.2.2.1
        refine sim_s hsp hlk hw hs hw.2.2.1 (cons_w (v := .inl (Int.ofNat n, [])) lcst_w hT) (fun ih => ?_)
        show xe_aln (cH σ C) (.ref p :: T.map (cV σ)) _ = ih k (cH σ C) (pc + 1) (cL σ L) (.int (Int32.ofInt (cF σ (Int.ofNat n, []))) :: T.map (cV σ))
        unfold xe_aln
        simp only [cH_get hC, cK]
        rw [q1, lcst_c]
        exact xe_push_eq _ _ _
      · cases ha
    · cases ha
  | invokevirtual idx => exact invoke_ok (virt := true) ha hSM hsp hlk (fun _ _ _ _ => rfl) hw hs
  | invokestatic idx => exact invoke_ok (virt := false) ha hSM hsp hlk (fun _ _ _ _ => rfl) hw hs
  | ireturn =>
    have ha : aIrt FIN (xm_r (xMT k)) e C S fr = some ss := ha
    unfold aIrt at ha
    split at ha
    · rename_i f hr _
      refine ret_ok ha hF hn h0 hsp hlk (fun ih => ?_) (fun g hg => by cases hg; exact (tail_w hw.2.2.2.1).1) hw hs
      show xe_irt (xm_r (xMT k)) (cH σ C) [.int (Int32.ofInt (cF σ f))] = _
      rw [hr]
      rfl
    · rename_i f hr _
      obtain ⟨q, ha⟩ := cond_so ha
      obtain ⟨q1, q2⟩ := cond_tf q
      have hB : aBD σ := hs.1.1
      have hV : aRG σ e.2.1 := hs.1.2.1
      have := bhi_c hB hV f
      have h01 := nb_01 (pr0_c hB hV q1) (by have := iLe_le q2; omega)
      refine ret_ok ha hF hn h0 hsp hlk (fun ih => ?_) (fun g hg => by cases hg; exact (tail_w hw.2.2.2.1).1) hw hs
      show xe_irt (xm_r (xMT k)) (cH σ C) [.int (Int32.ofInt (cF σ f))] = some (some (.int (Int32.ofInt (cF σ f))), cH σ C)
      rw [hr]
      show cond (decide (Int32.ofInt (cF σ f) = 0) || decide (Int32.ofInt (cF σ f) = 1)) _ none = _
      rw [show (decide (Int32.ofInt (cF σ f) = 0) || decide (Int32.ofInt (cF σ f) = 1)) = true by simpa using h01]
      rfl
    · cases ha
  | return_ =>
    have ha : aVrt FIN (xm_r (xMT k)) e C S fr = some ss := ha
    unfold aVrt at ha
    split at ha
    · rename_i hr _
      refine ret_ok ha hF hn h0 hsp hlk (fun ih => ?_) (fun g hg => by cases hg) hw hs
      show xe_vrt (xm_r (xMT k)) (cH σ C) [] = _
      rw [hr]
      rfl
    · cases ha
  | _ => cases (show (none : Option (List aS)) = some ss from ha)
theorem aStep_ok {G : aG} {FIN : aE → aH → Option aF → Bool} {Φ : Option Value → xC → Prop} {σ σ0 : aσ} {n0 : Nat} {s : aS} {ss : List aS} (ha : aStep G FIN s = some ss) (hSM : SumOK G) (hF : FinOK FIN Φ n0 σ0) (hn : n0 ≤ s.1.1) (h0 : aAg n0 σ0 σ) (hw : wfs s) (hs : satS G σ s) : Sim G Φ σ s ss := by
  obtain ⟨e, k, C, pc, L, S, fr⟩ := s
  unfold aStep at ha
  dsimp only at ha
  rw [xe_fn_eq] at ha
  cases hsp : xspot k pc with
  | true =>
    rw [hsp] at ha
    exact mac_ok ha hsp hw hs
  | false =>
    rw [hsp] at ha
    simp only [cond_false] at ha
    split at ha
    · cases ha
    · rename_i i len hlk
      exact aI_ok ha hSM hF hn h0 hsp hlk hw hs
