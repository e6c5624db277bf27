/-! empty() exact on both sides -/
noncomputable def aXem (p j id : Nat) (_ : aE) (C : aH) (r : Option aF) : Bool := match sform C [] (0, []) (1, p, j, 0, 0), r with
  | some f, some q => cond (lEq q (0, [(id, 1)])) (lEq f (0, [])) false
  | _, _ => false
/-- what empty() answers where the count is n, and the new count m -/
def empP (n : Int) (r : Option Value) (m : Int) : Prop := r = some (.int (Int32.ofInt n)) ∧ m = 0
theorem emp_con {HN : List (List (Nat × aHn))} {G : aG} {sm : aSm} {k n p j id : Nat} {lo hi : Int} (hG : aGok G) (hSM : SumOK G) (hr : ∀ q ∈ sm.2.1, aMN ≤ q.1 ∧ q.2 ≤ aMX) (hid : G.2.2.2.2.1[id]? = some (1, p, j, lo, hi)) (h : aRunX HN G (aFinX G sm (aXem p j id)) [] k 0 n = true) {σ : aσ} (hI : InvV G σ) : RP k (cH σ G.2.2.2.2.2) 0 (lv_args 0 [.ref 0]) [] (fun r C' => ∃ τ, InvV G τ ∧ C' = cH τ G.2.2.2.2.2 ∧ frmP sm σ τ G.2.2.2.2.1 ∧ retP sm.2.1 r ∧ empP (σ id 0) r (τ id 0)) := by
  have hidl := (List.getElem?_eq_some_iff.mp hid).1
  refine con_gen (xs := []) hG hSM h hI trivial (fun e C r τ hf t1 t2 t3 t4 t5 t6 => ?_)
  obtain ⟨f1, f2⟩ := cond_tf hf
  have hagN : aAg G.2.2.2.2.1.length σ τ := fun i hi => by
    rw [← t6 i (by omega)]
    unfold sσ
    rw [if_pos hi]
  obtain ⟨c1, c2, c3, c4⟩ := fin_c hG hr f1 t1 hagN
  refine ⟨_, c1, c2, c3, c4, ?_⟩
  have hτid : τ id 0 = σ id 0 := by rw [hagN id hidl]
  have hat := aTau_at (σ := τ) (n0 := 0) (C := C) (L := []) (g := (0, [])) hid
  rw [Nat.zero_add] at hat
  have hsf : ∀ f, sform C [] (0, []) (1, p, j, 0, 0) = some f → aTau τ G.2.2.2.2.1 0 C [] (0, []) id 0 = (Int32.ofInt (cF τ f)).toInt := fun f hf => by
    rw [hat]
    unfold sval
    rw [if_neg (show ¬ (1 : Nat) = 3 by decide), if_neg (show ¬ (1 : Nat) = 2 by decide)]
    have : sform C [] (0, []) (1, p, j, lo, hi) = sform C [] (0, []) (1, p, j, 0, 0) := rfl
    rw [this, hf]
  unfold aXem at f2
  cases hs : sform C [] (0, []) (1, p, j, 0, 0) with
  | none => rw [hs] at f2; cases f2
  | some f =>
    rw [hs] at f2
    cases r with
    | none => cases f2
    | some q =>
      have hval := hsf f hs
      rw [hval]
      dsimp only at f2
      obtain ⟨g1, g2⟩ := cond_tf f2
      refine ⟨?_, ?_⟩
      · rw [lEq_eq g1]
        show some (Value.int (Int32.ofInt (cF τ (0, [(id, 1)])))) = _
        rw [lvar_c, hτid]
      · rw [lEq_eq g2, lcst_c]
        rfl
theorem axe_x : aRunX aHN aGX_6 (aFinX aGX_6 sm_57_0 (aXem 0 3 0)) [] 57 0 20000 = true := by decide +kernel
theorem axe_m : aRunX aHN aGM_4 (aFinX aGM_4 sm_98_0 (aXem 0 4 0)) [] 98 0 20000 = true := by decide +kernel
theorem emp_x {σ : aσ} (hI : InvV aGX_6 σ) : RP 57 (cH σ aHX) 0 (lv_args 0 [.ref 0]) [] (fun r C' => ∃ τ, InvV aGX_6 τ ∧ C' = cH τ aHX ∧ frmP sm_57_0 σ τ aISX ∧ retP sm_57_0.2.1 r ∧ empP (σ 0 0) r (τ 0 0)) := emp_con gX_6 soX_6 (smOK_of (by decide +kernel)).2 (p := 0) (j := 3) (id := 0) (lo := 0) (hi := 16) (by decide +kernel) axe_x hI
theorem emp_m {σ : aσ} (hI : InvV aGM_4 σ) : RP 98 (cH σ aHM) 0 (lv_args 0 [.ref 0]) [] (fun r C' => ∃ τ, InvV aGM_4 τ ∧ C' = cH τ aHM ∧ frmP sm_98_0 σ τ aISM ∧ retP sm_98_0.2.1 r ∧ empP (σ 0 0) r (τ 0 0)) := emp_con gM_4 soM_4 (smOK_of (by decide +kernel)).2 (p := 0) (j := 4) (id := 0) (lo := 0) (hi := 16) (by decide +kernel) axe_m hI
