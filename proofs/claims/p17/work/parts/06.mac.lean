/-! SHORTCUTS: idiv, irem and System.arraycopy, where the methods have them -/
noncomputable def xm_div (C : xC) (pc1 : Nat) (L : xL) (S : List Value) : Option (xC × Nat × xL × List Value) := match S with
  | .int y :: .int x :: T => cond (decide (y = 0)) none (some (C, pc1, L, .int (x / y) :: T))
  | _ => none
noncomputable def xm_rem (C : xC) (pc1 : Nat) (L : xL) (S : List Value) : Option (xC × Nat × xL × List Value) := match S with
  | .int y :: .int x :: T => cond (decide (y = 0)) none (some (C, pc1, L, .int (x - x / y * y) :: T))
  | _ => none
noncomputable def xm_cpy (C : xC) (pc1 : Nat) (L : xL) (S : List Value) : Option (xC × Nat × xL × List Value) := match S with
  | [.int n, .int dp, .ref a, .int sp, .ref b] => match C[b]? with
    | some (.inl (0, n0, .inl f)) => match C[a]? with
      | some (.inl (0, n1, .inl g)) => cond (decide (¬ sp < 0 ∧ ¬ dp < 0 ∧ ¬ n < 0 ∧ sp.toNatClampNeg + n.toNatClampNeg ≤ n0 ∧ dp.toNatClampNeg + n.toNatClampNeg ≤ n1)) (some (C.set a (.inl (0, n1, .inl (va_cpy f g sp.toNatClampNeg dp.toNatClampNeg n.toNatClampNeg))), pc1, L, [])) none
      | _ => none
    | _ => none
  | _ => none
def xspot (k pc : Nat) : Bool := (Nat.beq k 82 && Nat.beq pc 3) || ((Nat.beq k 83 && Nat.beq pc 3) || ((Nat.beq k 104 && Nat.beq pc 160) || (Nat.beq k 52 && Nat.beq pc 11)))
noncomputable def xmac : xMac := fun k C pc L S => cond (Nat.beq k 82 && Nat.beq pc 3) (xm_div C 4 L S) (cond (Nat.beq k 83 && Nat.beq pc 3) (xm_rem C 4 L S) (cond (Nat.beq k 104 && Nat.beq pc 160) (xm_rem C 161 L S) (cond (Nat.beq k 52 && Nat.beq pc 11) (xm_cpy C 14 L S) none)))
theorem xmac_none {k pc : Nat} (h : xspot k pc = false) (C : xC) (L : xL) (S : List Value) : xmac k C pc L S = none := by
  simp only [xspot, Bool.or_eq_false_iff] at h
  unfold xmac
  rw [h.1, h.2.1, h.2.2.1, h.2.2.2]
  rfl
theorem xm_div_inv {C : xC} {pc1 : Nat} {L : xL} {S : List Value} {r : xC × Nat × xL × List Value} (h : xm_div C pc1 L S = some r) : ∃ (x y : Int32) (T : List Value), S = .int y :: .int x :: T ∧ ¬ y = 0 ∧ r = (C, pc1, L, .int (x / y) :: T) := by
  unfold xm_div at h
  split at h
  · rename_i y x T
    by_cases e : y = 0
    · rw [decide_eq_true e] at h; cases h
    · rw [decide_eq_false e] at h; cases h; exact ⟨x, y, T, rfl, e, rfl⟩
  · cases h
theorem xm_rem_inv {C : xC} {pc1 : Nat} {L : xL} {S : List Value} {r : xC × Nat × xL × List Value} (h : xm_rem C pc1 L S = some r) : ∃ (x y : Int32) (T : List Value), S = .int y :: .int x :: T ∧ ¬ y = 0 ∧ r = (C, pc1, L, .int (x - x / y * y) :: T) := by
  unfold xm_rem at h
  split at h
  · rename_i y x T
    by_cases e : y = 0
    · rw [decide_eq_true e] at h; cases h
    · rw [decide_eq_false e] at h; cases h; exact ⟨x, y, T, rfl, e, rfl⟩
  · cases h
theorem xm_cpy_inv {C : xC} {pc1 : Nat} {L : xL} {S : List Value} {r : xC × Nat × xL × List Value} (h : xm_cpy C pc1 L S = some r) : ∃ (n dp sp : Int32) (a b n0 n1 : Nat) (f g : Nat → Int32), S = [.int n, .int dp, .ref a, .int sp, .ref b] ∧ C[b]? = some (.inl (0, n0, .inl f)) ∧ C[a]? = some (.inl (0, n1, .inl g)) ∧ ¬ sp < 0 ∧ ¬ dp < 0 ∧ ¬ n < 0 ∧ sp.toNatClampNeg + n.toNatClampNeg ≤ n0 ∧ dp.toNatClampNeg + n.toNatClampNeg ≤ n1 ∧ r = (C.set a (.inl (0, n1, .inl (va_cpy f g sp.toNatClampNeg dp.toNatClampNeg n.toNatClampNeg))), pc1, L, []) := by
  unfold xm_cpy at h
  split at h
  · rename_i n dp a sp b
    split at h
    · rename_i n0 f hb
      split at h
      · rename_i n1 g ha
        by_cases e : (¬ sp < 0 ∧ ¬ dp < 0 ∧ ¬ n < 0 ∧ sp.toNatClampNeg + n.toNatClampNeg ≤ n0 ∧ dp.toNatClampNeg + n.toNatClampNeg ≤ n1)
        · rw [decide_eq_true e] at h; cases h; exact ⟨n, dp, sp, a, b, n0, n1, f, g, rfl, hb, ha, e.1, e.2.1, e.2.2.1, e.2.2.2.1, e.2.2.2.2, rfl⟩
        · rw [decide_eq_false e] at h; cases h
      · cases h
    · cases h
  · cases h
theorem xd_div : decode cX4_functionAt 3 = .ok (.idiv, 1) := by decide +kernel
theorem xd_rem1 : decode cX4_instructionAt 3 = .ok (.irem, 1) := by decide +kernel
theorem xd_rem2 : decode cX5_does 160 = .ok (.irem, 1) := by decide +kernel
theorem xd_cpy : decode cX3_copyRow 11 = .ok (.invokestatic 145, 3) := by decide +kernel
set_option maxHeartbeats 1000000 in
theorem xmac_ok (l : Launch) (D : va_G) (cI cZ : ClassId) (ρ : Nat → Nat) : xe_MacOK xMT xmac xCLs xWS xNS l D cI cZ ρ := by
  intro k C pc L S C1 pc1 L1 S1 h A N p e s m args below meth c H locs ls Q B hP hD hS hl hN K
  obtain ⟨hx, hb, hr, hlk, hml, hown, hts, hns, hK, hA⟩ := B
  have hin : ∀ {u : Cond}, u ∈ xWS → u.before args s = true := fun hu => hts _ (List.mem_cons_of_mem _ hu)
  unfold xmac at h
  cases q1 : (Nat.beq k 82 && Nat.beq pc 3) with
  | true =>
    rw [q1] at h
    simp only [Bool.and_eq_true] at q1
    have e1 := Nat.eq_of_beq_eq_true q1.1
    have e2 := Nat.eq_of_beq_eq_true q1.2
    subst e1; subst e2
    obtain ⟨x, y, T, rfl, hy, h3⟩ := xm_div_inv h
    cases h3
    exact lv_idiv hx hb xd_div hy (K H locs ls hP hD hS hl hN)
  | false =>
  rw [q1] at h
  simp only [cond_false] at h
  cases q2 : (Nat.beq k 83 && Nat.beq pc 3) with
  | true =>
    rw [q2] at h
    simp only [Bool.and_eq_true] at q2
    have e1 := Nat.eq_of_beq_eq_true q2.1
    have e2 := Nat.eq_of_beq_eq_true q2.2
    subst e1; subst e2
    obtain ⟨x, y, T, rfl, hy, h3⟩ := xm_rem_inv h
    cases h3
    exact lv_irem hx hb xd_rem1 hy (K H locs ls hP hD hS hl hN)
  | false =>
  rw [q2] at h
  simp only [cond_false] at h
  cases q3 : (Nat.beq k 104 && Nat.beq pc 160) with
  | true =>
    rw [q3] at h
    simp only [Bool.and_eq_true] at q3
    have e1 := Nat.eq_of_beq_eq_true q3.1
    have e2 := Nat.eq_of_beq_eq_true q3.2
    subst e1; subst e2
    obtain ⟨x, y, T, rfl, hy, h3⟩ := xm_rem_inv h
    cases h3
    exact lv_irem hx hb xd_rem2 hy (K H locs ls hP hD hS hl hN)
  | false =>
  rw [q3] at h
  simp only [cond_false] at h
  cases q4 : (Nat.beq k 52 && Nat.beq pc 11) with
  | true =>
    rw [q4] at h
    simp only [Bool.and_eq_true] at q4
    have e1 := Nat.eq_of_beq_eq_true q4.1
    have e2 := Nat.eq_of_beq_eq_true q4.2
    subst e1; subst e2
    obtain ⟨n, dp, sp, a, b, n0, n1, f, g, rfl, hCb, hCa, g1, g2, g3, g4, g5, h3⟩ := xm_cpy_inv h
    cases h3
    refine va_copyi (own := RX3) (index := 145) (ty := .int) (c0 := cI) (c1 := cI) (rest := []) hx hb (hml.trans hl.1.symm) hown (hin (xe_wd_mem (n := 427) (u := .methodLink RX3 145 arraycopyName) (by decide +kernel))) (hin (xe_wd_mem (n := 429) (u := .native arraycopyName) (by decide +kernel))) (hin (xe_wd_mem (n := 428) (u := .static arraycopyName) (by decide +kernel))) (hin (xe_wd_mem (n := 69) (u := .initialized "java/lang/System") (by decide +kernel))) hK hP hD hS b a 0 0 (xw_get hCb) (xw_get hCa) rfl rfl rfl g1 g2 g3 g4 g5 (fun _ _ => rfl) (by decide +kernel) (by decide +kernel) xd_cpy (fun H1 locs1 hP1 hD1 hS1 => ?_)
    have hP2 : va_P D xCLs (xw cI cZ ρ (C.set a (.inl (0, n1, .inl (va_cpy f g sp.toNatClampNeg dp.toNatClampNeg n.toNatClampNeg))))) H1 := by
      rw [← xw_set]
      exact hP1
    exact K H1 locs1 ls hP2 (xw_D (by simp) hD) hS1 hl (by simpa using hN)
  | false =>
    rw [q4] at h
    cases h
