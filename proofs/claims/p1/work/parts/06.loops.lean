/-! SHORTCUTS: the two loops that empty three rows of 186 (forget, flows) -/
def xe_eqv (a b : va_E) : Prop := a = b ∨ ∃ (t n : Nat) (f g : Nat → Int32), a = .inl (t, n, .inl f) ∧ b = .inl (t, n, .inl g) ∧ ∀ j, j < n → f j = g j
theorem xe_arr {cA : ClassId} {n : Nat} {f g : Nat → Int32} (h : ∀ j, j < n → f j = g j) : vp_cell cA (n, .inl f) = vp_cell cA (n, .inl g) := by
  rw [vp_cell_i, vp_cell_i]
  unfold arrV
  congr 2
  funext j
  show Value.int (f j.val) = Value.int (g j.val)
  rw [h j.val j.isLt]
theorem xw_eqv {D : va_G} {CL : List vw_C} {cI cZ : ClassId} {ρ : Nat → Nat} {C1 C2 : xC} {H : Heap} (h : va_P D CL (xw cI cZ ρ C1) H) (hh : ∀ (q : Nat) (b : va_E), C2[q]? = some b → ∃ a, C1[q]? = some a ∧ xe_eqv a b) : va_P D CL (xw cI cZ ρ C2) H := by
  intro k q hk
  have hl := (xw_at hk).1
  obtain ⟨a, h1, h2⟩ := hh k _ (List.getElem?_eq_getElem hl)
  have e2 := xw_get (cI := cI) (cZ := cZ) (ρ := ρ) (List.getElem?_eq_getElem hl)
  rw [e2] at hk
  cases hk
  have h3 := h k _ (xw_get h1)
  rcases h2 with h2 | ⟨t, n, f, g, ea, eb, hfg⟩
  · rw [← h2]
    exact h3
  · rw [ea] at h3
    rw [eb]
    have h4 : H[ρ k]? = some (vp_cell (xcy cI cZ t) (n, .inl f)) := h3
    show H[ρ k]? = some (vp_cell (xcy cI cZ t) (n, .inl g))
    rw [h4, xe_arr hfg]
noncomputable def xe_gr (C : xC) (fs : List Value) (j t : Nat) : Option Nat := match xe_nth fs j with
  | some (.ref i) => match xe_nth C i with
    | some (.inl (s, n, .inl _)) => cond (Nat.beq s t && Nat.beq n 186) (some i) none
    | _ => none
  | _ => none
theorem xe_gr_inv {C : xC} {fs : List Value} {j t i : Nat} (h : xe_gr C fs j t = some i) : fs[j]? = some (.ref i) ∧ ∃ f : Nat → Int32, C[i]? = some (.inl (t, 186, .inl f)) := by
  unfold xe_gr at h
  split at h
  · rename_i i0 h1
    split at h
    · rename_i s n f h2
      cases hq : (Nat.beq s t && Nat.beq n 186) with
      | true =>
        rw [hq] at h
        simp only [Bool.and_eq_true] at hq
        have e1 := Nat.eq_of_beq_eq_true hq.1
        have e2 := Nat.eq_of_beq_eq_true hq.2
        subst e1; subst e2
        have h : some i0 = some i := h
        cases h
        rw [xe_nth_eq] at h1 h2
        exact ⟨h1, f, h2⟩
      | false => rw [hq] at h; cases h
    · cases h
  · cases h
noncomputable def xe_z3 (C : xC) (L : xL) (li ci j1 j2 j3 t1 t2 t3 out : Nat) : Option (xC × Nat × xL × List Value) := match xe_as L li with
  | some (.int v) => cond (decide (v = 0)) (match xe_as L 0 with
    | some (.ref a) => match xe_nth C a with
      | some (.inr (cj, fs)) => cond (Nat.beq cj ci) (match xe_gr C fs j1 t1 with
        | some i1 => match xe_gr C fs j2 t2 with
          | some i2 => match xe_gr C fs j3 t3 with
            | some i3 => cond (!(Nat.beq i1 i2) && (!(Nat.beq i1 i3) && !(Nat.beq i2 i3))) (xe_set C i1 (.inl (t1, 186, .inl fun _ => 0)) fun C1 => xe_set C1 i2 (.inl (t2, 186, .inl fun _ => 0)) fun C2 => xe_set C2 i3 (.inl (t3, 186, .inl fun _ => 0)) fun C3 => some (C3, out, xe_st L li (.int 186), [])) none
            | none => none
          | none => none
        | none => none) none
      | _ => none
    | _ => none) none
  | _ => none
theorem xe_z3_inv {C : xC} {L : xL} {li ci j1 j2 j3 t1 t2 t3 out : Nat} {C1 : xC} {pc1 : Nat} {L1 : xL} {S1 : List Value} (h : xe_z3 C L li ci j1 j2 j3 t1 t2 t3 out = some (C1, pc1, L1, S1)) : ∃ (a : Nat) (fs : List Value) (i1 i2 i3 : Nat) (f1 f2 f3 : Nat → Int32), (li, Value.int 0) ∈ L ∧ (0, Value.ref a) ∈ L ∧ C[a]? = some (.inr (ci, fs)) ∧ fs[j1]? = some (.ref i1) ∧ fs[j2]? = some (.ref i2) ∧ fs[j3]? = some (.ref i3) ∧ C[i1]? = some (.inl (t1, 186, .inl f1)) ∧ C[i2]? = some (.inl (t2, 186, .inl f2)) ∧ C[i3]? = some (.inl (t3, 186, .inl f3)) ∧ i1 ≠ i2 ∧ i1 ≠ i3 ∧ i2 ≠ i3 ∧ C1 = ((C.set i1 (.inl (t1, 186, .inl fun _ => 0))).set i2 (.inl (t2, 186, .inl fun _ => 0))).set i3 (.inl (t3, 186, .inl fun _ => 0)) ∧ pc1 = out ∧ L1 = xe_st L li (.int 186) ∧ S1 = [] := by
  unfold xe_z3 at h
  split at h
  · rename_i v hv
    cases hv0 : decide (v = 0) with
    | false => rw [hv0] at h; cases h
    | true =>
      rw [hv0] at h
      have ev := of_decide_eq_true hv0
      subst ev
      simp only [cond_true] at h
      split at h
      · rename_i a ha
        split at h
        · rename_i cj fs hC
          cases hc : Nat.beq cj ci with
          | false => rw [hc] at h; cases h
          | true =>
            rw [hc] at h
            have ec := Nat.eq_of_beq_eq_true hc
            subst ec
            simp only [cond_true] at h
            split at h
            · rename_i i1 h1
              split at h
              · rename_i i2 h2
                split at h
                · rename_i i3 h3
                  cases hq : (!(Nat.beq i1 i2) && (!(Nat.beq i1 i3) && !(Nat.beq i2 i3))) with
                  | false => rw [hq] at h; cases h
                  | true =>
                    rw [hq] at h
                    simp only [Bool.and_eq_true, Bool.not_eq_true'] at hq
                    simp only [cond_true, xe_set_eq] at h
                    cases h
                    obtain ⟨a1, f1, b1⟩ := xe_gr_inv h1
                    obtain ⟨a2, f2, b2⟩ := xe_gr_inv h2
                    obtain ⟨a3, f3, b3⟩ := xe_gr_inv h3
                    rw [xe_nth_eq] at hC
                    exact ⟨a, fs, i1, i2, i3, f1, f2, f3, xe_as_mem hv, xe_as_mem ha, hC, a1, a2, a3, b1, b2, b3, Nat.ne_of_beq_eq_false hq.1, Nat.ne_of_beq_eq_false hq.2.1, Nat.ne_of_beq_eq_false hq.2.2, rfl, rfl, rfl, rfl⟩
                · cases h
              · cases h
            · cases h
        · cases h
      · cases h
  · cases h
def xz_I (C Cj : xC) (i1 i2 i3 t1 t2 t3 : Nat) (f1 f2 f3 : Nat → Int32) : Prop := Cj.length = C.length ∧ Cj[i1]? = some (.inl (t1, 186, .inl f1)) ∧ Cj[i2]? = some (.inl (t2, 186, .inl f2)) ∧ Cj[i3]? = some (.inl (t3, 186, .inl f3)) ∧ ∀ q, q ≠ i1 → q ≠ i2 → q ≠ i3 → Cj[q]? = C[q]?
theorem xz_lt {C : xC} {i : Nat} {e : va_E} (h : C[i]? = some e) : i < C.length := (List.getElem?_eq_some_iff.mp h).1
theorem xz_1 {C Cj : xC} {i1 i2 i3 t1 t2 t3 : Nat} {f1 f2 f3 g : Nat → Int32} (h : xz_I C Cj i1 i2 i3 t1 t2 t3 f1 f2 f3) (n12 : i1 ≠ i2) (n13 : i1 ≠ i3) : xz_I C (Cj.set i1 (.inl (t1, 186, .inl g))) i1 i2 i3 t1 t2 t3 g f2 f3 := by
  obtain ⟨h0, h1, h2, h3, h4⟩ := h
  refine ⟨by rw [List.length_set]; exact h0, ?_, ?_, ?_, fun q q1 q2 q3 => ?_⟩
  · rw [List.getElem?_set_self (xz_lt h1)]
  · rw [List.getElem?_set_ne n12]; exact h2
  · rw [List.getElem?_set_ne n13]; exact h3
  · rw [List.getElem?_set_ne (Ne.symm q1)]; exact h4 q q1 q2 q3
theorem xz_2 {C Cj : xC} {i1 i2 i3 t1 t2 t3 : Nat} {f1 f2 f3 g : Nat → Int32} (h : xz_I C Cj i1 i2 i3 t1 t2 t3 f1 f2 f3) (n12 : i1 ≠ i2) (n23 : i2 ≠ i3) : xz_I C (Cj.set i2 (.inl (t2, 186, .inl g))) i1 i2 i3 t1 t2 t3 f1 g f3 := by
  obtain ⟨h0, h1, h2, h3, h4⟩ := h
  refine ⟨by rw [List.length_set]; exact h0, ?_, ?_, ?_, fun q q1 q2 q3 => ?_⟩
  · rw [List.getElem?_set_ne (Ne.symm n12)]; exact h1
  · rw [List.getElem?_set_self (xz_lt h2)]
  · rw [List.getElem?_set_ne n23]; exact h3
  · rw [List.getElem?_set_ne (Ne.symm q2)]; exact h4 q q1 q2 q3
theorem xz_3 {C Cj : xC} {i1 i2 i3 t1 t2 t3 : Nat} {f1 f2 f3 g : Nat → Int32} (h : xz_I C Cj i1 i2 i3 t1 t2 t3 f1 f2 f3) (n13 : i1 ≠ i3) (n23 : i2 ≠ i3) : xz_I C (Cj.set i3 (.inl (t3, 186, .inl g))) i1 i2 i3 t1 t2 t3 f1 f2 g := by
  obtain ⟨h0, h1, h2, h3, h4⟩ := h
  refine ⟨by rw [List.length_set]; exact h0, ?_, ?_, ?_, fun q q1 q2 q3 => ?_⟩
  · rw [List.getElem?_set_ne (Ne.symm n13)]; exact h1
  · rw [List.getElem?_set_ne (Ne.symm n23)]; exact h2
  · rw [List.getElem?_set_self (xz_lt h3)]
  · rw [List.getElem?_set_ne (Ne.symm q3)]; exact h4 q q1 q2 q3
theorem xz_upd {f : Nat → Int32} {j : Nat} (h : ∀ i, i < j → f i = 0) : ∀ i, i < j + 1 → upd f j 0 i = 0 := by
  intro i hi
  unfold upd
  split
  · rfl
  · exact h i (by omega)

theorem xe_st_st (L : xL) (i : Nat) (u v : Value) : xe_st (xe_st L i u) i v = xe_st L i v := by
  unfold xe_st
  simp [List.filter_filter]
set_option maxHeartbeats 4000000 in
set_option maxRecDepth 100000 in
theorem xz_40 {l : Launch} {D : va_G} {cI cZ : ClassId} {ρ : Nat → Nat} {C : xC} {L : xL} {a : Nat} {fs : List Value} {i1 i2 i3 : Nat} {A : Nat → Prop} {N : Nat} {p : Program} {e : Env} {s : State} {m : MethodId} {args : Array Value} {below : List Frame} {meth : Method} {c : Code} {Q : State → Prop} (B : xe_At xMT xCLs xWS xNS D cI cZ 40 A p s m args meth c) (hN : C.length = N) (h0 : (0, Value.ref a) ∈ L) (hCa : C[a]? = some (.inr (0, fs))) (hf1 : fs[1]? = some (.ref i1)) (hf2 : fs[2]? = some (.ref i2)) (hf3 : fs[3]? = some (.ref i3)) (ha1 : a ≠ i1) (ha2 : a ≠ i2) (ha3 : a ≠ i3) (n12 : i1 ≠ i2) (n13 : i1 ≠ i3) (n23 : i2 ≠ i3)
    (K : ∀ (Cj : xC) (f1 f2 f3 : Nat → Int32) (H1 : Heap) (locs1 : List Loc) (ls1 : Array Slot), xz_I C Cj i1 i2 i3 0 0 1 f1 f2 f3 → (∀ i, i < 186 → f1 i = 0) → (∀ i, i < 186 → f2 i = 0) → (∀ i, i < 186 → f3 i = 0) → va_P D xCLs (xw cI cZ ρ Cj) H1 → va_D A (xw cI cZ ρ Cj) → va_S A s.heap H1 locs1 → lv_has ls1 (xm_n (xMT 40)) (xl ρ (xe_st L 1 (.int 186))) → W p l e (xe_rm (xMT 40)) s m args below meth c H1 locs1 0 0 Q (F0 m 36 ls1 [])) :
    ∀ (n j : Nat) (L1 : xL) (Cj : xC) (f1 f2 f3 : Nat → Int32) (H : Heap) (locs : List Loc) (ls : Array Slot), j + n = 186 → L1 = xe_st L 1 (.int (nI j)) → xz_I C Cj i1 i2 i3 0 0 1 f1 f2 f3 → (∀ i, i < j → f1 i = 0) → (∀ i, i < j → f2 i = 0) → (∀ i, i < j → f3 i = 0) → va_P D xCLs (xw cI cZ ρ Cj) H → va_D A (xw cI cZ ρ Cj) → va_S A s.heap H locs → lv_has ls (xm_n (xMT 40)) (xl ρ L1) → W p l e (xe_rm (xMT 40)) s m args below meth c H locs 0 0 Q (F0 m 2 ls []) := by
  obtain ⟨hx, hb, hr, hlk, hml, hown, hts, hns, hK, hA⟩ := B
  have hin : ∀ {u : Cond}, u ∈ xWS → u.before args s = true := fun hu => hts _ (List.mem_cons_of_mem _ hu)
  have dd : ∀ {pc : Nat} {i : Instr} {len : Nat}, xe_lk (xm_t (xMT 40)) pc = some (i, len) → decode (xm_c (xMT 40)) pc = .ok (i, len) := fun h => ((xk_all 40).1 _ _ _ h).1
  obtain ⟨Cn0, Tn0, Nn0, g10, g20, g30, -, -⟩ := (xk_all 40).2.2.2.2.2.1 (11, 0, 1, 2) (List.mem_of_getElem? (i := 0) rfl)
  obtain ⟨Cn1, Tn1, Nn1, g11, g21, g31, -, -⟩ := (xk_all 40).2.2.2.2.2.1 (15, 0, 2, 2) (List.mem_of_getElem? (i := 1) rfl)
  obtain ⟨Cn2, Tn2, Nn2, g12, g22, g32, -, -⟩ := (xk_all 40).2.2.2.2.2.1 (18, 0, 3, 2) (List.mem_of_getElem? (i := 2) rfl)
  intro n
  induction n with
  | zero =>
    intro j L1 Cj f1 f2 f3 H locs ls hj eL hI p1 p2 p3 hP hD hS hl
    have hj2 : (1, Value.int (nI j)) ∈ L1 := by rw [eL]; exact List.mem_cons_self
    refine lv_iload_n hx hb (dd (pc := 2) rfl) rfl (xe_has hl hj2) ?_
    refine lv_sipush (v := 186) hx hb (dd (pc := 3) rfl) rfl ?_
    refine lv_icmp_ge (tgt := 36) hx hb (dd (pc := 6) rfl) rfl (fun hq => ?_) (fun hq => ?_)
    · have ej : j = 186 := by omega
      subst ej
      exact K Cj f1 f2 f3 H locs ls hI p1 p2 p3 hP hD hS (by rw [← show (nI 186 : Int32) = 186 from rfl, ← eL]; exact hl)
    · exact absurd (show (186 : Int32) ≤ nI j by rw [show j = 186 by omega]; decide) hq
  | succ n ih =>
    intro j L1 Cj f1 f2 f3 H locs ls hj eL hI p1 p2 p3 hP hD hS hl
    have hj2 : (1, Value.int (nI j)) ∈ L1 := by rw [eL]; exact List.mem_cons_self
    refine lv_iload_n hx hb (dd (pc := 2) rfl) rfl (xe_has hl hj2) ?_
    refine lv_sipush (v := 186) hx hb (dd (pc := 3) rfl) rfl ?_
    refine lv_icmp_ge (tgt := 36) hx hb (dd (pc := 6) rfl) rfl (fun hq => ?_) (fun hq => ?_)
    · exact absurd hq (show ¬ (186 : Int32) ≤ nI j from nI_ge (a := j) (b := 186) (by omega) (by omega))
    · have hi : vp_in (nI j) 186 := vp_in_nI (by omega) (by omega)
      have h0j : (0, Value.ref a) ∈ L1 := by rw [eL]; exact List.mem_cons_of_mem _ (List.mem_filter.mpr ⟨h0, rfl⟩)
      refine lv_aload_n hx hb (dd (pc := 9) rfl) rfl (xe_has hl h0j) ?_
      refine va_get (D := D) (ci := 0) (v := .ref (ρ i1)) (C := Cn0) (T := Tn0) (N := Nn0) hx hb hts (fun u hu => List.mem_cons_of_mem _ ((xq_all 0 Cn0 Tn0 Nn0 g10).1 u hu)) hown hK hP a (xw_get ((hI.2.2.2.2 a ha1 ha2 ha3).trans hCa)) g10 1 g20 (hin g30) (fun _ h9 => h9) (by rw [List.getElem?_map, hf1]; rfl) (dd (pc := 10) rfl) ?_
      refine lv_iload_n hx hb (dd (pc := 13) rfl) rfl (xe_has hl hj2) ?_
      refine lv_iconst (v := 0) hx hb (dd (pc := 14) rfl) rfl ?_
      refine va_iast hx hb hK hP hD hS i1 0 (xw_get hI.2.1) rfl hi (dd (pc := 15) rfl) (fun H locs hP hD hS => ?_)
      rw [nI_clamp (show j < 2 ^ 31 by omega), show (Sum.inl (xcy cI cZ 0, 186, Sum.inl (upd f1 j 0)) : va_E) = xd cI cZ ρ (.inl (0, 186, .inl (upd f1 j 0))) from rfl, xw_set] at hP hD
      replace hI := xz_1 (g := upd f1 j 0) hI n12 n13
      refine lv_aload_n hx hb (dd (pc := 16) rfl) rfl (xe_has hl h0j) ?_
      refine va_get (D := D) (ci := 0) (v := .ref (ρ i2)) (C := Cn1) (T := Tn1) (N := Nn1) hx hb hts (fun u hu => List.mem_cons_of_mem _ ((xq_all 0 Cn1 Tn1 Nn1 g11).1 u hu)) hown hK hP a (xw_get ((hI.2.2.2.2 a ha1 ha2 ha3).trans hCa)) g11 2 g21 (hin g31) (fun _ h9 => h9) (by rw [List.getElem?_map, hf2]; rfl) (dd (pc := 17) rfl) ?_
      refine lv_iload_n hx hb (dd (pc := 20) rfl) rfl (xe_has hl hj2) ?_
      refine lv_iconst (v := 0) hx hb (dd (pc := 21) rfl) rfl ?_
      refine va_iast hx hb hK hP hD hS i2 0 (xw_get hI.2.2.1) rfl hi (dd (pc := 22) rfl) (fun H locs hP hD hS => ?_)
      rw [nI_clamp (show j < 2 ^ 31 by omega), show (Sum.inl (xcy cI cZ 0, 186, Sum.inl (upd f2 j 0)) : va_E) = xd cI cZ ρ (.inl (0, 186, .inl (upd f2 j 0))) from rfl, xw_set] at hP hD
      replace hI := xz_2 (g := upd f2 j 0) hI n12 n23
      refine lv_aload_n hx hb (dd (pc := 23) rfl) rfl (xe_has hl h0j) ?_
      refine va_get (D := D) (ci := 0) (v := .ref (ρ i3)) (C := Cn2) (T := Tn2) (N := Nn2) hx hb hts (fun u hu => List.mem_cons_of_mem _ ((xq_all 0 Cn2 Tn2 Nn2 g12).1 u hu)) hown hK hP a (xw_get ((hI.2.2.2.2 a ha1 ha2 ha3).trans hCa)) g12 3 g22 (hin g32) (fun _ h9 => h9) (by rw [List.getElem?_map, hf3]; rfl) (dd (pc := 24) rfl) ?_
      refine lv_iload_n hx hb (dd (pc := 27) rfl) rfl (xe_has hl hj2) ?_
      refine lv_iconst (v := 0) hx hb (dd (pc := 28) rfl) rfl ?_
      refine va_zast hx hb hK hP hD hS i3 1 (xw_get hI.2.2.2.1) rfl hi (dd (pc := 29) rfl) (fun H locs hP hD hS => ?_)
      rw [nI_clamp (show j < 2 ^ 31 by omega), show (Sum.inl (xcy cI cZ 1, 186, Sum.inl (upd f3 j (vp_nar .boolean 0))) : va_E) = xd cI cZ ρ (.inl (1, 186, .inl (upd f3 j 0))) from rfl, xw_set] at hP hD
      replace hI := xz_3 (g := upd f3 j 0) hI n13 n23
      refine lv_iinc (v := nI (j + 1)) hx hb (dd (pc := 30) rfl) hl (k := 0) (by rw [eL]; rfl) (nI_1 j) (Nat.le_of_ble_eq_true rfl) (xl_st ρ L1 1 (.int (nI (j + 1)))) (fun ls hl => ?_)
      refine lv_goto (tgt := 2) hx hb (dd (pc := 33) rfl) rfl ?_
      refine ih (j + 1) (xe_st L1 1 (.int (nI (j + 1)))) _ (upd f1 j 0) (upd f2 j 0) (upd f3 j 0) H locs ls (by omega) ?_ hI (xz_upd p1) (xz_upd p2) (xz_upd p3) hP hD hS hl
      rw [eL]
      exact xe_st_st L 1 _ _
set_option maxHeartbeats 4000000 in
set_option maxRecDepth 100000 in
theorem xz_75 {l : Launch} {D : va_G} {cI cZ : ClassId} {ρ : Nat → Nat} {C : xC} {L : xL} {a : Nat} {fs : List Value} {i1 i2 i3 : Nat} {A : Nat → Prop} {N : Nat} {p : Program} {e : Env} {s : State} {m : MethodId} {args : Array Value} {below : List Frame} {meth : Method} {c : Code} {Q : State → Prop} (B : xe_At xMT xCLs xWS xNS D cI cZ 75 A p s m args meth c) (hN : C.length = N) (h0 : (0, Value.ref a) ∈ L) (hCa : C[a]? = some (.inr (5, fs))) (hf1 : fs[33]? = some (.ref i1)) (hf2 : fs[34]? = some (.ref i2)) (hf3 : fs[35]? = some (.ref i3)) (ha1 : a ≠ i1) (ha2 : a ≠ i2) (ha3 : a ≠ i3) (n12 : i1 ≠ i2) (n13 : i1 ≠ i3) (n23 : i2 ≠ i3)
    (K : ∀ (Cj : xC) (f1 f2 f3 : Nat → Int32) (H1 : Heap) (locs1 : List Loc) (ls1 : Array Slot), xz_I C Cj i1 i2 i3 1 0 0 f1 f2 f3 → (∀ i, i < 186 → f1 i = 0) → (∀ i, i < 186 → f2 i = 0) → (∀ i, i < 186 → f3 i = 0) → va_P D xCLs (xw cI cZ ρ Cj) H1 → va_D A (xw cI cZ ρ Cj) → va_S A s.heap H1 locs1 → lv_has ls1 (xm_n (xMT 75)) (xl ρ (xe_st L 4 (.int 186))) → W p l e (xe_rm (xMT 75)) s m args below meth c H1 locs1 0 0 Q (F0 m 41 ls1 [])) :
    ∀ (n j : Nat) (L1 : xL) (Cj : xC) (f1 f2 f3 : Nat → Int32) (H : Heap) (locs : List Loc) (ls : Array Slot), j + n = 186 → L1 = xe_st L 4 (.int (nI j)) → xz_I C Cj i1 i2 i3 1 0 0 f1 f2 f3 → (∀ i, i < j → f1 i = 0) → (∀ i, i < j → f2 i = 0) → (∀ i, i < j → f3 i = 0) → va_P D xCLs (xw cI cZ ρ Cj) H → va_D A (xw cI cZ ρ Cj) → va_S A s.heap H locs → lv_has ls (xm_n (xMT 75)) (xl ρ L1) → W p l e (xe_rm (xMT 75)) s m args below meth c H locs 0 0 Q (F0 m 3 ls []) := by
  obtain ⟨hx, hb, hr, hlk, hml, hown, hts, hns, hK, hA⟩ := B
  have hin : ∀ {u : Cond}, u ∈ xWS → u.before args s = true := fun hu => hts _ (List.mem_cons_of_mem _ hu)
  have dd : ∀ {pc : Nat} {i : Instr} {len : Nat}, xe_lk (xm_t (xMT 75)) pc = some (i, len) → decode (xm_c (xMT 75)) pc = .ok (i, len) := fun h => ((xk_all 75).1 _ _ _ h).1
  obtain ⟨Cn0, Tn0, Nn0, g10, g20, g30, -, -⟩ := (xk_all 75).2.2.2.2.2.1 (53, 5, 33, 2) (List.mem_of_getElem? (i := 0) rfl)
  obtain ⟨Cn1, Tn1, Nn1, g11, g21, g31, -, -⟩ := (xk_all 75).2.2.2.2.2.1 (56, 5, 34, 2) (List.mem_of_getElem? (i := 1) rfl)
  obtain ⟨Cn2, Tn2, Nn2, g12, g22, g32, -, -⟩ := (xk_all 75).2.2.2.2.2.1 (59, 5, 35, 2) (List.mem_of_getElem? (i := 2) rfl)
  intro n
  induction n with
  | zero =>
    intro j L1 Cj f1 f2 f3 H locs ls hj eL hI p1 p2 p3 hP hD hS hl
    have hj2 : (4, Value.int (nI j)) ∈ L1 := by rw [eL]; exact List.mem_cons_self
    refine lv_iload hx hb (dd (pc := 3) rfl) (xe_has hl hj2) ?_
    refine lv_sipush (v := 186) hx hb (dd (pc := 5) rfl) rfl ?_
    refine lv_icmp_ge (tgt := 41) hx hb (dd (pc := 8) rfl) rfl (fun hq => ?_) (fun hq => ?_)
    · have ej : j = 186 := by omega
      subst ej
      exact K Cj f1 f2 f3 H locs ls hI p1 p2 p3 hP hD hS (by rw [← show (nI 186 : Int32) = 186 from rfl, ← eL]; exact hl)
    · exact absurd (show (186 : Int32) ≤ nI j by rw [show j = 186 by omega]; decide) hq
  | succ n ih =>
    intro j L1 Cj f1 f2 f3 H locs ls hj eL hI p1 p2 p3 hP hD hS hl
    have hj2 : (4, Value.int (nI j)) ∈ L1 := by rw [eL]; exact List.mem_cons_self
    refine lv_iload hx hb (dd (pc := 3) rfl) (xe_has hl hj2) ?_
    refine lv_sipush (v := 186) hx hb (dd (pc := 5) rfl) rfl ?_
    refine lv_icmp_ge (tgt := 41) hx hb (dd (pc := 8) rfl) rfl (fun hq => ?_) (fun hq => ?_)
    · exact absurd hq (show ¬ (186 : Int32) ≤ nI j from nI_ge (a := j) (b := 186) (by omega) (by omega))
    · have hi : vp_in (nI j) 186 := vp_in_nI (by omega) (by omega)
      have h0j : (0, Value.ref a) ∈ L1 := by rw [eL]; exact List.mem_cons_of_mem _ (List.mem_filter.mpr ⟨h0, rfl⟩)
      refine lv_aload_n hx hb (dd (pc := 11) rfl) rfl (xe_has hl h0j) ?_
      refine va_get (D := D) (ci := 5) (v := .ref (ρ i1)) (C := Cn0) (T := Tn0) (N := Nn0) hx hb hts (fun u hu => List.mem_cons_of_mem _ ((xq_all 5 Cn0 Tn0 Nn0 g10).1 u hu)) hown hK hP a (xw_get ((hI.2.2.2.2 a ha1 ha2 ha3).trans hCa)) g10 33 g20 (hin g30) (fun _ h9 => h9) (by rw [List.getElem?_map, hf1]; rfl) (dd (pc := 12) rfl) ?_
      refine lv_iload hx hb (dd (pc := 15) rfl) (xe_has hl hj2) ?_
      refine lv_iconst (v := 0) hx hb (dd (pc := 17) rfl) rfl ?_
      refine va_zast hx hb hK hP hD hS i1 1 (xw_get hI.2.1) rfl hi (dd (pc := 18) rfl) (fun H locs hP hD hS => ?_)
      rw [nI_clamp (show j < 2 ^ 31 by omega), show (Sum.inl (xcy cI cZ 1, 186, Sum.inl (upd f1 j (vp_nar .boolean 0))) : va_E) = xd cI cZ ρ (.inl (1, 186, .inl (upd f1 j 0))) from rfl, xw_set] at hP hD
      replace hI := xz_1 (g := upd f1 j 0) hI n12 n13
      refine lv_aload_n hx hb (dd (pc := 19) rfl) rfl (xe_has hl h0j) ?_
      refine va_get (D := D) (ci := 5) (v := .ref (ρ i2)) (C := Cn1) (T := Tn1) (N := Nn1) hx hb hts (fun u hu => List.mem_cons_of_mem _ ((xq_all 5 Cn1 Tn1 Nn1 g11).1 u hu)) hown hK hP a (xw_get ((hI.2.2.2.2 a ha1 ha2 ha3).trans hCa)) g11 34 g21 (hin g31) (fun _ h9 => h9) (by rw [List.getElem?_map, hf2]; rfl) (dd (pc := 20) rfl) ?_
      refine lv_iload hx hb (dd (pc := 23) rfl) (xe_has hl hj2) ?_
      refine lv_iconst (v := 0) hx hb (dd (pc := 25) rfl) rfl ?_
      refine va_iast hx hb hK hP hD hS i2 0 (xw_get hI.2.2.1) rfl hi (dd (pc := 26) rfl) (fun H locs hP hD hS => ?_)
      rw [nI_clamp (show j < 2 ^ 31 by omega), show (Sum.inl (xcy cI cZ 0, 186, Sum.inl (upd f2 j 0)) : va_E) = xd cI cZ ρ (.inl (0, 186, .inl (upd f2 j 0))) from rfl, xw_set] at hP hD
      replace hI := xz_2 (g := upd f2 j 0) hI n12 n23
      refine lv_aload_n hx hb (dd (pc := 27) rfl) rfl (xe_has hl h0j) ?_
      refine va_get (D := D) (ci := 5) (v := .ref (ρ i3)) (C := Cn2) (T := Tn2) (N := Nn2) hx hb hts (fun u hu => List.mem_cons_of_mem _ ((xq_all 5 Cn2 Tn2 Nn2 g12).1 u hu)) hown hK hP a (xw_get ((hI.2.2.2.2 a ha1 ha2 ha3).trans hCa)) g12 35 g22 (hin g32) (fun _ h9 => h9) (by rw [List.getElem?_map, hf3]; rfl) (dd (pc := 28) rfl) ?_
      refine lv_iload hx hb (dd (pc := 31) rfl) (xe_has hl hj2) ?_
      refine lv_iconst (v := 0) hx hb (dd (pc := 33) rfl) rfl ?_
      refine va_iast hx hb hK hP hD hS i3 0 (xw_get hI.2.2.2.1) rfl hi (dd (pc := 34) rfl) (fun H locs hP hD hS => ?_)
      rw [nI_clamp (show j < 2 ^ 31 by omega), show (Sum.inl (xcy cI cZ 0, 186, Sum.inl (upd f3 j 0)) : va_E) = xd cI cZ ρ (.inl (0, 186, .inl (upd f3 j 0))) from rfl, xw_set] at hP hD
      replace hI := xz_3 (g := upd f3 j 0) hI n13 n23
      refine lv_iinc (v := nI (j + 1)) hx hb (dd (pc := 35) rfl) hl (k := 0) (by rw [eL]; rfl) (nI_1 j) (Nat.le_of_ble_eq_true rfl) (xl_st ρ L1 4 (.int (nI (j + 1)))) (fun ls hl => ?_)
      refine lv_goto (tgt := 3) hx hb (dd (pc := 38) rfl) rfl ?_
      refine ih (j + 1) (xe_st L1 4 (.int (nI (j + 1)))) _ (upd f1 j 0) (upd f2 j 0) (upd f3 j 0) H locs ls (by omega) ?_ hI (xz_upd p1) (xz_upd p2) (xz_upd p3) hP hD hS hl
      rw [eL]
      exact xe_st_st L 4 _ _
noncomputable def xmac : xMac := fun k C pc L S => cond (Nat.beq k 40 && Nat.beq pc 2) (match S with
  | [] => xe_z3 C L 1 0 1 2 3 0 0 1 36
  | _ => none) (cond (Nat.beq k 75 && Nat.beq pc 3) (match S with
    | [] => xe_z3 C L 4 5 33 34 35 1 0 0 41
    | _ => none) none)
theorem xz_out {D : va_G} {CL : List vw_C} {cI cZ : ClassId} {ρ : Nat → Nat} {C Cj : xC} {i1 i2 i3 t1 t2 t3 : Nat} {f1 f2 f3 : Nat → Int32} {H : Heap} (hI : xz_I C Cj i1 i2 i3 t1 t2 t3 f1 f2 f3) (q1 : ∀ i, i < 186 → f1 i = 0) (q2 : ∀ i, i < 186 → f2 i = 0) (q3 : ∀ i, i < 186 → f3 i = 0) (hP : va_P D CL (xw cI cZ ρ Cj) H) : va_P D CL (xw cI cZ ρ (((C.set i1 (.inl (t1, 186, .inl fun _ => 0))).set i2 (.inl (t2, 186, .inl fun _ => 0))).set i3 (.inl (t3, 186, .inl fun _ => 0)))) H := by
  refine xw_eqv hP (fun q b hb => ?_)
  obtain ⟨h0, h1, h2, h3, h4⟩ := hI
  have l1 := xz_lt h1
  have l2 := xz_lt h2
  have l3 := xz_lt h3
  simp only [List.getElem?_set, List.length_set] at hb
  by_cases e3 : i3 = q
  · subst e3
    rw [if_pos rfl, if_pos (by omega)] at hb
    cases hb
    exact ⟨_, h3, Or.inr ⟨t3, 186, f3, _, rfl, rfl, q3⟩⟩
  · rw [if_neg e3] at hb
    by_cases e2 : i2 = q
    · subst e2
      rw [if_pos rfl, if_pos (by omega)] at hb
      cases hb
      exact ⟨_, h2, Or.inr ⟨t2, 186, f2, _, rfl, rfl, q2⟩⟩
    · rw [if_neg e2] at hb
      by_cases e1 : i1 = q
      · subst e1
        rw [if_pos rfl, if_pos (by omega)] at hb
        cases hb
        exact ⟨_, h1, Or.inr ⟨t1, 186, f1, _, rfl, rfl, q1⟩⟩
      · rw [if_neg e1] at hb
        exact ⟨b, (h4 q (Ne.symm e1) (Ne.symm e2) (Ne.symm e3)).trans hb, Or.inl rfl⟩
theorem xz_ne {C : xC} {a i ci t : Nat} {fs : List Value} {x : vp_A} (h1 : C[a]? = some (.inr (ci, fs))) (h2 : C[i]? = some (.inl (t, x))) : a ≠ i := by
  intro e
  rw [e, h2] at h1
  cases h1
theorem xz_eta {L : xL} {li : Nat} (h : (li, Value.int 0) ∈ L) {ls : Array Slot} {n : Nat} {ρ : Nat → Nat} (hl : lv_has ls n (xl ρ L)) : lv_has ls n (xl ρ (xe_st L li (.int (nI 0)))) := by
  refine ⟨hl.1, hl.2.1, fun q hq => ?_⟩
  obtain ⟨z, hz, e⟩ := List.mem_map.mp hq
  rw [← e]
  rcases List.mem_cons.mp hz with e2 | e2
  · rw [e2]
    exact hl.2.2 _ (xl_mem (ρ := ρ) h)
  · exact hl.2.2 _ (xl_mem (ρ := ρ) (List.mem_filter.mp e2).1)
theorem xmac_ok (l : Launch) (D : va_G) (cI cZ : ClassId) (ρ : Nat → Nat) : xe_MacOK xMT xmac xCLs xWS xNS l D cI cZ ρ := by
  intro k C pc L S C1 pc1 L1 S1 h A N p e s m args below meth c H locs ls Q B hP hD hS hl hN K
  unfold xmac at h
  cases q1 : (Nat.beq k 40 && Nat.beq pc 2) with
  | true =>
    rw [q1] at h
    simp only [cond_true] at h
    simp only [Bool.and_eq_true] at q1
    have e1 := Nat.eq_of_beq_eq_true q1.1
    have e2 := Nat.eq_of_beq_eq_true q1.2
    subst e1; subst e2
    split at h
    · obtain ⟨a, fs, i1, i2, i3, f1, f2, f3, m1, m0, hCa, a1, a2, a3, b1, b2, b3, n12, n13, n23, rfl, rfl, rfl, rfl⟩ := xe_z3_inv h
      exact xz_40 B hN m0 hCa a1 a2 a3 (xz_ne hCa b1) (xz_ne hCa b2) (xz_ne hCa b3) n12 n13 n23 (fun Cj g1 g2 g3 H1 locs1 ls1 hI p1 p2 p3 hP1 hD1 hS1 hl1 => K H1 locs1 ls1 (xz_out hI p1 p2 p3 hP1) (xw_D (by simp) hD) hS1 hl1 (by simp; exact hN)) 186 0 _ C f1 f2 f3 H locs ls rfl rfl ⟨rfl, b1, b2, b3, fun _ _ _ _ => rfl⟩ (fun i hi => absurd hi (Nat.not_lt_zero i)) (fun i hi => absurd hi (Nat.not_lt_zero i)) (fun i hi => absurd hi (Nat.not_lt_zero i)) hP hD hS (xz_eta m1 hl)
    · cases h
  | false =>
    rw [q1] at h
    simp only [cond_false] at h
    cases q2 : (Nat.beq k 75 && Nat.beq pc 3) with
    | true =>
      rw [q2] at h
      simp only [cond_true] at h
      simp only [Bool.and_eq_true] at q2
      have e1 := Nat.eq_of_beq_eq_true q2.1
      have e2 := Nat.eq_of_beq_eq_true q2.2
      subst e1; subst e2
      split at h
      · obtain ⟨a, fs, i1, i2, i3, f1, f2, f3, m1, m0, hCa, a1, a2, a3, b1, b2, b3, n12, n13, n23, rfl, rfl, rfl, rfl⟩ := xe_z3_inv h
        exact xz_75 B hN m0 hCa a1 a2 a3 (xz_ne hCa b1) (xz_ne hCa b2) (xz_ne hCa b3) n12 n13 n23 (fun Cj g1 g2 g3 H1 locs1 ls1 hI p1 p2 p3 hP1 hD1 hS1 hl1 => K H1 locs1 ls1 (xz_out hI p1 p2 p3 hP1) (xw_D (by simp) hD) hS1 hl1 (by simp; exact hN)) 186 0 _ C f1 f2 f3 H locs ls rfl rfl ⟨rfl, b1, b2, b3, fun _ _ _ _ => rfl⟩ (fun i hi => absurd hi (Nat.not_lt_zero i)) (fun i hi => absurd hi (Nat.not_lt_zero i)) (fun i hi => absurd hi (Nat.not_lt_zero i)) hP hD hS (xz_eta m1 hl)
      · cases h
    | false =>
      rw [q2] at h
      cases h
