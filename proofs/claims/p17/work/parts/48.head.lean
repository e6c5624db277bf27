theorem lw_goodI {y : MethodName} {b : ByteArray} {n : Nat} (h : Cond.code y b n none ∈ xWS) : GoodIn lw_tbl (y_ws y b n) := by
  intro x hx
  have h2 : x ∈ xWS := by
    rcases List.mem_cons.mp hx with e | e
    · rw [e]; exact h
    · exact e
  exact ⟨xWS_in x h2, good_of_word (xWS_good x h2)⟩
theorem lw_nestb : xe_all2 (fun (q : String × Nat × MethodName × String) n => decide (lw_tbl[n]? = some (.methodLinkNest q.1 q.2.1 q.2.2.1 q.2.2.2))) xNS [81, 358, 373, 403, 412, 430, 449, 516, 533, 540, 545, 546, 627, 660] = true := by decide +kernel
theorem lw_nest : ∀ q ∈ xNS, Cond.methodLinkNest q.1 q.2.1 q.2.2.1 q.2.2.2 ∈ lw_tbl := fun q hq => (xe_all2_mem lw_nestb q hq).elim fun _ h => List.mem_of_getElem? (of_decide_eq_true h)
def xe_eqv (a b : va_E) : Prop := a = b ∨ ∃ (t n : Nat) (f g : Nat → Int32), a = .inl (t, n, .inl f) ∧ b = .inl (t, n, .inl g) ∧ ∀ j, j < n → f j = g j
theorem xe_arr {cA : ClassId} {n : Nat} {f g : Nat → Int32} (h : ∀ j, j < n → f j = g j) : vp_cell cA (n, .inl f) = vp_cell cA (n, .inl g) := by
  rw [vp_cell_i, vp_cell_i]
  unfold arrV
  congr 2
  funext j
  show Value.int (f j.val) = Value.int (g j.val)
  rw [h j.val j.isLt]
theorem xw_eqv {D : va_G} {CL : List vw_C} {cI cZ : ClassId} {ρ : Nat → Nat} {C1 C2 : xC} {H : Heap} (h : va_P D CL (xw cI cZ ρ C1) H) (hh : ∀ (q : Nat) (b : va_E), C2[q]? = some b → ∃ a, C1[q]? = some a ∧ xe_eqv a b) : va_P D CL (xw cI cZ ρ C2) H := by
  intro k q hk
  have hl := (xw_at hk).1
  obtain ⟨a, h1, h2⟩ := hh k _ (List.getElem?_eq_getElem hl)
  have e2 := xw_get (cI := cI) (cZ := cZ) (ρ := ρ) (List.getElem?_eq_getElem hl)
  rw [e2] at hk
  cases hk
  have h3 := h k _ (xw_get h1)
  rcases h2 with h2 | ⟨t, n, f, g, ea, eb, hfg⟩
  · rw [← h2]
    exact h3
  · rw [ea] at h3
    rw [eb]
    have h4 : H[ρ k]? = some (vp_cell (xcy cI cZ t) (n, .inl f)) := h3
    show H[ρ k]? = some (vp_cell (xcy cI cZ t) (n, .inl g))
    rw [h4, xe_arr hfg]
theorem xz_lt {C : xC} {i : Nat} {e : va_E} (h : C[i]? = some e) : i < C.length := (List.getElem?_eq_some_iff.mp h).1
theorem xi_eq {x y : Int32} (h : x.toInt = y.toInt) : x = y := Int32.toInt_inj.mp h
theorem lw_R {a b : va_W} {n : Nat} (hn : a.length = n) : (List.range n).map (fun i => (a ++ b)[i]?) = a.map some := by
  subst hn
  apply List.ext_getElem?
  intro i
  by_cases h : i < a.length
  · simp [h, List.getElem?_append_left h]
  · simp [h]
theorem lw_C {a : va_W} {x : Nat × va_E} {n : Nat} (hn : a.length = n) : [n].map (fun i => (a ++ [x])[i]?) = [x].map some := by
  subst hn
  simp
theorem xw_len (cI cZ : ClassId) (ρ : Nat → Nat) (C : xC) : (xw cI cZ ρ C).length = C.length := by simp [xw]
theorem lw_Dc {A : Nat → Prop} {cI cZ : ClassId} {ρ σ : Nat → Nat} {C1 C2 D1 D2 : xC} (hC : C2.length = C1.length) (hE : D2.length = D1.length) (h : va_D A (xw cI cZ ρ C1 ++ xw cI cZ σ D1)) : va_D A (xw cI cZ ρ C2 ++ xw cI cZ σ D2) := by
  have key : ∀ (i : Nat) (p : Nat × va_E), (xw cI cZ ρ C2 ++ xw cI cZ σ D2)[i]? = some p → ∃ e, (xw cI cZ ρ C1 ++ xw cI cZ σ D1)[i]? = some (p.1, e) := by
    intro i p hp
    by_cases hi : i < C2.length
    · rw [List.getElem?_append_left (by rw [xw_len]; exact hi)] at hp
      obtain ⟨h1, h2⟩ := xw_at hp
      obtain ⟨e, he⟩ := xw_ex (cI := cI) (cZ := cZ) (ρ := ρ) (C := C1) (i := i) (by omega)
      exact ⟨e, by rw [List.getElem?_append_left (by rw [xw_len]; omega), he, h2]⟩
    · rw [List.getElem?_append_right (by rw [xw_len]; omega), xw_len] at hp
      obtain ⟨h1, h2⟩ := xw_at hp
      obtain ⟨e, he⟩ := xw_ex (cI := cI) (cZ := cZ) (ρ := σ) (C := D1) (i := i - C2.length) (by omega)
      refine ⟨e, ?_⟩
      rw [List.getElem?_append_right (by rw [xw_len]; omega), xw_len, ← hC, he, h2]
  refine ⟨fun i j p q hi hj e => ?_, fun k q hk => ?_⟩
  · obtain ⟨e1, h1⟩ := key i p hi
    obtain ⟨e2, h2⟩ := key j q hj
    exact h.1 i j _ _ h1 h2 e
  · obtain ⟨e1, h1⟩ := key k q hk
    exact h.2 k (q.1, e1) h1
theorem lw_left {D : va_G} {a b : va_W} {H : Heap} (h : va_P D xCLs (a ++ b) H) : va_P D xCLs a H := fun k q hk => h k q (by rw [List.getElem?_append_left (List.getElem?_eq_some_iff.mp hk).1]; exact hk)
theorem lw_right {D : va_G} {a b : va_W} {H : Heap} (h : va_P D xCLs (a ++ b) H) : va_P D xCLs b H := fun k q hk => h (a.length + k) q (by rw [List.getElem?_append_right (by omega), show a.length + k - a.length = k by omega]; exact hk)
theorem lw_six (j : Nat) (hj : j < 6) : upd (upd (upd (upd (upd (upd (fun _ => 0) 0 1) 1 1) 2 1) 3 1) 4 1) 5 1 j = 1 := by
  rcases (show j = 0 ∨ j = 1 ∨ j = 2 ∨ j = 3 ∨ j = 4 ∨ j = 5 by omega) with rfl | rfl | rfl | rfl | rfl | rfl <;> rfl
theorem lw_eqv {D : va_G} {cI cZ : ClassId} {ρ : Nat → Nat} {C : xC} {i : Nat} {f : Nat → Int32} {H : Heap} (hi : C[i]? = some (.inl (0, 6, .inl (fun _ => 1)))) (hf : ∀ j, j < 6 → f j = 1) (h : va_P D xCLs (xw cI cZ ρ (C.set i (.inl (0, 6, .inl f)))) H) : va_P D xCLs (xw cI cZ ρ C) H := by
  refine xw_eqv h (fun q b hb => ?_)
  by_cases e : i = q
  · subst e
    rw [hi] at hb
    cases hb
    exact ⟨_, List.getElem?_set_self (xz_lt hi), Or.inr ⟨0, 6, f, _, rfl, rfl, hf⟩⟩
  · exact ⟨b, by rw [List.getElem?_set_ne e]; exact hb, Or.inl rfl⟩
theorem lw_lx : Cx.length = Cx0.length := by unfold Cx0; rw [List.length_set]
theorem lw_lm : Cm.length = Cm0.length := by unfold Cm0; rw [List.length_set]
theorem lw_eqx {D : va_G} {cI cZ : ClassId} {ρ : Nat → Nat} {H : Heap} (h : va_P D xCLs (xw cI cZ ρ Cx0) H) : va_P D xCLs (xw cI cZ ρ Cx) H := by
  unfold Cx0 at h
  exact lw_eqv (C := Cx) (i := 8) rfl lw_six h
theorem lw_eqm {D : va_G} {cI cZ : ClassId} {ρ : Nat → Nat} {H : Heap} (h : va_P D xCLs (xw cI cZ ρ Cm0) H) : va_P D xCLs (xw cI cZ ρ Cm) H := by
  unfold Cm0 at h
  exact lw_eqv (C := Cm) (i := 3) rfl lw_six h
theorem xi_20 (x : Int32) : x = 0 ∨ x = 1 ∨ x = 2 ∨ x = 3 ∨ x = 4 ∨ x = 5 ∨ x = 6 ∨ x = 7 ∨ x = 8 ∨ x = 9 ∨ x = 10 ∨ x = 11 ∨ x = 12 ∨ x = 13 ∨ x = 14 ∨ x = 15 ∨ x = 16 ∨ x = 17 ∨ x = 18 ∨ x = 19 ∨ (x.toInt < 0 ∨ 19 < x.toInt) := by
  by_cases h : x.toInt < 0 ∨ 19 < x.toInt
  · exact Or.inr (Or.inr (Or.inr (Or.inr (Or.inr (Or.inr (Or.inr (Or.inr (Or.inr (Or.inr (Or.inr (Or.inr (Or.inr (Or.inr (Or.inr (Or.inr (Or.inr (Or.inr (Or.inr (Or.inr (h))))))))))))))))))))
  · rcases (show x.toInt = 0 ∨ x.toInt = 1 ∨ x.toInt = 2 ∨ x.toInt = 3 ∨ x.toInt = 4 ∨ x.toInt = 5 ∨ x.toInt = 6 ∨ x.toInt = 7 ∨ x.toInt = 8 ∨ x.toInt = 9 ∨ x.toInt = 10 ∨ x.toInt = 11 ∨ x.toInt = 12 ∨ x.toInt = 13 ∨ x.toInt = 14 ∨ x.toInt = 15 ∨ x.toInt = 16 ∨ x.toInt = 17 ∨ x.toInt = 18 ∨ x.toInt = 19 by omega) with e | e | e | e | e | e | e | e | e | e | e | e | e | e | e | e | e | e | e | e
    · exact Or.inl (xi_eq e)
    · exact Or.inr (Or.inl (xi_eq e))
    · exact Or.inr (Or.inr (Or.inl (xi_eq e)))
    · exact Or.inr (Or.inr (Or.inr (Or.inl (xi_eq e))))
    · exact Or.inr (Or.inr (Or.inr (Or.inr (Or.inl (xi_eq e)))))
    · exact Or.inr (Or.inr (Or.inr (Or.inr (Or.inr (Or.inl (xi_eq e))))))
    · exact Or.inr (Or.inr (Or.inr (Or.inr (Or.inr (Or.inr (Or.inl (xi_eq e)))))))
    · exact Or.inr (Or.inr (Or.inr (Or.inr (Or.inr (Or.inr (Or.inr (Or.inl (xi_eq e))))))))
    · exact Or.inr (Or.inr (Or.inr (Or.inr (Or.inr (Or.inr (Or.inr (Or.inr (Or.inl (xi_eq e)))))))))
    · exact Or.inr (Or.inr (Or.inr (Or.inr (Or.inr (Or.inr (Or.inr (Or.inr (Or.inr (Or.inl (xi_eq e))))))))))
    · exact Or.inr (Or.inr (Or.inr (Or.inr (Or.inr (Or.inr (Or.inr (Or.inr (Or.inr (Or.inr (Or.inl (xi_eq e)))))))))))
    · exact Or.inr (Or.inr (Or.inr (Or.inr (Or.inr (Or.inr (Or.inr (Or.inr (Or.inr (Or.inr (Or.inr (Or.inl (xi_eq e))))))))))))
    · exact Or.inr (Or.inr (Or.inr (Or.inr (Or.inr (Or.inr (Or.inr (Or.inr (Or.inr (Or.inr (Or.inr (Or.inr (Or.inl (xi_eq e)))))))))))))
    · exact Or.inr (Or.inr (Or.inr (Or.inr (Or.inr (Or.inr (Or.inr (Or.inr (Or.inr (Or.inr (Or.inr (Or.inr (Or.inr (Or.inl (xi_eq e))))))))))))))
    · exact Or.inr (Or.inr (Or.inr (Or.inr (Or.inr (Or.inr (Or.inr (Or.inr (Or.inr (Or.inr (Or.inr (Or.inr (Or.inr (Or.inr (Or.inl (xi_eq e)))))))))))))))
    · exact Or.inr (Or.inr (Or.inr (Or.inr (Or.inr (Or.inr (Or.inr (Or.inr (Or.inr (Or.inr (Or.inr (Or.inr (Or.inr (Or.inr (Or.inr (Or.inl (xi_eq e))))))))))))))))
    · exact Or.inr (Or.inr (Or.inr (Or.inr (Or.inr (Or.inr (Or.inr (Or.inr (Or.inr (Or.inr (Or.inr (Or.inr (Or.inr (Or.inr (Or.inr (Or.inr (Or.inl (xi_eq e)))))))))))))))))
    · exact Or.inr (Or.inr (Or.inr (Or.inr (Or.inr (Or.inr (Or.inr (Or.inr (Or.inr (Or.inr (Or.inr (Or.inr (Or.inr (Or.inr (Or.inr (Or.inr (Or.inr (Or.inl (xi_eq e))))))))))))))))))
    · exact Or.inr (Or.inr (Or.inr (Or.inr (Or.inr (Or.inr (Or.inr (Or.inr (Or.inr (Or.inr (Or.inr (Or.inr (Or.inr (Or.inr (Or.inr (Or.inr (Or.inr (Or.inr (Or.inl (xi_eq e)))))))))))))))))))
    · exact Or.inr (Or.inr (Or.inr (Or.inr (Or.inr (Or.inr (Or.inr (Or.inr (Or.inr (Or.inr (Or.inr (Or.inr (Or.inr (Or.inr (Or.inr (Or.inr (Or.inr (Or.inr (Or.inr (Or.inl (xi_eq e))))))))))))))))))))
theorem lw_cmp {L i : Nat} (hL : L ≤ 4096) (hi : i ≤ 8192) : nI L - 8 < nI i ↔ L < i + 8 := by
  have h1 : (nI L - 8).toInt = (L : Int) - 8 := pk_sub_toInt (a := L) (b := 8) (by omega) (by omega)
  rw [Int32.lt_iff_toInt_lt, h1, nI_toInt (by omega)]
  omega
set_option maxHeartbeats 2000000 in
set_option maxRecDepth 100000 in
theorem lw_head {p : Program} {e : Env} {s : State} {m : MethodId} {below : List Frame} {meth : Method} {c : Code} {l : Launch} {b L : Nat} {xs : Nat → Int32} {D : va_G} {cI cZ : ClassId} {ρx ρm : Nat → Nat} (hL : L ≤ 4096) (C0 : lw_At p s m meth c b L xs) (hns : xe_ns xNS s) (hK : va_K D xCLs (xe_ty cI cZ) s) (hDD : ∀ σ τ : aσ, va_D (fun q : Nat => s.heap.size ≤ q) (xw cI cZ ρx (cH σ aHX) ++ xw cI cZ ρm (cH τ aHM))) : ∀ (n i : Nat) (σx σm : aσ) (H : Heap) (locs : List Loc) (ls : Array Slot), L ≤ i + n → i ≤ 8000 → InvV aGX_6 σx → InvV aGM_4 σm → σx 10 = σm 28 → va_P D xCLs (xw cI cZ ρx (cH σx aHX)) H → va_P D xCLs (xw cI cZ ρm (cH σm aHM)) H → va_S (fun q : Nat => s.heap.size ≤ q) s.heap H locs → lv_has ls 4 [(3, .int (nI i)), (2, .ref (ρm 0)), (1, .ref (ρx 0)), (0, .ref b)] → W p l e room_1 s m #[Value.ref b] below meth c H locs 80 5836 (lw_Z below #[Value.ref b] s) (F0 m 18 ls []) := by
  obtain ⟨hx, hb, hr, hml, hown, hts, hX, hbl, hlocks, hgv⟩ := id C0
  have hA : ∀ q : Nat, s.heap.size ≤ q → (fun q : Nat => s.heap.size ≤ q) q := fun _ h => h
  have hbA : ¬ (fun q : Nat => s.heap.size ≤ q) b := Nat.not_le.mpr hbl
  have fin : ∀ (H1 : Heap) (locs1 : List Loc) (ls1 : Array Slot), va_S (fun q : Nat => s.heap.size ≤ q) s.heap H1 locs1 → W p l e room_1 s m #[Value.ref b] below meth c H1 locs1 80 5836 (lw_Z below #[Value.ref b] s) (F0 m 740 ls1 []) := by
    intro H1 locs1 ls1 hS
    refine lv_iconst (v := 1) hx hb dL_law_740 rfl ?_
    refine va_forget (fun q hq => hS.2.2 q hq) ?_
    exact lw_ret hx hb hr hlocks dL_law_741
  intro n
  induction n with
  | zero =>
    intro i σx σm H locs ls hn h8 hIx hIm hT hPx hPm hS hl
    refine lv_iload_n hx hb dL_law_18 rfl (lv_at hl 0 rfl) ?_
    refine lv_aload_n hx hb dL_law_19 rfl (lv_at hl 3 rfl) ?_
    refine va_slen hx hb hX hbl hbA hS dL_law_20 ?_
    refine lv_bipush (v := 8) hx hb dL_law_21 rfl ?_
    refine lv_isub hx hb dL_law_23 ?_
    refine lv_icmp_gt (tgt := 740) hx hb dL_law_24 rfl (fun _ => fin _ _ _ hS) (fun hq => ?_)
    exact absurd ((lw_cmp hL (by omega)).mpr (show L < i + 8 by omega)) hq
  | succ n ih =>
    intro i σx σm H locs ls hn h8 hIx hIm hT hPx hPm hS hl
    refine lv_iload_n hx hb dL_law_18 rfl (lv_at hl 0 rfl) ?_
    refine lv_aload_n hx hb dL_law_19 rfl (lv_at hl 3 rfl) ?_
    refine va_slen hx hb hX hbl hbA hS dL_law_20 ?_
    refine lv_bipush (v := 8) hx hb dL_law_21 rfl ?_
    refine lv_isub hx hb dL_law_23 ?_
    refine lv_icmp_gt (tgt := 740) hx hb dL_law_24 rfl (fun _ => fin _ _ _ hS) (fun hq => ?_)
    have hi : i + 8 ≤ L := Nat.le_of_not_lt fun h => hq ((lw_cmp hL (by omega)).mpr h)
    have K : ∀ (σx σm : aσ) (H1 : Heap) (locs1 : List Loc), InvV aGX_6 σx → InvV aGM_4 σm → σx 10 = σm 28 → va_P D xCLs (xw cI cZ ρx (cH σx aHX)) H1 → va_P D xCLs (xw cI cZ ρm (cH σm aHM)) H1 → va_S (fun q : Nat => s.heap.size ≤ q) s.heap H1 locs1 → W p l e room_1 s m #[Value.ref b] below meth c H1 locs1 80 5836 (lw_Z below #[Value.ref b] s) (F0 m 734 ls []) := by
      intro σx σm H1 locs1 g1 g2 g3 g4 g5 g6
      refine lv_iinc (v := nI (i + 8)) (lv' := [(3, .int (nI (i + 8))), (2, .ref (ρm 0)), (1, .ref (ρx 0)), (0, .ref b)]) hx hb dL_law_734 hl (k := 0) rfl (lw_i8 i) (by decide) rfl (fun ls hl => ?_)
      refine lv_goto (tgt := 18) hx hb dL_law_737 rfl ?_
      exact ih (i + 8) σx σm H1 locs1 ls (by omega) (by omega) g1 g2 g3 g4 g5 g6 hl
    refine lv_aload_n hx hb dL_law_27 rfl (lv_at hl 3 rfl) ?_
    refine lv_iload_n hx hb dL_law_28 rfl (lv_at hl 0 rfl) ?_
    refine va_sld hx hb hX hbl hbA hS (nI_in (show i < L by omega) (by omega)) dL_law_29 ?_
    refine lv_bipush (v := 31) hx hb dL_law_30 rfl ?_
    refine lv_iand hx hb dL_law_32 ?_
    refine lv_topi (fun t _ => ?_)
    rcases xi_20 t with rfl | rfl | rfl | rfl | rfl | rfl | rfl | rfl | rfl | rfl | rfl | rfl | rfl | rfl | rfl | rfl | rfl | rfl | rfl | rfl | ho
    · refine lv_tableIn (off := 95) (tgt := 128) hx hb dL_law_33 (by decide) (by decide) rfl rfl ?_
      exact lw_case_0 hx hb hml hown hts hns hK hX hbl hL hi hIx hIm hT hPx hPm hDD hS hl K
    · refine lv_tableIn (off := 170) (tgt := 203) hx hb dL_law_33 (by decide) (by decide) rfl rfl ?_
      exact lw_case_1 hx hb hml hown hts hns hK hX hbl hL hi hIx hIm hT hPx hPm hDD hS hl K
    · refine lv_tableIn (off := 257) (tgt := 290) hx hb dL_law_33 (by decide) (by decide) rfl rfl ?_
      exact lw_case_2 hx hb hml hown hts hns hK hX hbl hL hi hIx hIm hT hPx hPm hDD hS hl K
    · refine lv_tableIn (off := 280) (tgt := 313) hx hb dL_law_33 (by decide) (by decide) rfl rfl ?_
      exact lw_case_3 hx hb hml hown hts hns hK hX hbl hL hi hIx hIm hT hPx hPm hDD hS hl K
    · refine lv_tableIn (off := 303) (tgt := 336) hx hb dL_law_33 (by decide) (by decide) rfl rfl ?_
      exact lw_case_4 hx hb hml hown hts hns hK hX hbl hL hi hIx hIm hT hPx hPm hDD hS hl K
    · refine lv_tableIn (off := 316) (tgt := 349) hx hb dL_law_33 (by decide) (by decide) rfl rfl ?_
      exact lw_case_5 hx hb hml hown hts hns hK hX hbl hL hi hIx hIm hT hPx hPm hDD hS hl K
    · refine lv_tableIn (off := 329) (tgt := 362) hx hb dL_law_33 (by decide) (by decide) rfl rfl ?_
      exact lw_case_6 hx hb hml hown hts hns hK hX hbl hL hi hIx hIm hT hPx hPm hDD hS hl K
    · refine lv_tableIn (off := 352) (tgt := 385) hx hb dL_law_33 (by decide) (by decide) rfl rfl ?_
      exact lw_case_7 hx hb hml hown hts hns hK hX hbl hL hi hIx hIm hT hPx hPm hDD hS hl K
    · refine lv_tableIn (off := 375) (tgt := 408) hx hb dL_law_33 (by decide) (by decide) rfl rfl ?_
      exact lw_case_8 hx hb hml hown hts hns hK hX hbl hL hi hIx hIm hT hPx hPm hDD hS hl K
    · refine lv_tableIn (off := 408) (tgt := 441) hx hb dL_law_33 (by decide) (by decide) rfl rfl ?_
      exact lw_case_9 hx hb hml hown hts hns hK hX hbl hL hi hIx hIm hT hPx hPm hDD hS hl K
    · refine lv_tableIn (off := 421) (tgt := 454) hx hb dL_law_33 (by decide) (by decide) rfl rfl ?_
      exact lw_case_10 hx hb hml hown hts hns hK hX hbl hL hi hIx hIm hT hPx hPm hDD hS hl K
    · refine lv_tableIn (off := 454) (tgt := 487) hx hb dL_law_33 (by decide) (by decide) rfl rfl ?_
      exact lw_case_11 hx hb hml hown hts hns hK hX hbl hL hi hIx hIm hT hPx hPm hDD hS hl K
    · refine lv_tableIn (off := 497) (tgt := 530) hx hb dL_law_33 (by decide) (by decide) rfl rfl ?_
      exact lw_case_12 hx hb hml hown hts hns hK hX hbl hL hi hIx hIm hT hPx hPm hDD hS hl K
    · refine lv_tableIn (off := 540) (tgt := 573) hx hb dL_law_33 (by decide) (by decide) rfl rfl ?_
      exact lw_case_13 hx hb hml hown hts hns hK hX hbl hL hi hIx hIm hT hPx hPm hDD hS hl K
    · refine lv_tableIn (off := 563) (tgt := 596) hx hb dL_law_33 (by decide) (by decide) rfl rfl ?_
      exact lw_case_14 hx hb hml hown hts hns hK hX hbl hL hi hIx hIm hT hPx hPm hDD hS hl K
    · refine lv_tableIn (off := 586) (tgt := 619) hx hb dL_law_33 (by decide) (by decide) rfl rfl ?_
      exact lw_case_15 hx hb hml hown hts hns hK hX hbl hL hi hIx hIm hT hPx hPm hDD hS hl K
    · refine lv_tableIn (off := 619) (tgt := 652) hx hb dL_law_33 (by decide) (by decide) rfl rfl ?_
      exact lw_case_16 hx hb hml hown hts hns hK hX hbl hL hi hIx hIm hT hPx hPm hDD hS hl K
    · refine lv_tableIn (off := 632) (tgt := 665) hx hb dL_law_33 (by decide) (by decide) rfl rfl ?_
      exact lw_case_17 hx hb hml hown hts hns hK hX hbl hL hi hIx hIm hT hPx hPm hDD hS hl K
    · refine lv_tableIn (off := 665) (tgt := 698) hx hb dL_law_33 (by decide) (by decide) rfl rfl ?_
      exact lw_case_18 hx hb hml hown hts hns hK hX hbl hL hi hIx hIm hT hPx hPm hDD hS hl K
    · refine lv_tableIn (off := 678) (tgt := 711) hx hb dL_law_33 (by decide) (by decide) rfl rfl ?_
      exact lw_case_19 hx hb hml hown hts hns hK hX hbl hL hi hIx hIm hT hPx hPm hDD hS hl K
    · exact lv_tableOut (tgt := 734) hx hb dL_law_33 ho rfl (K σx σm H locs hIx hIm hT hPx hPm hS)
