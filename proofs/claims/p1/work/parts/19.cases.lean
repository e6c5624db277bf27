/-! THE LAW'S CALLS -/
theorem xWS_in : ∀ u ∈ xWS, u ∈ lw_tbl := fun _ h => (List.mem_filter.mp h).1
theorem lw_good {X : xM} {ps : List Cond} (hp : ∀ u ∈ ps, u ∈ xWS) (h : Cond.code (xm_y X) (xm_c X) (xm_n X) (xm_r X) ∈ xWS) : GoodIn lw_tbl (ps ++ xe_ws xWS X) := by
  intro u hu
  have h2 : u ∈ xWS := by
    rcases List.mem_append.mp hu with e | e
    · exact hp u e
    · rcases List.mem_cons.mp e with e | e
      · rw [e]; exact h
      · exact e
  exact ⟨xWS_in u h2, good_of_word (xWS_good u h2)⟩
theorem lw_tov {p : Program} {l : Launch} {e : Env} {R : Room} {s : State} {m : MethodId} {args : Array Value} {below : List Frame} {meth : Method} {c : Code} {H : Heap} {locs : List Loc} {cells slots : Nat} {Q : State → Prop} {pc : Nat} {ls : Array Slot} {rest : List Value} {x y : Int32} (h : x = y) (k : W p l e R s m args below meth c H locs cells slots Q (F0 m pc ls (.int y :: rest))) : W p l e R s m args below meth c H locs cells slots Q (F0 m pc ls (.int x :: rest)) := by
  rw [h]
  exact k
theorem lw_keep {D : va_G} {A : Nat → Prop} {wx wm : va_W} (hD : va_D A (wx ++ wm)) {H H1 : Heap} (hPm : va_P D xCLs wm H) (hk : ∀ q : Nat, q < H.size → ¬ va_A wx H.size q → H1[q]? = H[q]?) : va_P D xCLs wm H1 := by
  refine hPm.kept (fun k x hx => hk x.1 ((hPm k x hx).lt) (fun z => ?_))
  rcases z with ⟨i, e, hi⟩ | z
  · have hl : i < wx.length := (List.getElem?_eq_some_iff.mp hi).1
    have h1 : (wx ++ wm)[i]? = some (x.1, e) := by rw [List.getElem?_append_left hl]; exact hi
    have h2 : (wx ++ wm)[wx.length + k]? = some x := by rw [List.getElem?_append_right (by omega), show wx.length + k - wx.length = k by omega]; exact hx
    have := hD.1 i (wx.length + k) _ _ h1 h2 rfl
    omega
  · exact absurd ((hPm k x hx).lt) (by omega)
set_option maxHeartbeats 4000000 in
/-- a call of the law's: what the executor answers comes back, nothing but the callee's cells changes -/
theorem lw_call {p : Program} {l : Launch} {e : Env} {s : State} {m : MethodId} {below : List Frame} {meth : Method} {c : Code} {D : va_G} {cI cZ : ClassId} {b : Nat} {Q : State → Prop} {H : Heap} {locs : List Loc} {A : Nat → Prop} {ls : Array Slot} {rest : List Value} {pc : Nat} (hx : p.tables.exec = Jvm.exec) (hb : c.code = code) (hml : c.maxLocals = 4) (hown : s.vm.findClass R_law = some m.cls) (hts : ∀ u ∈ lw_tbl, u.before #[Value.ref b] s = true) (hns : xe_ns xNS s) (hK : va_K D xCLs (xe_ty cI cZ) s) (hA : ∀ q : Nat, s.heap.size ≤ q → A q) (hls : ls.size = 4)
    (k : Nat) {C : xC} {ρ : Nat → Nat} {vs : List Value} {v : Int32} {idx na ci n1 n2 n3 : Nat} {fs : List Value} (hrun : ∃ (n : Nat) (C' : xC), xe xMT xmac n k C 0 (lv_args 0 (.ref 0 :: vs)) [] = some (some (.int v), C')) (hc : xe_c1 (.ref 0 :: vs) = true) (hn : (Value.ref 0 :: vs).length ≤ xm_n (xMT k)) (hv : vs.map (xv ρ) = vs) (hna : vs.length = na) (hC0 : C[0]? = some (.inr (ci, fs)))
    (w1 : xe_wd n1 (.methodLink R_law idx (xm_y (xMT k))) = true) (w2 : xe_wd n2 (.instanceMethod (xm_y (xMT k))) = true) (w3 : xe_wd n3 (.selects (xm_y (xMT k)).cls (xm_y (xMT k)) (xm_y (xMT k))) = true) {Tc : u_T} {Nc : Nat} (hci : xCLs[ci]? = some ((xm_y (xMT k)).cls, Tc, Nc)) (hd2 : (xm_y (xMT k)).cls = (xm_y (xMT k)).cls ∧ (xm_y (xMT k)).cls ≠ "java/lang/invoke/MethodHandle" ∧ (xm_y (xMT k)).cls ≠ "java/lang/invoke/VarHandle" ∧ (parseMethodDescriptor (xm_y (xMT k)).desc).map (fun d => d.parameters.length) = some na) (hR : xm_f (xMT k) + 1 ≤ 10 ∧ 8 + (xm_n (xMT k) + 11) + xm_l (xMT k) ≤ 382)
    (hsum : (rest.map fun v => v.category).sum ≤ 8) (hd : decode code pc = .ok (.invokevirtual idx, 3)) (hP : va_P D xCLs (xw cI cZ ρ C) H) (hD : va_D A (xw cI cZ ρ C)) (hS : va_S A s.heap H locs)
    (K : ∀ (H1 : Heap) (locs1 : List Loc), (∀ q : Nat, q < H.size → ¬ va_A (xw cI cZ ρ C) H.size q → H1[q]? = H[q]?) → va_S A s.heap H1 locs1 → W p l e room_1 s m #[Value.ref b] below meth c H1 locs1 80 5836 Q (F0 m (pc + 3) ls (.int v :: rest))) :
    W p l e room_1 s m #[Value.ref b] below meth c H locs 80 5836 Q (F0 m pc ls (vs.reverse ++ .ref (ρ 0) :: rest)) := by
  obtain ⟨n, C', hrun⟩ := hrun
  have hV := xk_all k
  have hcw : CallW room_1 s #[Value.ref b] R_law (xm_y (xMT k)).cls idx (xm_y (xMT k)) (xm_c (xMT k)) (xm_n (xMT k)) (xm_r (xMT k)) (xe_ws xWS (xMT k)) (xe_rm (xMT k)) 0 0 na := cwV na hts (lw_good (ps := [.methodLink R_law idx (xm_y (xMT k)), .instanceMethod (xm_y (xMT k)), .selects (xm_y (xMT k)).cls (xm_y (xMT k)) (xm_y (xMT k)), .initialized (xm_y (xMT k)).cls]) (by
    intro u hu
    simp only [List.mem_cons, List.not_mem_nil, or_false] at hu
    rcases hu with rfl | rfl | rfl | rfl
    · exact xe_wd_mem w1
    · exact xe_wd_mem w2
    · exact xe_wd_mem w3
    · exact hV.2.2.2.2.1) hV.2.2.2.1) rfl rfl rfl hd2 hR
  have hrv := va_recv hK hP (ci := ci) (q0 := 0) hci (xw_get hC0)
  have hFr := xe_free hD hS hA
  have hM := xe_met xk_all xq_all xWS_good l D cI cZ ρ (xmac_ok l D cI cZ ρ) hrun hc hn H.size
  have hpre := xe_pre (av := .ref (ρ 0) :: vs) (ns := xNS) hP hK hD hns
  have hav : (Value.ref 0 :: vs).map (xv ρ) = .ref (ρ 0) :: vs := by
    show xv ρ (.ref 0) :: vs.map (xv ρ) = _
    rw [hv]
    rfl
  rw [hav] at hM
  refine va_calli (S := Unit) (post := fun (u : Int32) _ => u = v) (B := fun _ t => va_P D xCLs (xw cI cZ ρ C') t.heap ∧ C'.length = C.length) (va_runV (As := vs) (rest := rest) ⟨hx, hb, hml, hown, hts⟩ hM hcw ⟨xe_blind _ _ _ _ _ _ _ _ _, hrv, hpre⟩ rfl hna hls rfl (lv_room hsum) hd ⟨Nat.le_refl 80, Nat.le_refl 5836⟩) hS (fun q _ z => hFr q z) hFr (fun x u t H1 locs1 ht hvm hw hB hz1 hk1 hS1 => ?_)
  subst hw
  exact K H1 locs1 hk1 hS1
set_option maxHeartbeats 4000000 in
set_option maxRecDepth 100000 in
theorem lw_case_0 {p : Program} {l : Launch} {e : Env} {s : State} {m : MethodId} {below : List Frame} {meth : Method} {c : Code} {D : va_G} {cI cZ : ClassId} {b : Nat} {xs : Nat → Int32} {Q : State → Prop} {ρx ρm : Nat → Nat} {H : Heap} {locs : List Loc} {ls : Array Slot} (hx : p.tables.exec = Jvm.exec) (hb : c.code = code) (hml : c.maxLocals = 4) (hown : s.vm.findClass R_law = some m.cls) (hts : ∀ u ∈ lw_tbl, u.before #[Value.ref b] s = true) (hns : xe_ns xNS s) (hK : va_K D xCLs (xe_ty cI cZ) s) (hX : va_X b 8 xs s s.heap) (hbl : b < s.heap.size) (hPx : va_P D xCLs (xw cI cZ ρx Cx) H) (hPm : va_P D xCLs (xw cI cZ ρm Cm) H) (hDx : va_D (fun q : Nat => s.heap.size ≤ q) (xw cI cZ ρx Cx)) (hDm : va_D (fun q : Nat => s.heap.size ≤ q) (xw cI cZ ρm Cm)) (hDD : va_D (fun q : Nat => s.heap.size ≤ q) (xw cI cZ ρx Cx ++ xw cI cZ ρm Cm)) (hS : va_S (fun q : Nat => s.heap.size ≤ q) s.heap H locs) (hl : lv_has ls 4 [(3, .int 0), (2, .ref (ρm 0)), (1, .ref (ρx 0)), (0, .ref b)])
    (K : ∀ (H1 : Heap) (locs1 : List Loc), va_S (fun q : Nat => s.heap.size ≤ q) s.heap H1 locs1 → W p l e room_1 s m #[Value.ref b] below meth c H1 locs1 80 5836 Q (F0 m 734 ls [])) : W p l e room_1 s m #[Value.ref b] below meth c H locs 80 5836 Q (F0 m 128 ls []) := by
  have hA : ∀ q : Nat, s.heap.size ≤ q → (fun q : Nat => s.heap.size ≤ q) q := fun _ h => h
  have hbA : ¬ (fun q : Nat => s.heap.size ≤ q) b := Nat.not_le.mpr hbl
  obtain ⟨v, rx, rm⟩ := sm_0 (xs (Int32.toNatClampNeg 1)) (xs (Int32.toNatClampNeg 2)) (xs (Int32.toNatClampNeg 3)) (xs (Int32.toNatClampNeg 4)) (xs (Int32.toNatClampNeg 5)) (xs (Int32.toNatClampNeg 6))
  refine lv_aload_n hx hb dL_law_128 rfl (lv_at hl 2 rfl) ?_
  refine lv_aload_n hx hb dL_law_129 rfl (lv_at hl 3 rfl) ?_
  refine lv_iload_n hx hb dL_law_130 rfl (lv_at hl 0 rfl) ?_
  refine lv_iconst (v := 1) hx hb dL_law_131 rfl ?_
  refine lv_iadd hx hb dL_law_132 ?_
  refine lw_tov (y := 1) (by decide) ?_
  refine va_sld hx hb hX hbl hbA hS (by unfold vp_in; decide) dL_law_133 ?_
  refine lv_aload_n hx hb dL_law_134 rfl (lv_at hl 3 rfl) ?_
  refine lv_iload_n hx hb dL_law_135 rfl (lv_at hl 0 rfl) ?_
  refine lv_iconst (v := 2) hx hb dL_law_136 rfl ?_
  refine lv_iadd hx hb dL_law_137 ?_
  refine lw_tov (y := 2) (by decide) ?_
  refine va_sld hx hb hX hbl hbA hS (by unfold vp_in; decide) dL_law_138 ?_
  refine lv_aload_n hx hb dL_law_139 rfl (lv_at hl 3 rfl) ?_
  refine lv_iload_n hx hb dL_law_140 rfl (lv_at hl 0 rfl) ?_
  refine lv_iconst (v := 3) hx hb dL_law_141 rfl ?_
  refine lv_iadd hx hb dL_law_142 ?_
  refine lw_tov (y := 3) (by decide) ?_
  refine va_sld hx hb hX hbl hbA hS (by unfold vp_in; decide) dL_law_143 ?_
  refine lv_aload_n hx hb dL_law_144 rfl (lv_at hl 3 rfl) ?_
  refine lv_iload_n hx hb dL_law_145 rfl (lv_at hl 0 rfl) ?_
  refine lv_iconst (v := 4) hx hb dL_law_146 rfl ?_
  refine lv_iadd hx hb dL_law_147 ?_
  refine lw_tov (y := 4) (by decide) ?_
  refine va_sld hx hb hX hbl hbA hS (by unfold vp_in; decide) dL_law_148 ?_
  refine lv_aload_n hx hb dL_law_149 rfl (lv_at hl 3 rfl) ?_
  refine lv_iload_n hx hb dL_law_150 rfl (lv_at hl 0 rfl) ?_
  refine lv_iconst (v := 5) hx hb dL_law_151 rfl ?_
  refine lv_iadd hx hb dL_law_152 ?_
  refine lw_tov (y := 5) (by decide) ?_
  refine va_sld hx hb hX hbl hbA hS (by unfold vp_in; decide) dL_law_153 ?_
  refine lv_aload_n hx hb dL_law_154 rfl (lv_at hl 3 rfl) ?_
  refine lv_iload_n hx hb dL_law_155 rfl (lv_at hl 0 rfl) ?_
  refine lv_bipush (v := 6) hx hb dL_law_156 rfl ?_
  refine lv_iadd hx hb dL_law_158 ?_
  refine lw_tov (y := 6) (by decide) ?_
  refine va_sld hx hb hX hbl hbA hS (by unfold vp_in; decide) dL_law_159 ?_
  refine lw_call (rest := []) (vs := [.int (xs (Int32.toNatClampNeg 1)), .int (xs (Int32.toNatClampNeg 2)), .int (xs (Int32.toNatClampNeg 3)), .int (xs (Int32.toNatClampNeg 4)), .int (xs (Int32.toNatClampNeg 5)), .int (xs (Int32.toNatClampNeg 6))]) (n1 := 338) (n2 := 339) (n3 := 340) (na := 6) (ci := 4) hx hb hml hown hts hns hK hA hl.1 0 (C := Cx) (ρ := ρx) rx rfl (Nat.le_of_ble_eq_true rfl) rfl rfl rfl (by decide +kernel) (by decide +kernel) (by decide +kernel) rfl (by decide +kernel) ⟨Nat.le_of_ble_eq_true rfl, Nat.le_of_ble_eq_true rfl⟩ (Nat.le_of_ble_eq_true rfl) dL_law_160 hPx hDx hS (fun H1 locs1 hk1 hS => ?_)
  have hPm := lw_keep hDD hPm hk1
  refine lv_aload_n hx hb dL_law_163 rfl (lv_at hl 1 rfl) ?_
  refine lv_aload_n hx hb dL_law_164 rfl (lv_at hl 3 rfl) ?_
  refine lv_iload_n hx hb dL_law_165 rfl (lv_at hl 0 rfl) ?_
  refine lv_iconst (v := 1) hx hb dL_law_166 rfl ?_
  refine lv_iadd hx hb dL_law_167 ?_
  refine lw_tov (y := 1) (by decide) ?_
  refine va_sld hx hb hX hbl hbA hS (by unfold vp_in; decide) dL_law_168 ?_
  refine lv_aload_n hx hb dL_law_169 rfl (lv_at hl 3 rfl) ?_
  refine lv_iload_n hx hb dL_law_170 rfl (lv_at hl 0 rfl) ?_
  refine lv_iconst (v := 2) hx hb dL_law_171 rfl ?_
  refine lv_iadd hx hb dL_law_172 ?_
  refine lw_tov (y := 2) (by decide) ?_
  refine va_sld hx hb hX hbl hbA hS (by unfold vp_in; decide) dL_law_173 ?_
  refine lv_aload_n hx hb dL_law_174 rfl (lv_at hl 3 rfl) ?_
  refine lv_iload_n hx hb dL_law_175 rfl (lv_at hl 0 rfl) ?_
  refine lv_iconst (v := 3) hx hb dL_law_176 rfl ?_
  refine lv_iadd hx hb dL_law_177 ?_
  refine lw_tov (y := 3) (by decide) ?_
  refine va_sld hx hb hX hbl hbA hS (by unfold vp_in; decide) dL_law_178 ?_
  refine lv_aload_n hx hb dL_law_179 rfl (lv_at hl 3 rfl) ?_
  refine lv_iload_n hx hb dL_law_180 rfl (lv_at hl 0 rfl) ?_
  refine lv_iconst (v := 4) hx hb dL_law_181 rfl ?_
  refine lv_iadd hx hb dL_law_182 ?_
  refine lw_tov (y := 4) (by decide) ?_
  refine va_sld hx hb hX hbl hbA hS (by unfold vp_in; decide) dL_law_183 ?_
  refine lv_aload_n hx hb dL_law_184 rfl (lv_at hl 3 rfl) ?_
  refine lv_iload_n hx hb dL_law_185 rfl (lv_at hl 0 rfl) ?_
  refine lv_iconst (v := 5) hx hb dL_law_186 rfl ?_
  refine lv_iadd hx hb dL_law_187 ?_
  refine lw_tov (y := 5) (by decide) ?_
  refine va_sld hx hb hX hbl hbA hS (by unfold vp_in; decide) dL_law_188 ?_
  refine lv_aload_n hx hb dL_law_189 rfl (lv_at hl 3 rfl) ?_
  refine lv_iload_n hx hb dL_law_190 rfl (lv_at hl 0 rfl) ?_
  refine lv_bipush (v := 6) hx hb dL_law_191 rfl ?_
  refine lv_iadd hx hb dL_law_193 ?_
  refine lw_tov (y := 6) (by decide) ?_
  refine va_sld hx hb hX hbl hbA hS (by unfold vp_in; decide) dL_law_194 ?_
  refine lw_call (rest := [.int v]) (vs := [.int (xs (Int32.toNatClampNeg 1)), .int (xs (Int32.toNatClampNeg 2)), .int (xs (Int32.toNatClampNeg 3)), .int (xs (Int32.toNatClampNeg 4)), .int (xs (Int32.toNatClampNeg 5)), .int (xs (Int32.toNatClampNeg 6))]) (n1 := 885) (n2 := 886) (n3 := 887) (na := 6) (ci := 5) hx hb hml hown hts hns hK hA hl.1 61 (C := Cm) (ρ := ρm) rm rfl (Nat.le_of_ble_eq_true rfl) rfl rfl rfl (by decide +kernel) (by decide +kernel) (by decide +kernel) rfl (by decide +kernel) ⟨Nat.le_of_ble_eq_true rfl, Nat.le_of_ble_eq_true rfl⟩ (Nat.le_of_ble_eq_true rfl) dL_law_195 hPm hDm hS (fun H1 locs1 hk1 hS => ?_)
  exact lv_icmp_eq (tgt := 734) hx hb dL_law_198 rfl (fun _ => K _ _ hS) (fun hq => absurd rfl hq)
set_option maxHeartbeats 4000000 in
set_option maxRecDepth 100000 in
theorem lw_case_1 {p : Program} {l : Launch} {e : Env} {s : State} {m : MethodId} {below : List Frame} {meth : Method} {c : Code} {D : va_G} {cI cZ : ClassId} {b : Nat} {xs : Nat → Int32} {Q : State → Prop} {ρx ρm : Nat → Nat} {H : Heap} {locs : List Loc} {ls : Array Slot} (hx : p.tables.exec = Jvm.exec) (hb : c.code = code) (hml : c.maxLocals = 4) (hown : s.vm.findClass R_law = some m.cls) (hts : ∀ u ∈ lw_tbl, u.before #[Value.ref b] s = true) (hns : xe_ns xNS s) (hK : va_K D xCLs (xe_ty cI cZ) s) (hX : va_X b 8 xs s s.heap) (hbl : b < s.heap.size) (hPx : va_P D xCLs (xw cI cZ ρx Cx) H) (hPm : va_P D xCLs (xw cI cZ ρm Cm) H) (hDx : va_D (fun q : Nat => s.heap.size ≤ q) (xw cI cZ ρx Cx)) (hDm : va_D (fun q : Nat => s.heap.size ≤ q) (xw cI cZ ρm Cm)) (hDD : va_D (fun q : Nat => s.heap.size ≤ q) (xw cI cZ ρx Cx ++ xw cI cZ ρm Cm)) (hS : va_S (fun q : Nat => s.heap.size ≤ q) s.heap H locs) (hl : lv_has ls 4 [(3, .int 0), (2, .ref (ρm 0)), (1, .ref (ρx 0)), (0, .ref b)])
    (K : ∀ (H1 : Heap) (locs1 : List Loc), va_S (fun q : Nat => s.heap.size ≤ q) s.heap H1 locs1 → W p l e room_1 s m #[Value.ref b] below meth c H1 locs1 80 5836 Q (F0 m 734 ls [])) : W p l e room_1 s m #[Value.ref b] below meth c H locs 80 5836 Q (F0 m 203 ls []) := by
  have hA : ∀ q : Nat, s.heap.size ≤ q → (fun q : Nat => s.heap.size ≤ q) q := fun _ h => h
  have hbA : ¬ (fun q : Nat => s.heap.size ≤ q) b := Nat.not_le.mpr hbl
  obtain ⟨v, rx, rm⟩ := sm_1 (xs (Int32.toNatClampNeg 1)) (xs (Int32.toNatClampNeg 2)) (xs (Int32.toNatClampNeg 3)) (xs (Int32.toNatClampNeg 4)) (xs (Int32.toNatClampNeg 5)) (xs (Int32.toNatClampNeg 6)) (xs (Int32.toNatClampNeg 7))
  refine lv_aload_n hx hb dL_law_203 rfl (lv_at hl 2 rfl) ?_
  refine lv_aload_n hx hb dL_law_204 rfl (lv_at hl 3 rfl) ?_
  refine lv_iload_n hx hb dL_law_205 rfl (lv_at hl 0 rfl) ?_
  refine lv_iconst (v := 1) hx hb dL_law_206 rfl ?_
  refine lv_iadd hx hb dL_law_207 ?_
  refine lw_tov (y := 1) (by decide) ?_
  refine va_sld hx hb hX hbl hbA hS (by unfold vp_in; decide) dL_law_208 ?_
  refine lv_aload_n hx hb dL_law_209 rfl (lv_at hl 3 rfl) ?_
  refine lv_iload_n hx hb dL_law_210 rfl (lv_at hl 0 rfl) ?_
  refine lv_iconst (v := 2) hx hb dL_law_211 rfl ?_
  refine lv_iadd hx hb dL_law_212 ?_
  refine lw_tov (y := 2) (by decide) ?_
  refine va_sld hx hb hX hbl hbA hS (by unfold vp_in; decide) dL_law_213 ?_
  refine lv_aload_n hx hb dL_law_214 rfl (lv_at hl 3 rfl) ?_
  refine lv_iload_n hx hb dL_law_215 rfl (lv_at hl 0 rfl) ?_
  refine lv_iconst (v := 3) hx hb dL_law_216 rfl ?_
  refine lv_iadd hx hb dL_law_217 ?_
  refine lw_tov (y := 3) (by decide) ?_
  refine va_sld hx hb hX hbl hbA hS (by unfold vp_in; decide) dL_law_218 ?_
  refine lv_aload_n hx hb dL_law_219 rfl (lv_at hl 3 rfl) ?_
  refine lv_iload_n hx hb dL_law_220 rfl (lv_at hl 0 rfl) ?_
  refine lv_iconst (v := 4) hx hb dL_law_221 rfl ?_
  refine lv_iadd hx hb dL_law_222 ?_
  refine lw_tov (y := 4) (by decide) ?_
  refine va_sld hx hb hX hbl hbA hS (by unfold vp_in; decide) dL_law_223 ?_
  refine lv_aload_n hx hb dL_law_224 rfl (lv_at hl 3 rfl) ?_
  refine lv_iload_n hx hb dL_law_225 rfl (lv_at hl 0 rfl) ?_
  refine lv_iconst (v := 5) hx hb dL_law_226 rfl ?_
  refine lv_iadd hx hb dL_law_227 ?_
  refine lw_tov (y := 5) (by decide) ?_
  refine va_sld hx hb hX hbl hbA hS (by unfold vp_in; decide) dL_law_228 ?_
  refine lv_aload_n hx hb dL_law_229 rfl (lv_at hl 3 rfl) ?_
  refine lv_iload_n hx hb dL_law_230 rfl (lv_at hl 0 rfl) ?_
  refine lv_bipush (v := 6) hx hb dL_law_231 rfl ?_
  refine lv_iadd hx hb dL_law_233 ?_
  refine lw_tov (y := 6) (by decide) ?_
  refine va_sld hx hb hX hbl hbA hS (by unfold vp_in; decide) dL_law_234 ?_
  refine lv_aload_n hx hb dL_law_235 rfl (lv_at hl 3 rfl) ?_
  refine lv_iload_n hx hb dL_law_236 rfl (lv_at hl 0 rfl) ?_
  refine lv_bipush (v := 7) hx hb dL_law_237 rfl ?_
  refine lv_iadd hx hb dL_law_239 ?_
  refine lw_tov (y := 7) (by decide) ?_
  refine va_sld hx hb hX hbl hbA hS (by unfold vp_in; decide) dL_law_240 ?_
  refine lw_call (rest := []) (vs := [.int (xs (Int32.toNatClampNeg 1)), .int (xs (Int32.toNatClampNeg 2)), .int (xs (Int32.toNatClampNeg 3)), .int (xs (Int32.toNatClampNeg 4)), .int (xs (Int32.toNatClampNeg 5)), .int (xs (Int32.toNatClampNeg 6)), .int (xs (Int32.toNatClampNeg 7))]) (n1 := 365) (n2 := 366) (n3 := 367) (na := 7) (ci := 4) hx hb hml hown hts hns hK hA hl.1 1 (C := Cx) (ρ := ρx) rx rfl (Nat.le_of_ble_eq_true rfl) rfl rfl rfl (by decide +kernel) (by decide +kernel) (by decide +kernel) rfl (by decide +kernel) ⟨Nat.le_of_ble_eq_true rfl, Nat.le_of_ble_eq_true rfl⟩ (Nat.le_of_ble_eq_true rfl) dL_law_241 hPx hDx hS (fun H1 locs1 hk1 hS => ?_)
  have hPm := lw_keep hDD hPm hk1
  refine lv_aload_n hx hb dL_law_244 rfl (lv_at hl 1 rfl) ?_
  refine lv_aload_n hx hb dL_law_245 rfl (lv_at hl 3 rfl) ?_
  refine lv_iload_n hx hb dL_law_246 rfl (lv_at hl 0 rfl) ?_
  refine lv_iconst (v := 1) hx hb dL_law_247 rfl ?_
  refine lv_iadd hx hb dL_law_248 ?_
  refine lw_tov (y := 1) (by decide) ?_
  refine va_sld hx hb hX hbl hbA hS (by unfold vp_in; decide) dL_law_249 ?_
  refine lv_aload_n hx hb dL_law_250 rfl (lv_at hl 3 rfl) ?_
  refine lv_iload_n hx hb dL_law_251 rfl (lv_at hl 0 rfl) ?_
  refine lv_iconst (v := 2) hx hb dL_law_252 rfl ?_
  refine lv_iadd hx hb dL_law_253 ?_
  refine lw_tov (y := 2) (by decide) ?_
  refine va_sld hx hb hX hbl hbA hS (by unfold vp_in; decide) dL_law_254 ?_
  refine lv_aload_n hx hb dL_law_255 rfl (lv_at hl 3 rfl) ?_
  refine lv_iload_n hx hb dL_law_256 rfl (lv_at hl 0 rfl) ?_
  refine lv_iconst (v := 3) hx hb dL_law_257 rfl ?_
  refine lv_iadd hx hb dL_law_258 ?_
  refine lw_tov (y := 3) (by decide) ?_
  refine va_sld hx hb hX hbl hbA hS (by unfold vp_in; decide) dL_law_259 ?_
  refine lv_aload_n hx hb dL_law_260 rfl (lv_at hl 3 rfl) ?_
  refine lv_iload_n hx hb dL_law_261 rfl (lv_at hl 0 rfl) ?_
  refine lv_iconst (v := 4) hx hb dL_law_262 rfl ?_
  refine lv_iadd hx hb dL_law_263 ?_
  refine lw_tov (y := 4) (by decide) ?_
  refine va_sld hx hb hX hbl hbA hS (by unfold vp_in; decide) dL_law_264 ?_
  refine lv_aload_n hx hb dL_law_265 rfl (lv_at hl 3 rfl) ?_
  refine lv_iload_n hx hb dL_law_266 rfl (lv_at hl 0 rfl) ?_
  refine lv_iconst (v := 5) hx hb dL_law_267 rfl ?_
  refine lv_iadd hx hb dL_law_268 ?_
  refine lw_tov (y := 5) (by decide) ?_
  refine va_sld hx hb hX hbl hbA hS (by unfold vp_in; decide) dL_law_269 ?_
  refine lv_aload_n hx hb dL_law_270 rfl (lv_at hl 3 rfl) ?_
  refine lv_iload_n hx hb dL_law_271 rfl (lv_at hl 0 rfl) ?_
  refine lv_bipush (v := 6) hx hb dL_law_272 rfl ?_
  refine lv_iadd hx hb dL_law_274 ?_
  refine lw_tov (y := 6) (by decide) ?_
  refine va_sld hx hb hX hbl hbA hS (by unfold vp_in; decide) dL_law_275 ?_
  refine lv_aload_n hx hb dL_law_276 rfl (lv_at hl 3 rfl) ?_
  refine lv_iload_n hx hb dL_law_277 rfl (lv_at hl 0 rfl) ?_
  refine lv_bipush (v := 7) hx hb dL_law_278 rfl ?_
  refine lv_iadd hx hb dL_law_280 ?_
  refine lw_tov (y := 7) (by decide) ?_
  refine va_sld hx hb hX hbl hbA hS (by unfold vp_in; decide) dL_law_281 ?_
  refine lw_call (rest := [.int v]) (vs := [.int (xs (Int32.toNatClampNeg 1)), .int (xs (Int32.toNatClampNeg 2)), .int (xs (Int32.toNatClampNeg 3)), .int (xs (Int32.toNatClampNeg 4)), .int (xs (Int32.toNatClampNeg 5)), .int (xs (Int32.toNatClampNeg 6)), .int (xs (Int32.toNatClampNeg 7))]) (n1 := 908) (n2 := 909) (n3 := 910) (na := 7) (ci := 5) hx hb hml hown hts hns hK hA hl.1 62 (C := Cm) (ρ := ρm) rm rfl (Nat.le_of_ble_eq_true rfl) rfl rfl rfl (by decide +kernel) (by decide +kernel) (by decide +kernel) rfl (by decide +kernel) ⟨Nat.le_of_ble_eq_true rfl, Nat.le_of_ble_eq_true rfl⟩ (Nat.le_of_ble_eq_true rfl) dL_law_282 hPm hDm hS (fun H1 locs1 hk1 hS => ?_)
  exact lv_icmp_eq (tgt := 734) hx hb dL_law_285 rfl (fun _ => K _ _ hS) (fun hq => absurd rfl hq)
set_option maxHeartbeats 4000000 in
set_option maxRecDepth 100000 in
theorem lw_case_2 {p : Program} {l : Launch} {e : Env} {s : State} {m : MethodId} {below : List Frame} {meth : Method} {c : Code} {D : va_G} {cI cZ : ClassId} {b : Nat} {xs : Nat → Int32} {Q : State → Prop} {ρx ρm : Nat → Nat} {H : Heap} {locs : List Loc} {ls : Array Slot} (hx : p.tables.exec = Jvm.exec) (hb : c.code = code) (hml : c.maxLocals = 4) (hown : s.vm.findClass R_law = some m.cls) (hts : ∀ u ∈ lw_tbl, u.before #[Value.ref b] s = true) (hns : xe_ns xNS s) (hK : va_K D xCLs (xe_ty cI cZ) s) (hX : va_X b 8 xs s s.heap) (hbl : b < s.heap.size) (hPx : va_P D xCLs (xw cI cZ ρx Cx) H) (hPm : va_P D xCLs (xw cI cZ ρm Cm) H) (hDx : va_D (fun q : Nat => s.heap.size ≤ q) (xw cI cZ ρx Cx)) (hDm : va_D (fun q : Nat => s.heap.size ≤ q) (xw cI cZ ρm Cm)) (hDD : va_D (fun q : Nat => s.heap.size ≤ q) (xw cI cZ ρx Cx ++ xw cI cZ ρm Cm)) (hS : va_S (fun q : Nat => s.heap.size ≤ q) s.heap H locs) (hl : lv_has ls 4 [(3, .int 0), (2, .ref (ρm 0)), (1, .ref (ρx 0)), (0, .ref b)])
    (K : ∀ (H1 : Heap) (locs1 : List Loc), va_S (fun q : Nat => s.heap.size ≤ q) s.heap H1 locs1 → W p l e room_1 s m #[Value.ref b] below meth c H1 locs1 80 5836 Q (F0 m 734 ls [])) : W p l e room_1 s m #[Value.ref b] below meth c H locs 80 5836 Q (F0 m 290 ls []) := by
  have hA : ∀ q : Nat, s.heap.size ≤ q → (fun q : Nat => s.heap.size ≤ q) q := fun _ h => h
  have hbA : ¬ (fun q : Nat => s.heap.size ≤ q) b := Nat.not_le.mpr hbl
  obtain ⟨v, rx, rm⟩ := sm_2 (xs (Int32.toNatClampNeg 1))
  refine lv_aload_n hx hb dL_law_290 rfl (lv_at hl 2 rfl) ?_
  refine lv_aload_n hx hb dL_law_291 rfl (lv_at hl 3 rfl) ?_
  refine lv_iload_n hx hb dL_law_292 rfl (lv_at hl 0 rfl) ?_
  refine lv_iconst (v := 1) hx hb dL_law_293 rfl ?_
  refine lv_iadd hx hb dL_law_294 ?_
  refine lw_tov (y := 1) (by decide) ?_
  refine va_sld hx hb hX hbl hbA hS (by unfold vp_in; decide) dL_law_295 ?_
  refine lw_call (rest := []) (vs := [.int (xs (Int32.toNatClampNeg 1))]) (n1 := 374) (n2 := 375) (n3 := 376) (na := 1) (ci := 4) hx hb hml hown hts hns hK hA hl.1 2 (C := Cx) (ρ := ρx) rx rfl (Nat.le_of_ble_eq_true rfl) rfl rfl rfl (by decide +kernel) (by decide +kernel) (by decide +kernel) rfl (by decide +kernel) ⟨Nat.le_of_ble_eq_true rfl, Nat.le_of_ble_eq_true rfl⟩ (Nat.le_of_ble_eq_true rfl) dL_law_296 hPx hDx hS (fun H1 locs1 hk1 hS => ?_)
  have hPm := lw_keep hDD hPm hk1
  refine lv_aload_n hx hb dL_law_299 rfl (lv_at hl 1 rfl) ?_
  refine lv_aload_n hx hb dL_law_300 rfl (lv_at hl 3 rfl) ?_
  refine lv_iload_n hx hb dL_law_301 rfl (lv_at hl 0 rfl) ?_
  refine lv_iconst (v := 1) hx hb dL_law_302 rfl ?_
  refine lv_iadd hx hb dL_law_303 ?_
  refine lw_tov (y := 1) (by decide) ?_
  refine va_sld hx hb hX hbl hbA hS (by unfold vp_in; decide) dL_law_304 ?_
  refine lw_call (rest := [.int v]) (vs := [.int (xs (Int32.toNatClampNeg 1))]) (n1 := 912) (n2 := 913) (n3 := 914) (na := 1) (ci := 5) hx hb hml hown hts hns hK hA hl.1 63 (C := Cm) (ρ := ρm) rm rfl (Nat.le_of_ble_eq_true rfl) rfl rfl rfl (by decide +kernel) (by decide +kernel) (by decide +kernel) rfl (by decide +kernel) ⟨Nat.le_of_ble_eq_true rfl, Nat.le_of_ble_eq_true rfl⟩ (Nat.le_of_ble_eq_true rfl) dL_law_305 hPm hDm hS (fun H1 locs1 hk1 hS => ?_)
  exact lv_icmp_eq (tgt := 734) hx hb dL_law_308 rfl (fun _ => K _ _ hS) (fun hq => absurd rfl hq)
set_option maxHeartbeats 4000000 in
set_option maxRecDepth 100000 in
theorem lw_case_3 {p : Program} {l : Launch} {e : Env} {s : State} {m : MethodId} {below : List Frame} {meth : Method} {c : Code} {D : va_G} {cI cZ : ClassId} {b : Nat} {xs : Nat → Int32} {Q : State → Prop} {ρx ρm : Nat → Nat} {H : Heap} {locs : List Loc} {ls : Array Slot} (hx : p.tables.exec = Jvm.exec) (hb : c.code = code) (hml : c.maxLocals = 4) (hown : s.vm.findClass R_law = some m.cls) (hts : ∀ u ∈ lw_tbl, u.before #[Value.ref b] s = true) (hns : xe_ns xNS s) (hK : va_K D xCLs (xe_ty cI cZ) s) (hX : va_X b 8 xs s s.heap) (hbl : b < s.heap.size) (hPx : va_P D xCLs (xw cI cZ ρx Cx) H) (hPm : va_P D xCLs (xw cI cZ ρm Cm) H) (hDx : va_D (fun q : Nat => s.heap.size ≤ q) (xw cI cZ ρx Cx)) (hDm : va_D (fun q : Nat => s.heap.size ≤ q) (xw cI cZ ρm Cm)) (hDD : va_D (fun q : Nat => s.heap.size ≤ q) (xw cI cZ ρx Cx ++ xw cI cZ ρm Cm)) (hS : va_S (fun q : Nat => s.heap.size ≤ q) s.heap H locs) (hl : lv_has ls 4 [(3, .int 0), (2, .ref (ρm 0)), (1, .ref (ρx 0)), (0, .ref b)])
    (K : ∀ (H1 : Heap) (locs1 : List Loc), va_S (fun q : Nat => s.heap.size ≤ q) s.heap H1 locs1 → W p l e room_1 s m #[Value.ref b] below meth c H1 locs1 80 5836 Q (F0 m 734 ls [])) : W p l e room_1 s m #[Value.ref b] below meth c H locs 80 5836 Q (F0 m 313 ls []) := by
  have hA : ∀ q : Nat, s.heap.size ≤ q → (fun q : Nat => s.heap.size ≤ q) q := fun _ h => h
  have hbA : ¬ (fun q : Nat => s.heap.size ≤ q) b := Nat.not_le.mpr hbl
  obtain ⟨v, rx, rm⟩ := sm_3 (xs (Int32.toNatClampNeg 1))
  refine lv_aload_n hx hb dL_law_313 rfl (lv_at hl 2 rfl) ?_
  refine lv_aload_n hx hb dL_law_314 rfl (lv_at hl 3 rfl) ?_
  refine lv_iload_n hx hb dL_law_315 rfl (lv_at hl 0 rfl) ?_
  refine lv_iconst (v := 1) hx hb dL_law_316 rfl ?_
  refine lv_iadd hx hb dL_law_317 ?_
  refine lw_tov (y := 1) (by decide) ?_
  refine va_sld hx hb hX hbl hbA hS (by unfold vp_in; decide) dL_law_318 ?_
  refine lw_call (rest := []) (vs := [.int (xs (Int32.toNatClampNeg 1))]) (n1 := 378) (n2 := 379) (n3 := 380) (na := 1) (ci := 4) hx hb hml hown hts hns hK hA hl.1 3 (C := Cx) (ρ := ρx) rx rfl (Nat.le_of_ble_eq_true rfl) rfl rfl rfl (by decide +kernel) (by decide +kernel) (by decide +kernel) rfl (by decide +kernel) ⟨Nat.le_of_ble_eq_true rfl, Nat.le_of_ble_eq_true rfl⟩ (Nat.le_of_ble_eq_true rfl) dL_law_319 hPx hDx hS (fun H1 locs1 hk1 hS => ?_)
  have hPm := lw_keep hDD hPm hk1
  refine lv_aload_n hx hb dL_law_322 rfl (lv_at hl 1 rfl) ?_
  refine lv_aload_n hx hb dL_law_323 rfl (lv_at hl 3 rfl) ?_
  refine lv_iload_n hx hb dL_law_324 rfl (lv_at hl 0 rfl) ?_
  refine lv_iconst (v := 1) hx hb dL_law_325 rfl ?_
  refine lv_iadd hx hb dL_law_326 ?_
  refine lw_tov (y := 1) (by decide) ?_
  refine va_sld hx hb hX hbl hbA hS (by unfold vp_in; decide) dL_law_327 ?_
  refine lw_call (rest := [.int v]) (vs := [.int (xs (Int32.toNatClampNeg 1))]) (n1 := 916) (n2 := 917) (n3 := 918) (na := 1) (ci := 5) hx hb hml hown hts hns hK hA hl.1 64 (C := Cm) (ρ := ρm) rm rfl (Nat.le_of_ble_eq_true rfl) rfl rfl rfl (by decide +kernel) (by decide +kernel) (by decide +kernel) rfl (by decide +kernel) ⟨Nat.le_of_ble_eq_true rfl, Nat.le_of_ble_eq_true rfl⟩ (Nat.le_of_ble_eq_true rfl) dL_law_328 hPm hDm hS (fun H1 locs1 hk1 hS => ?_)
  exact lv_icmp_eq (tgt := 734) hx hb dL_law_331 rfl (fun _ => K _ _ hS) (fun hq => absurd rfl hq)
set_option maxHeartbeats 4000000 in
set_option maxRecDepth 100000 in
theorem lw_case_4 {p : Program} {l : Launch} {e : Env} {s : State} {m : MethodId} {below : List Frame} {meth : Method} {c : Code} {D : va_G} {cI cZ : ClassId} {b : Nat} {xs : Nat → Int32} {Q : State → Prop} {ρx ρm : Nat → Nat} {H : Heap} {locs : List Loc} {ls : Array Slot} (hx : p.tables.exec = Jvm.exec) (hb : c.code = code) (hml : c.maxLocals = 4) (hown : s.vm.findClass R_law = some m.cls) (hts : ∀ u ∈ lw_tbl, u.before #[Value.ref b] s = true) (hns : xe_ns xNS s) (hK : va_K D xCLs (xe_ty cI cZ) s) (hX : va_X b 8 xs s s.heap) (hbl : b < s.heap.size) (hPx : va_P D xCLs (xw cI cZ ρx Cx) H) (hPm : va_P D xCLs (xw cI cZ ρm Cm) H) (hDx : va_D (fun q : Nat => s.heap.size ≤ q) (xw cI cZ ρx Cx)) (hDm : va_D (fun q : Nat => s.heap.size ≤ q) (xw cI cZ ρm Cm)) (hDD : va_D (fun q : Nat => s.heap.size ≤ q) (xw cI cZ ρx Cx ++ xw cI cZ ρm Cm)) (hS : va_S (fun q : Nat => s.heap.size ≤ q) s.heap H locs) (hl : lv_has ls 4 [(3, .int 0), (2, .ref (ρm 0)), (1, .ref (ρx 0)), (0, .ref b)])
    (K : ∀ (H1 : Heap) (locs1 : List Loc), va_S (fun q : Nat => s.heap.size ≤ q) s.heap H1 locs1 → W p l e room_1 s m #[Value.ref b] below meth c H1 locs1 80 5836 Q (F0 m 734 ls [])) : W p l e room_1 s m #[Value.ref b] below meth c H locs 80 5836 Q (F0 m 336 ls []) := by
  have hA : ∀ q : Nat, s.heap.size ≤ q → (fun q : Nat => s.heap.size ≤ q) q := fun _ h => h
  have hbA : ¬ (fun q : Nat => s.heap.size ≤ q) b := Nat.not_le.mpr hbl
  obtain ⟨v, rx, rm⟩ := sm_4
  refine lv_aload_n hx hb dL_law_336 rfl (lv_at hl 2 rfl) ?_
  refine lw_call (rest := []) (vs := []) (n1 := 382) (n2 := 383) (n3 := 384) (na := 0) (ci := 4) hx hb hml hown hts hns hK hA hl.1 4 (C := Cx) (ρ := ρx) rx rfl (Nat.le_of_ble_eq_true rfl) rfl rfl rfl (by decide +kernel) (by decide +kernel) (by decide +kernel) rfl (by decide +kernel) ⟨Nat.le_of_ble_eq_true rfl, Nat.le_of_ble_eq_true rfl⟩ (Nat.le_of_ble_eq_true rfl) dL_law_337 hPx hDx hS (fun H1 locs1 hk1 hS => ?_)
  have hPm := lw_keep hDD hPm hk1
  refine lv_aload_n hx hb dL_law_340 rfl (lv_at hl 1 rfl) ?_
  refine lw_call (rest := [.int v]) (vs := []) (n1 := 920) (n2 := 921) (n3 := 922) (na := 0) (ci := 5) hx hb hml hown hts hns hK hA hl.1 65 (C := Cm) (ρ := ρm) rm rfl (Nat.le_of_ble_eq_true rfl) rfl rfl rfl (by decide +kernel) (by decide +kernel) (by decide +kernel) rfl (by decide +kernel) ⟨Nat.le_of_ble_eq_true rfl, Nat.le_of_ble_eq_true rfl⟩ (Nat.le_of_ble_eq_true rfl) dL_law_341 hPm hDm hS (fun H1 locs1 hk1 hS => ?_)
  exact lv_icmp_eq (tgt := 734) hx hb dL_law_344 rfl (fun _ => K _ _ hS) (fun hq => absurd rfl hq)
set_option maxHeartbeats 4000000 in
set_option maxRecDepth 100000 in
theorem lw_case_5 {p : Program} {l : Launch} {e : Env} {s : State} {m : MethodId} {below : List Frame} {meth : Method} {c : Code} {D : va_G} {cI cZ : ClassId} {b : Nat} {xs : Nat → Int32} {Q : State → Prop} {ρx ρm : Nat → Nat} {H : Heap} {locs : List Loc} {ls : Array Slot} (hx : p.tables.exec = Jvm.exec) (hb : c.code = code) (hml : c.maxLocals = 4) (hown : s.vm.findClass R_law = some m.cls) (hts : ∀ u ∈ lw_tbl, u.before #[Value.ref b] s = true) (hns : xe_ns xNS s) (hK : va_K D xCLs (xe_ty cI cZ) s) (hX : va_X b 8 xs s s.heap) (hbl : b < s.heap.size) (hPx : va_P D xCLs (xw cI cZ ρx Cx) H) (hPm : va_P D xCLs (xw cI cZ ρm Cm) H) (hDx : va_D (fun q : Nat => s.heap.size ≤ q) (xw cI cZ ρx Cx)) (hDm : va_D (fun q : Nat => s.heap.size ≤ q) (xw cI cZ ρm Cm)) (hDD : va_D (fun q : Nat => s.heap.size ≤ q) (xw cI cZ ρx Cx ++ xw cI cZ ρm Cm)) (hS : va_S (fun q : Nat => s.heap.size ≤ q) s.heap H locs) (hl : lv_has ls 4 [(3, .int 0), (2, .ref (ρm 0)), (1, .ref (ρx 0)), (0, .ref b)])
    (K : ∀ (H1 : Heap) (locs1 : List Loc), va_S (fun q : Nat => s.heap.size ≤ q) s.heap H1 locs1 → W p l e room_1 s m #[Value.ref b] below meth c H1 locs1 80 5836 Q (F0 m 734 ls [])) : W p l e room_1 s m #[Value.ref b] below meth c H locs 80 5836 Q (F0 m 349 ls []) := by
  have hA : ∀ q : Nat, s.heap.size ≤ q → (fun q : Nat => s.heap.size ≤ q) q := fun _ h => h
  have hbA : ¬ (fun q : Nat => s.heap.size ≤ q) b := Nat.not_le.mpr hbl
  obtain ⟨v, rx, rm⟩ := sm_5
  refine lv_aload_n hx hb dL_law_349 rfl (lv_at hl 2 rfl) ?_
  refine lw_call (rest := []) (vs := []) (n1 := 386) (n2 := 387) (n3 := 388) (na := 0) (ci := 4) hx hb hml hown hts hns hK hA hl.1 5 (C := Cx) (ρ := ρx) rx rfl (Nat.le_of_ble_eq_true rfl) rfl rfl rfl (by decide +kernel) (by decide +kernel) (by decide +kernel) rfl (by decide +kernel) ⟨Nat.le_of_ble_eq_true rfl, Nat.le_of_ble_eq_true rfl⟩ (Nat.le_of_ble_eq_true rfl) dL_law_350 hPx hDx hS (fun H1 locs1 hk1 hS => ?_)
  have hPm := lw_keep hDD hPm hk1
  refine lv_aload_n hx hb dL_law_353 rfl (lv_at hl 1 rfl) ?_
  refine lw_call (rest := [.int v]) (vs := []) (n1 := 924) (n2 := 925) (n3 := 926) (na := 0) (ci := 5) hx hb hml hown hts hns hK hA hl.1 67 (C := Cm) (ρ := ρm) rm rfl (Nat.le_of_ble_eq_true rfl) rfl rfl rfl (by decide +kernel) (by decide +kernel) (by decide +kernel) rfl (by decide +kernel) ⟨Nat.le_of_ble_eq_true rfl, Nat.le_of_ble_eq_true rfl⟩ (Nat.le_of_ble_eq_true rfl) dL_law_354 hPm hDm hS (fun H1 locs1 hk1 hS => ?_)
  exact lv_icmp_eq (tgt := 734) hx hb dL_law_357 rfl (fun _ => K _ _ hS) (fun hq => absurd rfl hq)
set_option maxHeartbeats 4000000 in
set_option maxRecDepth 100000 in
theorem lw_case_6 {p : Program} {l : Launch} {e : Env} {s : State} {m : MethodId} {below : List Frame} {meth : Method} {c : Code} {D : va_G} {cI cZ : ClassId} {b : Nat} {xs : Nat → Int32} {Q : State → Prop} {ρx ρm : Nat → Nat} {H : Heap} {locs : List Loc} {ls : Array Slot} (hx : p.tables.exec = Jvm.exec) (hb : c.code = code) (hml : c.maxLocals = 4) (hown : s.vm.findClass R_law = some m.cls) (hts : ∀ u ∈ lw_tbl, u.before #[Value.ref b] s = true) (hns : xe_ns xNS s) (hK : va_K D xCLs (xe_ty cI cZ) s) (hX : va_X b 8 xs s s.heap) (hbl : b < s.heap.size) (hPx : va_P D xCLs (xw cI cZ ρx Cx) H) (hPm : va_P D xCLs (xw cI cZ ρm Cm) H) (hDx : va_D (fun q : Nat => s.heap.size ≤ q) (xw cI cZ ρx Cx)) (hDm : va_D (fun q : Nat => s.heap.size ≤ q) (xw cI cZ ρm Cm)) (hDD : va_D (fun q : Nat => s.heap.size ≤ q) (xw cI cZ ρx Cx ++ xw cI cZ ρm Cm)) (hS : va_S (fun q : Nat => s.heap.size ≤ q) s.heap H locs) (hl : lv_has ls 4 [(3, .int 0), (2, .ref (ρm 0)), (1, .ref (ρx 0)), (0, .ref b)])
    (K : ∀ (H1 : Heap) (locs1 : List Loc), va_S (fun q : Nat => s.heap.size ≤ q) s.heap H1 locs1 → W p l e room_1 s m #[Value.ref b] below meth c H1 locs1 80 5836 Q (F0 m 734 ls [])) : W p l e room_1 s m #[Value.ref b] below meth c H locs 80 5836 Q (F0 m 362 ls []) := by
  have hA : ∀ q : Nat, s.heap.size ≤ q → (fun q : Nat => s.heap.size ≤ q) q := fun _ h => h
  have hbA : ¬ (fun q : Nat => s.heap.size ≤ q) b := Nat.not_le.mpr hbl
  obtain ⟨v, rx, rm⟩ := sm_6 (xs (Int32.toNatClampNeg 1))
  refine lv_aload_n hx hb dL_law_362 rfl (lv_at hl 2 rfl) ?_
  refine lv_aload_n hx hb dL_law_363 rfl (lv_at hl 3 rfl) ?_
  refine lv_iload_n hx hb dL_law_364 rfl (lv_at hl 0 rfl) ?_
  refine lv_iconst (v := 1) hx hb dL_law_365 rfl ?_
  refine lv_iadd hx hb dL_law_366 ?_
  refine lw_tov (y := 1) (by decide) ?_
  refine va_sld hx hb hX hbl hbA hS (by unfold vp_in; decide) dL_law_367 ?_
  refine lw_call (rest := []) (vs := [.int (xs (Int32.toNatClampNeg 1))]) (n1 := 460) (n2 := 461) (n3 := 462) (na := 1) (ci := 4) hx hb hml hown hts hns hK hA hl.1 6 (C := Cx) (ρ := ρx) rx rfl (Nat.le_of_ble_eq_true rfl) rfl rfl rfl (by decide +kernel) (by decide +kernel) (by decide +kernel) rfl (by decide +kernel) ⟨Nat.le_of_ble_eq_true rfl, Nat.le_of_ble_eq_true rfl⟩ (Nat.le_of_ble_eq_true rfl) dL_law_368 hPx hDx hS (fun H1 locs1 hk1 hS => ?_)
  have hPm := lw_keep hDD hPm hk1
  refine lv_aload_n hx hb dL_law_371 rfl (lv_at hl 1 rfl) ?_
  refine lv_aload_n hx hb dL_law_372 rfl (lv_at hl 3 rfl) ?_
  refine lv_iload_n hx hb dL_law_373 rfl (lv_at hl 0 rfl) ?_
  refine lv_iconst (v := 1) hx hb dL_law_374 rfl ?_
  refine lv_iadd hx hb dL_law_375 ?_
  refine lw_tov (y := 1) (by decide) ?_
  refine va_sld hx hb hX hbl hbA hS (by unfold vp_in; decide) dL_law_376 ?_
  refine lw_call (rest := [.int v]) (vs := [.int (xs (Int32.toNatClampNeg 1))]) (n1 := 955) (n2 := 956) (n3 := 957) (na := 1) (ci := 5) hx hb hml hown hts hns hK hA hl.1 68 (C := Cm) (ρ := ρm) rm rfl (Nat.le_of_ble_eq_true rfl) rfl rfl rfl (by decide +kernel) (by decide +kernel) (by decide +kernel) rfl (by decide +kernel) ⟨Nat.le_of_ble_eq_true rfl, Nat.le_of_ble_eq_true rfl⟩ (Nat.le_of_ble_eq_true rfl) dL_law_377 hPm hDm hS (fun H1 locs1 hk1 hS => ?_)
  exact lv_icmp_eq (tgt := 734) hx hb dL_law_380 rfl (fun _ => K _ _ hS) (fun hq => absurd rfl hq)
set_option maxHeartbeats 4000000 in
set_option maxRecDepth 100000 in
theorem lw_case_7 {p : Program} {l : Launch} {e : Env} {s : State} {m : MethodId} {below : List Frame} {meth : Method} {c : Code} {D : va_G} {cI cZ : ClassId} {b : Nat} {xs : Nat → Int32} {Q : State → Prop} {ρx ρm : Nat → Nat} {H : Heap} {locs : List Loc} {ls : Array Slot} (hx : p.tables.exec = Jvm.exec) (hb : c.code = code) (hml : c.maxLocals = 4) (hown : s.vm.findClass R_law = some m.cls) (hts : ∀ u ∈ lw_tbl, u.before #[Value.ref b] s = true) (hns : xe_ns xNS s) (hK : va_K D xCLs (xe_ty cI cZ) s) (hX : va_X b 8 xs s s.heap) (hbl : b < s.heap.size) (hPx : va_P D xCLs (xw cI cZ ρx Cx) H) (hPm : va_P D xCLs (xw cI cZ ρm Cm) H) (hDx : va_D (fun q : Nat => s.heap.size ≤ q) (xw cI cZ ρx Cx)) (hDm : va_D (fun q : Nat => s.heap.size ≤ q) (xw cI cZ ρm Cm)) (hDD : va_D (fun q : Nat => s.heap.size ≤ q) (xw cI cZ ρx Cx ++ xw cI cZ ρm Cm)) (hS : va_S (fun q : Nat => s.heap.size ≤ q) s.heap H locs) (hl : lv_has ls 4 [(3, .int 0), (2, .ref (ρm 0)), (1, .ref (ρx 0)), (0, .ref b)])
    (K : ∀ (H1 : Heap) (locs1 : List Loc), va_S (fun q : Nat => s.heap.size ≤ q) s.heap H1 locs1 → W p l e room_1 s m #[Value.ref b] below meth c H1 locs1 80 5836 Q (F0 m 734 ls [])) : W p l e room_1 s m #[Value.ref b] below meth c H locs 80 5836 Q (F0 m 385 ls []) := by
  have hA : ∀ q : Nat, s.heap.size ≤ q → (fun q : Nat => s.heap.size ≤ q) q := fun _ h => h
  have hbA : ¬ (fun q : Nat => s.heap.size ≤ q) b := Nat.not_le.mpr hbl
  obtain ⟨v, rx, rm⟩ := sm_7 (xs (Int32.toNatClampNeg 1))
  refine lv_aload_n hx hb dL_law_385 rfl (lv_at hl 2 rfl) ?_
  refine lv_aload_n hx hb dL_law_386 rfl (lv_at hl 3 rfl) ?_
  refine lv_iload_n hx hb dL_law_387 rfl (lv_at hl 0 rfl) ?_
  refine lv_iconst (v := 1) hx hb dL_law_388 rfl ?_
  refine lv_iadd hx hb dL_law_389 ?_
  refine lw_tov (y := 1) (by decide) ?_
  refine va_sld hx hb hX hbl hbA hS (by unfold vp_in; decide) dL_law_390 ?_
  refine lw_call (rest := []) (vs := [.int (xs (Int32.toNatClampNeg 1))]) (n1 := 476) (n2 := 477) (n3 := 478) (na := 1) (ci := 4) hx hb hml hown hts hns hK hA hl.1 7 (C := Cx) (ρ := ρx) rx rfl (Nat.le_of_ble_eq_true rfl) rfl rfl rfl (by decide +kernel) (by decide +kernel) (by decide +kernel) rfl (by decide +kernel) ⟨Nat.le_of_ble_eq_true rfl, Nat.le_of_ble_eq_true rfl⟩ (Nat.le_of_ble_eq_true rfl) dL_law_391 hPx hDx hS (fun H1 locs1 hk1 hS => ?_)
  have hPm := lw_keep hDD hPm hk1
  refine lv_aload_n hx hb dL_law_394 rfl (lv_at hl 1 rfl) ?_
  refine lv_aload_n hx hb dL_law_395 rfl (lv_at hl 3 rfl) ?_
  refine lv_iload_n hx hb dL_law_396 rfl (lv_at hl 0 rfl) ?_
  refine lv_iconst (v := 1) hx hb dL_law_397 rfl ?_
  refine lv_iadd hx hb dL_law_398 ?_
  refine lw_tov (y := 1) (by decide) ?_
  refine va_sld hx hb hX hbl hbA hS (by unfold vp_in; decide) dL_law_399 ?_
  refine lw_call (rest := [.int v]) (vs := [.int (xs (Int32.toNatClampNeg 1))]) (n1 := 959) (n2 := 960) (n3 := 961) (na := 1) (ci := 5) hx hb hml hown hts hns hK hA hl.1 69 (C := Cm) (ρ := ρm) rm rfl (Nat.le_of_ble_eq_true rfl) rfl rfl rfl (by decide +kernel) (by decide +kernel) (by decide +kernel) rfl (by decide +kernel) ⟨Nat.le_of_ble_eq_true rfl, Nat.le_of_ble_eq_true rfl⟩ (Nat.le_of_ble_eq_true rfl) dL_law_400 hPm hDm hS (fun H1 locs1 hk1 hS => ?_)
  exact lv_icmp_eq (tgt := 734) hx hb dL_law_403 rfl (fun _ => K _ _ hS) (fun hq => absurd rfl hq)
set_option maxHeartbeats 4000000 in
set_option maxRecDepth 100000 in
theorem lw_case_8 {p : Program} {l : Launch} {e : Env} {s : State} {m : MethodId} {below : List Frame} {meth : Method} {c : Code} {D : va_G} {cI cZ : ClassId} {b : Nat} {xs : Nat → Int32} {Q : State → Prop} {ρx ρm : Nat → Nat} {H : Heap} {locs : List Loc} {ls : Array Slot} (hx : p.tables.exec = Jvm.exec) (hb : c.code = code) (hml : c.maxLocals = 4) (hown : s.vm.findClass R_law = some m.cls) (hts : ∀ u ∈ lw_tbl, u.before #[Value.ref b] s = true) (hns : xe_ns xNS s) (hK : va_K D xCLs (xe_ty cI cZ) s) (hX : va_X b 8 xs s s.heap) (hbl : b < s.heap.size) (hPx : va_P D xCLs (xw cI cZ ρx Cx) H) (hPm : va_P D xCLs (xw cI cZ ρm Cm) H) (hDx : va_D (fun q : Nat => s.heap.size ≤ q) (xw cI cZ ρx Cx)) (hDm : va_D (fun q : Nat => s.heap.size ≤ q) (xw cI cZ ρm Cm)) (hDD : va_D (fun q : Nat => s.heap.size ≤ q) (xw cI cZ ρx Cx ++ xw cI cZ ρm Cm)) (hS : va_S (fun q : Nat => s.heap.size ≤ q) s.heap H locs) (hl : lv_has ls 4 [(3, .int 0), (2, .ref (ρm 0)), (1, .ref (ρx 0)), (0, .ref b)])
    (K : ∀ (H1 : Heap) (locs1 : List Loc), va_S (fun q : Nat => s.heap.size ≤ q) s.heap H1 locs1 → W p l e room_1 s m #[Value.ref b] below meth c H1 locs1 80 5836 Q (F0 m 734 ls [])) : W p l e room_1 s m #[Value.ref b] below meth c H locs 80 5836 Q (F0 m 408 ls []) := by
  have hA : ∀ q : Nat, s.heap.size ≤ q → (fun q : Nat => s.heap.size ≤ q) q := fun _ h => h
  have hbA : ¬ (fun q : Nat => s.heap.size ≤ q) b := Nat.not_le.mpr hbl
  obtain ⟨v, rx, rm⟩ := sm_8 (xs (Int32.toNatClampNeg 1)) (xs (Int32.toNatClampNeg 2))
  refine lv_aload_n hx hb dL_law_408 rfl (lv_at hl 2 rfl) ?_
  refine lv_aload_n hx hb dL_law_409 rfl (lv_at hl 3 rfl) ?_
  refine lv_iload_n hx hb dL_law_410 rfl (lv_at hl 0 rfl) ?_
  refine lv_iconst (v := 1) hx hb dL_law_411 rfl ?_
  refine lv_iadd hx hb dL_law_412 ?_
  refine lw_tov (y := 1) (by decide) ?_
  refine va_sld hx hb hX hbl hbA hS (by unfold vp_in; decide) dL_law_413 ?_
  refine lv_aload_n hx hb dL_law_414 rfl (lv_at hl 3 rfl) ?_
  refine lv_iload_n hx hb dL_law_415 rfl (lv_at hl 0 rfl) ?_
  refine lv_iconst (v := 2) hx hb dL_law_416 rfl ?_
  refine lv_iadd hx hb dL_law_417 ?_
  refine lw_tov (y := 2) (by decide) ?_
  refine va_sld hx hb hX hbl hbA hS (by unfold vp_in; decide) dL_law_418 ?_
  refine lw_call (rest := []) (vs := [.int (xs (Int32.toNatClampNeg 1)), .int (xs (Int32.toNatClampNeg 2))]) (n1 := 480) (n2 := 481) (n3 := 482) (na := 2) (ci := 4) hx hb hml hown hts hns hK hA hl.1 8 (C := Cx) (ρ := ρx) rx rfl (Nat.le_of_ble_eq_true rfl) rfl rfl rfl (by decide +kernel) (by decide +kernel) (by decide +kernel) rfl (by decide +kernel) ⟨Nat.le_of_ble_eq_true rfl, Nat.le_of_ble_eq_true rfl⟩ (Nat.le_of_ble_eq_true rfl) dL_law_419 hPx hDx hS (fun H1 locs1 hk1 hS => ?_)
  have hPm := lw_keep hDD hPm hk1
  refine lv_aload_n hx hb dL_law_422 rfl (lv_at hl 1 rfl) ?_
  refine lv_aload_n hx hb dL_law_423 rfl (lv_at hl 3 rfl) ?_
  refine lv_iload_n hx hb dL_law_424 rfl (lv_at hl 0 rfl) ?_
  refine lv_iconst (v := 1) hx hb dL_law_425 rfl ?_
  refine lv_iadd hx hb dL_law_426 ?_
  refine lw_tov (y := 1) (by decide) ?_
  refine va_sld hx hb hX hbl hbA hS (by unfold vp_in; decide) dL_law_427 ?_
  refine lv_aload_n hx hb dL_law_428 rfl (lv_at hl 3 rfl) ?_
  refine lv_iload_n hx hb dL_law_429 rfl (lv_at hl 0 rfl) ?_
  refine lv_iconst (v := 2) hx hb dL_law_430 rfl ?_
  refine lv_iadd hx hb dL_law_431 ?_
  refine lw_tov (y := 2) (by decide) ?_
  refine va_sld hx hb hX hbl hbA hS (by unfold vp_in; decide) dL_law_432 ?_
  refine lw_call (rest := [.int v]) (vs := [.int (xs (Int32.toNatClampNeg 1)), .int (xs (Int32.toNatClampNeg 2))]) (n1 := 963) (n2 := 964) (n3 := 965) (na := 2) (ci := 5) hx hb hml hown hts hns hK hA hl.1 70 (C := Cm) (ρ := ρm) rm rfl (Nat.le_of_ble_eq_true rfl) rfl rfl rfl (by decide +kernel) (by decide +kernel) (by decide +kernel) rfl (by decide +kernel) ⟨Nat.le_of_ble_eq_true rfl, Nat.le_of_ble_eq_true rfl⟩ (Nat.le_of_ble_eq_true rfl) dL_law_433 hPm hDm hS (fun H1 locs1 hk1 hS => ?_)
  exact lv_icmp_eq (tgt := 734) hx hb dL_law_436 rfl (fun _ => K _ _ hS) (fun hq => absurd rfl hq)
set_option maxHeartbeats 4000000 in
set_option maxRecDepth 100000 in
theorem lw_case_9 {p : Program} {l : Launch} {e : Env} {s : State} {m : MethodId} {below : List Frame} {meth : Method} {c : Code} {D : va_G} {cI cZ : ClassId} {b : Nat} {xs : Nat → Int32} {Q : State → Prop} {ρx ρm : Nat → Nat} {H : Heap} {locs : List Loc} {ls : Array Slot} (hx : p.tables.exec = Jvm.exec) (hb : c.code = code) (hml : c.maxLocals = 4) (hown : s.vm.findClass R_law = some m.cls) (hts : ∀ u ∈ lw_tbl, u.before #[Value.ref b] s = true) (hns : xe_ns xNS s) (hK : va_K D xCLs (xe_ty cI cZ) s) (hX : va_X b 8 xs s s.heap) (hbl : b < s.heap.size) (hPx : va_P D xCLs (xw cI cZ ρx Cx) H) (hPm : va_P D xCLs (xw cI cZ ρm Cm) H) (hDx : va_D (fun q : Nat => s.heap.size ≤ q) (xw cI cZ ρx Cx)) (hDm : va_D (fun q : Nat => s.heap.size ≤ q) (xw cI cZ ρm Cm)) (hDD : va_D (fun q : Nat => s.heap.size ≤ q) (xw cI cZ ρx Cx ++ xw cI cZ ρm Cm)) (hS : va_S (fun q : Nat => s.heap.size ≤ q) s.heap H locs) (hl : lv_has ls 4 [(3, .int 0), (2, .ref (ρm 0)), (1, .ref (ρx 0)), (0, .ref b)])
    (K : ∀ (H1 : Heap) (locs1 : List Loc), va_S (fun q : Nat => s.heap.size ≤ q) s.heap H1 locs1 → W p l e room_1 s m #[Value.ref b] below meth c H1 locs1 80 5836 Q (F0 m 734 ls [])) : W p l e room_1 s m #[Value.ref b] below meth c H locs 80 5836 Q (F0 m 441 ls []) := by
  have hA : ∀ q : Nat, s.heap.size ≤ q → (fun q : Nat => s.heap.size ≤ q) q := fun _ h => h
  have hbA : ¬ (fun q : Nat => s.heap.size ≤ q) b := Nat.not_le.mpr hbl
  obtain ⟨v, rx, rm⟩ := sm_9
  refine lv_aload_n hx hb dL_law_441 rfl (lv_at hl 2 rfl) ?_
  refine lw_call (rest := []) (vs := []) (n1 := 485) (n2 := 486) (n3 := 487) (na := 0) (ci := 4) hx hb hml hown hts hns hK hA hl.1 9 (C := Cx) (ρ := ρx) rx rfl (Nat.le_of_ble_eq_true rfl) rfl rfl rfl (by decide +kernel) (by decide +kernel) (by decide +kernel) rfl (by decide +kernel) ⟨Nat.le_of_ble_eq_true rfl, Nat.le_of_ble_eq_true rfl⟩ (Nat.le_of_ble_eq_true rfl) dL_law_442 hPx hDx hS (fun H1 locs1 hk1 hS => ?_)
  have hPm := lw_keep hDD hPm hk1
  refine lv_aload_n hx hb dL_law_445 rfl (lv_at hl 1 rfl) ?_
  refine lw_call (rest := [.int v]) (vs := []) (n1 := 971) (n2 := 972) (n3 := 973) (na := 0) (ci := 5) hx hb hml hown hts hns hK hA hl.1 80 (C := Cm) (ρ := ρm) rm rfl (Nat.le_of_ble_eq_true rfl) rfl rfl rfl (by decide +kernel) (by decide +kernel) (by decide +kernel) rfl (by decide +kernel) ⟨Nat.le_of_ble_eq_true rfl, Nat.le_of_ble_eq_true rfl⟩ (Nat.le_of_ble_eq_true rfl) dL_law_446 hPm hDm hS (fun H1 locs1 hk1 hS => ?_)
  exact lv_icmp_eq (tgt := 734) hx hb dL_law_449 rfl (fun _ => K _ _ hS) (fun hq => absurd rfl hq)
set_option maxHeartbeats 4000000 in
set_option maxRecDepth 100000 in
theorem lw_case_10 {p : Program} {l : Launch} {e : Env} {s : State} {m : MethodId} {below : List Frame} {meth : Method} {c : Code} {D : va_G} {cI cZ : ClassId} {b : Nat} {xs : Nat → Int32} {Q : State → Prop} {ρx ρm : Nat → Nat} {H : Heap} {locs : List Loc} {ls : Array Slot} (hx : p.tables.exec = Jvm.exec) (hb : c.code = code) (hml : c.maxLocals = 4) (hown : s.vm.findClass R_law = some m.cls) (hts : ∀ u ∈ lw_tbl, u.before #[Value.ref b] s = true) (hns : xe_ns xNS s) (hK : va_K D xCLs (xe_ty cI cZ) s) (hX : va_X b 8 xs s s.heap) (hbl : b < s.heap.size) (hPx : va_P D xCLs (xw cI cZ ρx Cx) H) (hPm : va_P D xCLs (xw cI cZ ρm Cm) H) (hDx : va_D (fun q : Nat => s.heap.size ≤ q) (xw cI cZ ρx Cx)) (hDm : va_D (fun q : Nat => s.heap.size ≤ q) (xw cI cZ ρm Cm)) (hDD : va_D (fun q : Nat => s.heap.size ≤ q) (xw cI cZ ρx Cx ++ xw cI cZ ρm Cm)) (hS : va_S (fun q : Nat => s.heap.size ≤ q) s.heap H locs) (hl : lv_has ls 4 [(3, .int 0), (2, .ref (ρm 0)), (1, .ref (ρx 0)), (0, .ref b)])
    (K : ∀ (H1 : Heap) (locs1 : List Loc), va_S (fun q : Nat => s.heap.size ≤ q) s.heap H1 locs1 → W p l e room_1 s m #[Value.ref b] below meth c H1 locs1 80 5836 Q (F0 m 734 ls [])) : W p l e room_1 s m #[Value.ref b] below meth c H locs 80 5836 Q (F0 m 454 ls []) := by
  have hA : ∀ q : Nat, s.heap.size ≤ q → (fun q : Nat => s.heap.size ≤ q) q := fun _ h => h
  have hbA : ¬ (fun q : Nat => s.heap.size ≤ q) b := Nat.not_le.mpr hbl
  obtain ⟨v, rx, rm⟩ := sm_10 (xs (Int32.toNatClampNeg 1)) (xs (Int32.toNatClampNeg 2))
  refine lv_aload_n hx hb dL_law_454 rfl (lv_at hl 2 rfl) ?_
  refine lv_aload_n hx hb dL_law_455 rfl (lv_at hl 3 rfl) ?_
  refine lv_iload_n hx hb dL_law_456 rfl (lv_at hl 0 rfl) ?_
  refine lv_iconst (v := 1) hx hb dL_law_457 rfl ?_
  refine lv_iadd hx hb dL_law_458 ?_
  refine lw_tov (y := 1) (by decide) ?_
  refine va_sld hx hb hX hbl hbA hS (by unfold vp_in; decide) dL_law_459 ?_
  refine lv_aload_n hx hb dL_law_460 rfl (lv_at hl 3 rfl) ?_
  refine lv_iload_n hx hb dL_law_461 rfl (lv_at hl 0 rfl) ?_
  refine lv_iconst (v := 2) hx hb dL_law_462 rfl ?_
  refine lv_iadd hx hb dL_law_463 ?_
  refine lw_tov (y := 2) (by decide) ?_
  refine va_sld hx hb hX hbl hbA hS (by unfold vp_in; decide) dL_law_464 ?_
  refine lw_call (rest := []) (vs := [.int (xs (Int32.toNatClampNeg 1)), .int (xs (Int32.toNatClampNeg 2))]) (n1 := 564) (n2 := 565) (n3 := 566) (na := 2) (ci := 4) hx hb hml hown hts hns hK hA hl.1 10 (C := Cx) (ρ := ρx) rx rfl (Nat.le_of_ble_eq_true rfl) rfl rfl rfl (by decide +kernel) (by decide +kernel) (by decide +kernel) rfl (by decide +kernel) ⟨Nat.le_of_ble_eq_true rfl, Nat.le_of_ble_eq_true rfl⟩ (Nat.le_of_ble_eq_true rfl) dL_law_465 hPx hDx hS (fun H1 locs1 hk1 hS => ?_)
  have hPm := lw_keep hDD hPm hk1
  refine lv_aload_n hx hb dL_law_468 rfl (lv_at hl 1 rfl) ?_
  refine lv_aload_n hx hb dL_law_469 rfl (lv_at hl 3 rfl) ?_
  refine lv_iload_n hx hb dL_law_470 rfl (lv_at hl 0 rfl) ?_
  refine lv_iconst (v := 1) hx hb dL_law_471 rfl ?_
  refine lv_iadd hx hb dL_law_472 ?_
  refine lw_tov (y := 1) (by decide) ?_
  refine va_sld hx hb hX hbl hbA hS (by unfold vp_in; decide) dL_law_473 ?_
  refine lv_aload_n hx hb dL_law_474 rfl (lv_at hl 3 rfl) ?_
  refine lv_iload_n hx hb dL_law_475 rfl (lv_at hl 0 rfl) ?_
  refine lv_iconst (v := 2) hx hb dL_law_476 rfl ?_
  refine lv_iadd hx hb dL_law_477 ?_
  refine lw_tov (y := 2) (by decide) ?_
  refine va_sld hx hb hX hbl hbA hS (by unfold vp_in; decide) dL_law_478 ?_
  refine lw_call (rest := [.int v]) (vs := [.int (xs (Int32.toNatClampNeg 1)), .int (xs (Int32.toNatClampNeg 2))]) (n1 := 1026) (n2 := 1027) (n3 := 1028) (na := 2) (ci := 5) hx hb hml hown hts hns hK hA hl.1 81 (C := Cm) (ρ := ρm) rm rfl (Nat.le_of_ble_eq_true rfl) rfl rfl rfl (by decide +kernel) (by decide +kernel) (by decide +kernel) rfl (by decide +kernel) ⟨Nat.le_of_ble_eq_true rfl, Nat.le_of_ble_eq_true rfl⟩ (Nat.le_of_ble_eq_true rfl) dL_law_479 hPm hDm hS (fun H1 locs1 hk1 hS => ?_)
  exact lv_icmp_eq (tgt := 734) hx hb dL_law_482 rfl (fun _ => K _ _ hS) (fun hq => absurd rfl hq)
set_option maxHeartbeats 4000000 in
set_option maxRecDepth 100000 in
theorem lw_case_11 {p : Program} {l : Launch} {e : Env} {s : State} {m : MethodId} {below : List Frame} {meth : Method} {c : Code} {D : va_G} {cI cZ : ClassId} {b : Nat} {xs : Nat → Int32} {Q : State → Prop} {ρx ρm : Nat → Nat} {H : Heap} {locs : List Loc} {ls : Array Slot} (hx : p.tables.exec = Jvm.exec) (hb : c.code = code) (hml : c.maxLocals = 4) (hown : s.vm.findClass R_law = some m.cls) (hts : ∀ u ∈ lw_tbl, u.before #[Value.ref b] s = true) (hns : xe_ns xNS s) (hK : va_K D xCLs (xe_ty cI cZ) s) (hX : va_X b 8 xs s s.heap) (hbl : b < s.heap.size) (hPx : va_P D xCLs (xw cI cZ ρx Cx) H) (hPm : va_P D xCLs (xw cI cZ ρm Cm) H) (hDx : va_D (fun q : Nat => s.heap.size ≤ q) (xw cI cZ ρx Cx)) (hDm : va_D (fun q : Nat => s.heap.size ≤ q) (xw cI cZ ρm Cm)) (hDD : va_D (fun q : Nat => s.heap.size ≤ q) (xw cI cZ ρx Cx ++ xw cI cZ ρm Cm)) (hS : va_S (fun q : Nat => s.heap.size ≤ q) s.heap H locs) (hl : lv_has ls 4 [(3, .int 0), (2, .ref (ρm 0)), (1, .ref (ρx 0)), (0, .ref b)])
    (K : ∀ (H1 : Heap) (locs1 : List Loc), va_S (fun q : Nat => s.heap.size ≤ q) s.heap H1 locs1 → W p l e room_1 s m #[Value.ref b] below meth c H1 locs1 80 5836 Q (F0 m 734 ls [])) : W p l e room_1 s m #[Value.ref b] below meth c H locs 80 5836 Q (F0 m 487 ls []) := by
  have hA : ∀ q : Nat, s.heap.size ≤ q → (fun q : Nat => s.heap.size ≤ q) q := fun _ h => h
  have hbA : ¬ (fun q : Nat => s.heap.size ≤ q) b := Nat.not_le.mpr hbl
  obtain ⟨v, rx, rm⟩ := sm_11 (xs (Int32.toNatClampNeg 1)) (xs (Int32.toNatClampNeg 2)) (xs (Int32.toNatClampNeg 3))
  refine lv_aload_n hx hb dL_law_487 rfl (lv_at hl 2 rfl) ?_
  refine lv_aload_n hx hb dL_law_488 rfl (lv_at hl 3 rfl) ?_
  refine lv_iload_n hx hb dL_law_489 rfl (lv_at hl 0 rfl) ?_
  refine lv_iconst (v := 1) hx hb dL_law_490 rfl ?_
  refine lv_iadd hx hb dL_law_491 ?_
  refine lw_tov (y := 1) (by decide) ?_
  refine va_sld hx hb hX hbl hbA hS (by unfold vp_in; decide) dL_law_492 ?_
  refine lv_aload_n hx hb dL_law_493 rfl (lv_at hl 3 rfl) ?_
  refine lv_iload_n hx hb dL_law_494 rfl (lv_at hl 0 rfl) ?_
  refine lv_iconst (v := 2) hx hb dL_law_495 rfl ?_
  refine lv_iadd hx hb dL_law_496 ?_
  refine lw_tov (y := 2) (by decide) ?_
  refine va_sld hx hb hX hbl hbA hS (by unfold vp_in; decide) dL_law_497 ?_
  refine lv_aload_n hx hb dL_law_498 rfl (lv_at hl 3 rfl) ?_
  refine lv_iload_n hx hb dL_law_499 rfl (lv_at hl 0 rfl) ?_
  refine lv_iconst (v := 3) hx hb dL_law_500 rfl ?_
  refine lv_iadd hx hb dL_law_501 ?_
  refine lw_tov (y := 3) (by decide) ?_
  refine va_sld hx hb hX hbl hbA hS (by unfold vp_in; decide) dL_law_502 ?_
  refine lw_call (rest := []) (vs := [.int (xs (Int32.toNatClampNeg 1)), .int (xs (Int32.toNatClampNeg 2)), .int (xs (Int32.toNatClampNeg 3))]) (n1 := 574) (n2 := 575) (n3 := 576) (na := 3) (ci := 4) hx hb hml hown hts hns hK hA hl.1 11 (C := Cx) (ρ := ρx) rx rfl (Nat.le_of_ble_eq_true rfl) rfl rfl rfl (by decide +kernel) (by decide +kernel) (by decide +kernel) rfl (by decide +kernel) ⟨Nat.le_of_ble_eq_true rfl, Nat.le_of_ble_eq_true rfl⟩ (Nat.le_of_ble_eq_true rfl) dL_law_503 hPx hDx hS (fun H1 locs1 hk1 hS => ?_)
  have hPm := lw_keep hDD hPm hk1
  refine lv_aload_n hx hb dL_law_506 rfl (lv_at hl 1 rfl) ?_
  refine lv_aload_n hx hb dL_law_507 rfl (lv_at hl 3 rfl) ?_
  refine lv_iload_n hx hb dL_law_508 rfl (lv_at hl 0 rfl) ?_
  refine lv_iconst (v := 1) hx hb dL_law_509 rfl ?_
  refine lv_iadd hx hb dL_law_510 ?_
  refine lw_tov (y := 1) (by decide) ?_
  refine va_sld hx hb hX hbl hbA hS (by unfold vp_in; decide) dL_law_511 ?_
  refine lv_aload_n hx hb dL_law_512 rfl (lv_at hl 3 rfl) ?_
  refine lv_iload_n hx hb dL_law_513 rfl (lv_at hl 0 rfl) ?_
  refine lv_iconst (v := 2) hx hb dL_law_514 rfl ?_
  refine lv_iadd hx hb dL_law_515 ?_
  refine lw_tov (y := 2) (by decide) ?_
  refine va_sld hx hb hX hbl hbA hS (by unfold vp_in; decide) dL_law_516 ?_
  refine lv_aload_n hx hb dL_law_517 rfl (lv_at hl 3 rfl) ?_
  refine lv_iload_n hx hb dL_law_518 rfl (lv_at hl 0 rfl) ?_
  refine lv_iconst (v := 3) hx hb dL_law_519 rfl ?_
  refine lv_iadd hx hb dL_law_520 ?_
  refine lw_tov (y := 3) (by decide) ?_
  refine va_sld hx hb hX hbl hbA hS (by unfold vp_in; decide) dL_law_521 ?_
  refine lw_call (rest := [.int v]) (vs := [.int (xs (Int32.toNatClampNeg 1)), .int (xs (Int32.toNatClampNeg 2)), .int (xs (Int32.toNatClampNeg 3))]) (n1 := 1030) (n2 := 1031) (n3 := 1032) (na := 3) (ci := 5) hx hb hml hown hts hns hK hA hl.1 82 (C := Cm) (ρ := ρm) rm rfl (Nat.le_of_ble_eq_true rfl) rfl rfl rfl (by decide +kernel) (by decide +kernel) (by decide +kernel) rfl (by decide +kernel) ⟨Nat.le_of_ble_eq_true rfl, Nat.le_of_ble_eq_true rfl⟩ (Nat.le_of_ble_eq_true rfl) dL_law_522 hPm hDm hS (fun H1 locs1 hk1 hS => ?_)
  exact lv_icmp_eq (tgt := 734) hx hb dL_law_525 rfl (fun _ => K _ _ hS) (fun hq => absurd rfl hq)
set_option maxHeartbeats 4000000 in
set_option maxRecDepth 100000 in
theorem lw_case_12 {p : Program} {l : Launch} {e : Env} {s : State} {m : MethodId} {below : List Frame} {meth : Method} {c : Code} {D : va_G} {cI cZ : ClassId} {b : Nat} {xs : Nat → Int32} {Q : State → Prop} {ρx ρm : Nat → Nat} {H : Heap} {locs : List Loc} {ls : Array Slot} (hx : p.tables.exec = Jvm.exec) (hb : c.code = code) (hml : c.maxLocals = 4) (hown : s.vm.findClass R_law = some m.cls) (hts : ∀ u ∈ lw_tbl, u.before #[Value.ref b] s = true) (hns : xe_ns xNS s) (hK : va_K D xCLs (xe_ty cI cZ) s) (hX : va_X b 8 xs s s.heap) (hbl : b < s.heap.size) (hPx : va_P D xCLs (xw cI cZ ρx Cx) H) (hPm : va_P D xCLs (xw cI cZ ρm Cm) H) (hDx : va_D (fun q : Nat => s.heap.size ≤ q) (xw cI cZ ρx Cx)) (hDm : va_D (fun q : Nat => s.heap.size ≤ q) (xw cI cZ ρm Cm)) (hDD : va_D (fun q : Nat => s.heap.size ≤ q) (xw cI cZ ρx Cx ++ xw cI cZ ρm Cm)) (hS : va_S (fun q : Nat => s.heap.size ≤ q) s.heap H locs) (hl : lv_has ls 4 [(3, .int 0), (2, .ref (ρm 0)), (1, .ref (ρx 0)), (0, .ref b)])
    (K : ∀ (H1 : Heap) (locs1 : List Loc), va_S (fun q : Nat => s.heap.size ≤ q) s.heap H1 locs1 → W p l e room_1 s m #[Value.ref b] below meth c H1 locs1 80 5836 Q (F0 m 734 ls [])) : W p l e room_1 s m #[Value.ref b] below meth c H locs 80 5836 Q (F0 m 530 ls []) := by
  have hA : ∀ q : Nat, s.heap.size ≤ q → (fun q : Nat => s.heap.size ≤ q) q := fun _ h => h
  have hbA : ¬ (fun q : Nat => s.heap.size ≤ q) b := Nat.not_le.mpr hbl
  obtain ⟨v, rx, rm⟩ := sm_12 (xs (Int32.toNatClampNeg 1)) (xs (Int32.toNatClampNeg 2)) (xs (Int32.toNatClampNeg 3))
  refine lv_aload_n hx hb dL_law_530 rfl (lv_at hl 2 rfl) ?_
  refine lv_aload_n hx hb dL_law_531 rfl (lv_at hl 3 rfl) ?_
  refine lv_iload_n hx hb dL_law_532 rfl (lv_at hl 0 rfl) ?_
  refine lv_iconst (v := 1) hx hb dL_law_533 rfl ?_
  refine lv_iadd hx hb dL_law_534 ?_
  refine lw_tov (y := 1) (by decide) ?_
  refine va_sld hx hb hX hbl hbA hS (by unfold vp_in; decide) dL_law_535 ?_
  refine lv_aload_n hx hb dL_law_536 rfl (lv_at hl 3 rfl) ?_
  refine lv_iload_n hx hb dL_law_537 rfl (lv_at hl 0 rfl) ?_
  refine lv_iconst (v := 2) hx hb dL_law_538 rfl ?_
  refine lv_iadd hx hb dL_law_539 ?_
  refine lw_tov (y := 2) (by decide) ?_
  refine va_sld hx hb hX hbl hbA hS (by unfold vp_in; decide) dL_law_540 ?_
  refine lv_aload_n hx hb dL_law_541 rfl (lv_at hl 3 rfl) ?_
  refine lv_iload_n hx hb dL_law_542 rfl (lv_at hl 0 rfl) ?_
  refine lv_iconst (v := 3) hx hb dL_law_543 rfl ?_
  refine lv_iadd hx hb dL_law_544 ?_
  refine lw_tov (y := 3) (by decide) ?_
  refine va_sld hx hb hX hbl hbA hS (by unfold vp_in; decide) dL_law_545 ?_
  refine lw_call (rest := []) (vs := [.int (xs (Int32.toNatClampNeg 1)), .int (xs (Int32.toNatClampNeg 2)), .int (xs (Int32.toNatClampNeg 3))]) (n1 := 582) (n2 := 583) (n3 := 584) (na := 3) (ci := 4) hx hb hml hown hts hns hK hA hl.1 12 (C := Cx) (ρ := ρx) rx rfl (Nat.le_of_ble_eq_true rfl) rfl rfl rfl (by decide +kernel) (by decide +kernel) (by decide +kernel) rfl (by decide +kernel) ⟨Nat.le_of_ble_eq_true rfl, Nat.le_of_ble_eq_true rfl⟩ (Nat.le_of_ble_eq_true rfl) dL_law_546 hPx hDx hS (fun H1 locs1 hk1 hS => ?_)
  have hPm := lw_keep hDD hPm hk1
  refine lv_aload_n hx hb dL_law_549 rfl (lv_at hl 1 rfl) ?_
  refine lv_aload_n hx hb dL_law_550 rfl (lv_at hl 3 rfl) ?_
  refine lv_iload_n hx hb dL_law_551 rfl (lv_at hl 0 rfl) ?_
  refine lv_iconst (v := 1) hx hb dL_law_552 rfl ?_
  refine lv_iadd hx hb dL_law_553 ?_
  refine lw_tov (y := 1) (by decide) ?_
  refine va_sld hx hb hX hbl hbA hS (by unfold vp_in; decide) dL_law_554 ?_
  refine lv_aload_n hx hb dL_law_555 rfl (lv_at hl 3 rfl) ?_
  refine lv_iload_n hx hb dL_law_556 rfl (lv_at hl 0 rfl) ?_
  refine lv_iconst (v := 2) hx hb dL_law_557 rfl ?_
  refine lv_iadd hx hb dL_law_558 ?_
  refine lw_tov (y := 2) (by decide) ?_
  refine va_sld hx hb hX hbl hbA hS (by unfold vp_in; decide) dL_law_559 ?_
  refine lv_aload_n hx hb dL_law_560 rfl (lv_at hl 3 rfl) ?_
  refine lv_iload_n hx hb dL_law_561 rfl (lv_at hl 0 rfl) ?_
  refine lv_iconst (v := 3) hx hb dL_law_562 rfl ?_
  refine lv_iadd hx hb dL_law_563 ?_
  refine lw_tov (y := 3) (by decide) ?_
  refine va_sld hx hb hX hbl hbA hS (by unfold vp_in; decide) dL_law_564 ?_
  refine lw_call (rest := [.int v]) (vs := [.int (xs (Int32.toNatClampNeg 1)), .int (xs (Int32.toNatClampNeg 2)), .int (xs (Int32.toNatClampNeg 3))]) (n1 := 967) (n2 := 968) (n3 := 969) (na := 3) (ci := 5) hx hb hml hown hts hns hK hA hl.1 71 (C := Cm) (ρ := ρm) rm rfl (Nat.le_of_ble_eq_true rfl) rfl rfl rfl (by decide +kernel) (by decide +kernel) (by decide +kernel) rfl (by decide +kernel) ⟨Nat.le_of_ble_eq_true rfl, Nat.le_of_ble_eq_true rfl⟩ (Nat.le_of_ble_eq_true rfl) dL_law_565 hPm hDm hS (fun H1 locs1 hk1 hS => ?_)
  exact lv_icmp_eq (tgt := 734) hx hb dL_law_568 rfl (fun _ => K _ _ hS) (fun hq => absurd rfl hq)
set_option maxHeartbeats 4000000 in
set_option maxRecDepth 100000 in
theorem lw_case_13 {p : Program} {l : Launch} {e : Env} {s : State} {m : MethodId} {below : List Frame} {meth : Method} {c : Code} {D : va_G} {cI cZ : ClassId} {b : Nat} {xs : Nat → Int32} {Q : State → Prop} {ρx ρm : Nat → Nat} {H : Heap} {locs : List Loc} {ls : Array Slot} (hx : p.tables.exec = Jvm.exec) (hb : c.code = code) (hml : c.maxLocals = 4) (hown : s.vm.findClass R_law = some m.cls) (hts : ∀ u ∈ lw_tbl, u.before #[Value.ref b] s = true) (hns : xe_ns xNS s) (hK : va_K D xCLs (xe_ty cI cZ) s) (hX : va_X b 8 xs s s.heap) (hbl : b < s.heap.size) (hPx : va_P D xCLs (xw cI cZ ρx Cx) H) (hPm : va_P D xCLs (xw cI cZ ρm Cm) H) (hDx : va_D (fun q : Nat => s.heap.size ≤ q) (xw cI cZ ρx Cx)) (hDm : va_D (fun q : Nat => s.heap.size ≤ q) (xw cI cZ ρm Cm)) (hDD : va_D (fun q : Nat => s.heap.size ≤ q) (xw cI cZ ρx Cx ++ xw cI cZ ρm Cm)) (hS : va_S (fun q : Nat => s.heap.size ≤ q) s.heap H locs) (hl : lv_has ls 4 [(3, .int 0), (2, .ref (ρm 0)), (1, .ref (ρx 0)), (0, .ref b)])
    (K : ∀ (H1 : Heap) (locs1 : List Loc), va_S (fun q : Nat => s.heap.size ≤ q) s.heap H1 locs1 → W p l e room_1 s m #[Value.ref b] below meth c H1 locs1 80 5836 Q (F0 m 734 ls [])) : W p l e room_1 s m #[Value.ref b] below meth c H locs 80 5836 Q (F0 m 573 ls []) := by
  have hA : ∀ q : Nat, s.heap.size ≤ q → (fun q : Nat => s.heap.size ≤ q) q := fun _ h => h
  have hbA : ¬ (fun q : Nat => s.heap.size ≤ q) b := Nat.not_le.mpr hbl
  obtain ⟨v, rx, rm⟩ := sm_13 (xs (Int32.toNatClampNeg 1))
  refine lv_aload_n hx hb dL_law_573 rfl (lv_at hl 2 rfl) ?_
  refine lv_aload_n hx hb dL_law_574 rfl (lv_at hl 3 rfl) ?_
  refine lv_iload_n hx hb dL_law_575 rfl (lv_at hl 0 rfl) ?_
  refine lv_iconst (v := 1) hx hb dL_law_576 rfl ?_
  refine lv_iadd hx hb dL_law_577 ?_
  refine lw_tov (y := 1) (by decide) ?_
  refine va_sld hx hb hX hbl hbA hS (by unfold vp_in; decide) dL_law_578 ?_
  refine lw_call (rest := []) (vs := [.int (xs (Int32.toNatClampNeg 1))]) (n1 := 595) (n2 := 596) (n3 := 597) (na := 1) (ci := 4) hx hb hml hown hts hns hK hA hl.1 13 (C := Cx) (ρ := ρx) rx rfl (Nat.le_of_ble_eq_true rfl) rfl rfl rfl (by decide +kernel) (by decide +kernel) (by decide +kernel) rfl (by decide +kernel) ⟨Nat.le_of_ble_eq_true rfl, Nat.le_of_ble_eq_true rfl⟩ (Nat.le_of_ble_eq_true rfl) dL_law_579 hPx hDx hS (fun H1 locs1 hk1 hS => ?_)
  have hPm := lw_keep hDD hPm hk1
  refine lv_aload_n hx hb dL_law_582 rfl (lv_at hl 1 rfl) ?_
  refine lv_aload_n hx hb dL_law_583 rfl (lv_at hl 3 rfl) ?_
  refine lv_iload_n hx hb dL_law_584 rfl (lv_at hl 0 rfl) ?_
  refine lv_iconst (v := 1) hx hb dL_law_585 rfl ?_
  refine lv_iadd hx hb dL_law_586 ?_
  refine lw_tov (y := 1) (by decide) ?_
  refine va_sld hx hb hX hbl hbA hS (by unfold vp_in; decide) dL_law_587 ?_
  refine lw_call (rest := [.int v]) (vs := [.int (xs (Int32.toNatClampNeg 1))]) (n1 := 1034) (n2 := 1035) (n3 := 1036) (na := 1) (ci := 5) hx hb hml hown hts hns hK hA hl.1 83 (C := Cm) (ρ := ρm) rm rfl (Nat.le_of_ble_eq_true rfl) rfl rfl rfl (by decide +kernel) (by decide +kernel) (by decide +kernel) rfl (by decide +kernel) ⟨Nat.le_of_ble_eq_true rfl, Nat.le_of_ble_eq_true rfl⟩ (Nat.le_of_ble_eq_true rfl) dL_law_588 hPm hDm hS (fun H1 locs1 hk1 hS => ?_)
  exact lv_icmp_eq (tgt := 734) hx hb dL_law_591 rfl (fun _ => K _ _ hS) (fun hq => absurd rfl hq)
set_option maxHeartbeats 4000000 in
set_option maxRecDepth 100000 in
theorem lw_case_14 {p : Program} {l : Launch} {e : Env} {s : State} {m : MethodId} {below : List Frame} {meth : Method} {c : Code} {D : va_G} {cI cZ : ClassId} {b : Nat} {xs : Nat → Int32} {Q : State → Prop} {ρx ρm : Nat → Nat} {H : Heap} {locs : List Loc} {ls : Array Slot} (hx : p.tables.exec = Jvm.exec) (hb : c.code = code) (hml : c.maxLocals = 4) (hown : s.vm.findClass R_law = some m.cls) (hts : ∀ u ∈ lw_tbl, u.before #[Value.ref b] s = true) (hns : xe_ns xNS s) (hK : va_K D xCLs (xe_ty cI cZ) s) (hX : va_X b 8 xs s s.heap) (hbl : b < s.heap.size) (hPx : va_P D xCLs (xw cI cZ ρx Cx) H) (hPm : va_P D xCLs (xw cI cZ ρm Cm) H) (hDx : va_D (fun q : Nat => s.heap.size ≤ q) (xw cI cZ ρx Cx)) (hDm : va_D (fun q : Nat => s.heap.size ≤ q) (xw cI cZ ρm Cm)) (hDD : va_D (fun q : Nat => s.heap.size ≤ q) (xw cI cZ ρx Cx ++ xw cI cZ ρm Cm)) (hS : va_S (fun q : Nat => s.heap.size ≤ q) s.heap H locs) (hl : lv_has ls 4 [(3, .int 0), (2, .ref (ρm 0)), (1, .ref (ρx 0)), (0, .ref b)])
    (K : ∀ (H1 : Heap) (locs1 : List Loc), va_S (fun q : Nat => s.heap.size ≤ q) s.heap H1 locs1 → W p l e room_1 s m #[Value.ref b] below meth c H1 locs1 80 5836 Q (F0 m 734 ls [])) : W p l e room_1 s m #[Value.ref b] below meth c H locs 80 5836 Q (F0 m 596 ls []) := by
  have hA : ∀ q : Nat, s.heap.size ≤ q → (fun q : Nat => s.heap.size ≤ q) q := fun _ h => h
  have hbA : ¬ (fun q : Nat => s.heap.size ≤ q) b := Nat.not_le.mpr hbl
  obtain ⟨v, rx, rm⟩ := sm_14 (xs (Int32.toNatClampNeg 1))
  refine lv_aload_n hx hb dL_law_596 rfl (lv_at hl 2 rfl) ?_
  refine lv_aload_n hx hb dL_law_597 rfl (lv_at hl 3 rfl) ?_
  refine lv_iload_n hx hb dL_law_598 rfl (lv_at hl 0 rfl) ?_
  refine lv_iconst (v := 1) hx hb dL_law_599 rfl ?_
  refine lv_iadd hx hb dL_law_600 ?_
  refine lw_tov (y := 1) (by decide) ?_
  refine va_sld hx hb hX hbl hbA hS (by unfold vp_in; decide) dL_law_601 ?_
  refine lw_call (rest := []) (vs := [.int (xs (Int32.toNatClampNeg 1))]) (n1 := 611) (n2 := 612) (n3 := 613) (na := 1) (ci := 4) hx hb hml hown hts hns hK hA hl.1 14 (C := Cx) (ρ := ρx) rx rfl (Nat.le_of_ble_eq_true rfl) rfl rfl rfl (by decide +kernel) (by decide +kernel) (by decide +kernel) rfl (by decide +kernel) ⟨Nat.le_of_ble_eq_true rfl, Nat.le_of_ble_eq_true rfl⟩ (Nat.le_of_ble_eq_true rfl) dL_law_602 hPx hDx hS (fun H1 locs1 hk1 hS => ?_)
  have hPm := lw_keep hDD hPm hk1
  refine lv_aload_n hx hb dL_law_605 rfl (lv_at hl 1 rfl) ?_
  refine lv_aload_n hx hb dL_law_606 rfl (lv_at hl 3 rfl) ?_
  refine lv_iload_n hx hb dL_law_607 rfl (lv_at hl 0 rfl) ?_
  refine lv_iconst (v := 1) hx hb dL_law_608 rfl ?_
  refine lv_iadd hx hb dL_law_609 ?_
  refine lw_tov (y := 1) (by decide) ?_
  refine va_sld hx hb hX hbl hbA hS (by unfold vp_in; decide) dL_law_610 ?_
  refine lw_call (rest := [.int v]) (vs := [.int (xs (Int32.toNatClampNeg 1))]) (n1 := 1042) (n2 := 1043) (n3 := 1044) (na := 1) (ci := 5) hx hb hml hown hts hns hK hA hl.1 84 (C := Cm) (ρ := ρm) rm rfl (Nat.le_of_ble_eq_true rfl) rfl rfl rfl (by decide +kernel) (by decide +kernel) (by decide +kernel) rfl (by decide +kernel) ⟨Nat.le_of_ble_eq_true rfl, Nat.le_of_ble_eq_true rfl⟩ (Nat.le_of_ble_eq_true rfl) dL_law_611 hPm hDm hS (fun H1 locs1 hk1 hS => ?_)
  exact lv_icmp_eq (tgt := 734) hx hb dL_law_614 rfl (fun _ => K _ _ hS) (fun hq => absurd rfl hq)
set_option maxHeartbeats 4000000 in
set_option maxRecDepth 100000 in
theorem lw_case_15 {p : Program} {l : Launch} {e : Env} {s : State} {m : MethodId} {below : List Frame} {meth : Method} {c : Code} {D : va_G} {cI cZ : ClassId} {b : Nat} {xs : Nat → Int32} {Q : State → Prop} {ρx ρm : Nat → Nat} {H : Heap} {locs : List Loc} {ls : Array Slot} (hx : p.tables.exec = Jvm.exec) (hb : c.code = code) (hml : c.maxLocals = 4) (hown : s.vm.findClass R_law = some m.cls) (hts : ∀ u ∈ lw_tbl, u.before #[Value.ref b] s = true) (hns : xe_ns xNS s) (hK : va_K D xCLs (xe_ty cI cZ) s) (hX : va_X b 8 xs s s.heap) (hbl : b < s.heap.size) (hPx : va_P D xCLs (xw cI cZ ρx Cx) H) (hPm : va_P D xCLs (xw cI cZ ρm Cm) H) (hDx : va_D (fun q : Nat => s.heap.size ≤ q) (xw cI cZ ρx Cx)) (hDm : va_D (fun q : Nat => s.heap.size ≤ q) (xw cI cZ ρm Cm)) (hDD : va_D (fun q : Nat => s.heap.size ≤ q) (xw cI cZ ρx Cx ++ xw cI cZ ρm Cm)) (hS : va_S (fun q : Nat => s.heap.size ≤ q) s.heap H locs) (hl : lv_has ls 4 [(3, .int 0), (2, .ref (ρm 0)), (1, .ref (ρx 0)), (0, .ref b)])
    (K : ∀ (H1 : Heap) (locs1 : List Loc), va_S (fun q : Nat => s.heap.size ≤ q) s.heap H1 locs1 → W p l e room_1 s m #[Value.ref b] below meth c H1 locs1 80 5836 Q (F0 m 734 ls [])) : W p l e room_1 s m #[Value.ref b] below meth c H locs 80 5836 Q (F0 m 619 ls []) := by
  have hA : ∀ q : Nat, s.heap.size ≤ q → (fun q : Nat => s.heap.size ≤ q) q := fun _ h => h
  have hbA : ¬ (fun q : Nat => s.heap.size ≤ q) b := Nat.not_le.mpr hbl
  obtain ⟨v, rx, rm⟩ := sm_15 (xs (Int32.toNatClampNeg 1)) (xs (Int32.toNatClampNeg 2))
  refine lv_aload_n hx hb dL_law_619 rfl (lv_at hl 2 rfl) ?_
  refine lv_aload_n hx hb dL_law_620 rfl (lv_at hl 3 rfl) ?_
  refine lv_iload_n hx hb dL_law_621 rfl (lv_at hl 0 rfl) ?_
  refine lv_iconst (v := 1) hx hb dL_law_622 rfl ?_
  refine lv_iadd hx hb dL_law_623 ?_
  refine lw_tov (y := 1) (by decide) ?_
  refine va_sld hx hb hX hbl hbA hS (by unfold vp_in; decide) dL_law_624 ?_
  refine lv_aload_n hx hb dL_law_625 rfl (lv_at hl 3 rfl) ?_
  refine lv_iload_n hx hb dL_law_626 rfl (lv_at hl 0 rfl) ?_
  refine lv_iconst (v := 2) hx hb dL_law_627 rfl ?_
  refine lv_iadd hx hb dL_law_628 ?_
  refine lw_tov (y := 2) (by decide) ?_
  refine va_sld hx hb hX hbl hbA hS (by unfold vp_in; decide) dL_law_629 ?_
  refine lw_call (rest := []) (vs := [.int (xs (Int32.toNatClampNeg 1)), .int (xs (Int32.toNatClampNeg 2))]) (n1 := 615) (n2 := 616) (n3 := 617) (na := 2) (ci := 4) hx hb hml hown hts hns hK hA hl.1 15 (C := Cx) (ρ := ρx) rx rfl (Nat.le_of_ble_eq_true rfl) rfl rfl rfl (by decide +kernel) (by decide +kernel) (by decide +kernel) rfl (by decide +kernel) ⟨Nat.le_of_ble_eq_true rfl, Nat.le_of_ble_eq_true rfl⟩ (Nat.le_of_ble_eq_true rfl) dL_law_630 hPx hDx hS (fun H1 locs1 hk1 hS => ?_)
  have hPm := lw_keep hDD hPm hk1
  refine lv_aload_n hx hb dL_law_633 rfl (lv_at hl 1 rfl) ?_
  refine lv_aload_n hx hb dL_law_634 rfl (lv_at hl 3 rfl) ?_
  refine lv_iload_n hx hb dL_law_635 rfl (lv_at hl 0 rfl) ?_
  refine lv_iconst (v := 1) hx hb dL_law_636 rfl ?_
  refine lv_iadd hx hb dL_law_637 ?_
  refine lw_tov (y := 1) (by decide) ?_
  refine va_sld hx hb hX hbl hbA hS (by unfold vp_in; decide) dL_law_638 ?_
  refine lv_aload_n hx hb dL_law_639 rfl (lv_at hl 3 rfl) ?_
  refine lv_iload_n hx hb dL_law_640 rfl (lv_at hl 0 rfl) ?_
  refine lv_iconst (v := 2) hx hb dL_law_641 rfl ?_
  refine lv_iadd hx hb dL_law_642 ?_
  refine lw_tov (y := 2) (by decide) ?_
  refine va_sld hx hb hX hbl hbA hS (by unfold vp_in; decide) dL_law_643 ?_
  refine lw_call (rest := [.int v]) (vs := [.int (xs (Int32.toNatClampNeg 1)), .int (xs (Int32.toNatClampNeg 2))]) (n1 := 1046) (n2 := 1047) (n3 := 1048) (na := 2) (ci := 5) hx hb hml hown hts hns hK hA hl.1 85 (C := Cm) (ρ := ρm) rm rfl (Nat.le_of_ble_eq_true rfl) rfl rfl rfl (by decide +kernel) (by decide +kernel) (by decide +kernel) rfl (by decide +kernel) ⟨Nat.le_of_ble_eq_true rfl, Nat.le_of_ble_eq_true rfl⟩ (Nat.le_of_ble_eq_true rfl) dL_law_644 hPm hDm hS (fun H1 locs1 hk1 hS => ?_)
  exact lv_icmp_eq (tgt := 734) hx hb dL_law_647 rfl (fun _ => K _ _ hS) (fun hq => absurd rfl hq)
set_option maxHeartbeats 4000000 in
set_option maxRecDepth 100000 in
theorem lw_case_16 {p : Program} {l : Launch} {e : Env} {s : State} {m : MethodId} {below : List Frame} {meth : Method} {c : Code} {D : va_G} {cI cZ : ClassId} {b : Nat} {xs : Nat → Int32} {Q : State → Prop} {ρx ρm : Nat → Nat} {H : Heap} {locs : List Loc} {ls : Array Slot} (hx : p.tables.exec = Jvm.exec) (hb : c.code = code) (hml : c.maxLocals = 4) (hown : s.vm.findClass R_law = some m.cls) (hts : ∀ u ∈ lw_tbl, u.before #[Value.ref b] s = true) (hns : xe_ns xNS s) (hK : va_K D xCLs (xe_ty cI cZ) s) (hX : va_X b 8 xs s s.heap) (hbl : b < s.heap.size) (hPx : va_P D xCLs (xw cI cZ ρx Cx) H) (hPm : va_P D xCLs (xw cI cZ ρm Cm) H) (hDx : va_D (fun q : Nat => s.heap.size ≤ q) (xw cI cZ ρx Cx)) (hDm : va_D (fun q : Nat => s.heap.size ≤ q) (xw cI cZ ρm Cm)) (hDD : va_D (fun q : Nat => s.heap.size ≤ q) (xw cI cZ ρx Cx ++ xw cI cZ ρm Cm)) (hS : va_S (fun q : Nat => s.heap.size ≤ q) s.heap H locs) (hl : lv_has ls 4 [(3, .int 0), (2, .ref (ρm 0)), (1, .ref (ρx 0)), (0, .ref b)])
    (K : ∀ (H1 : Heap) (locs1 : List Loc), va_S (fun q : Nat => s.heap.size ≤ q) s.heap H1 locs1 → W p l e room_1 s m #[Value.ref b] below meth c H1 locs1 80 5836 Q (F0 m 734 ls [])) : W p l e room_1 s m #[Value.ref b] below meth c H locs 80 5836 Q (F0 m 652 ls []) := by
  have hA : ∀ q : Nat, s.heap.size ≤ q → (fun q : Nat => s.heap.size ≤ q) q := fun _ h => h
  have hbA : ¬ (fun q : Nat => s.heap.size ≤ q) b := Nat.not_le.mpr hbl
  obtain ⟨v, rx, rm⟩ := sm_16
  refine lv_aload_n hx hb dL_law_652 rfl (lv_at hl 2 rfl) ?_
  refine lw_call (rest := []) (vs := []) (n1 := 619) (n2 := 620) (n3 := 621) (na := 0) (ci := 4) hx hb hml hown hts hns hK hA hl.1 16 (C := Cx) (ρ := ρx) rx rfl (Nat.le_of_ble_eq_true rfl) rfl rfl rfl (by decide +kernel) (by decide +kernel) (by decide +kernel) rfl (by decide +kernel) ⟨Nat.le_of_ble_eq_true rfl, Nat.le_of_ble_eq_true rfl⟩ (Nat.le_of_ble_eq_true rfl) dL_law_653 hPx hDx hS (fun H1 locs1 hk1 hS => ?_)
  have hPm := lw_keep hDD hPm hk1
  refine lv_aload_n hx hb dL_law_656 rfl (lv_at hl 1 rfl) ?_
  refine lw_call (rest := [.int v]) (vs := []) (n1 := 1050) (n2 := 1051) (n3 := 1052) (na := 0) (ci := 5) hx hb hml hown hts hns hK hA hl.1 86 (C := Cm) (ρ := ρm) rm rfl (Nat.le_of_ble_eq_true rfl) rfl rfl rfl (by decide +kernel) (by decide +kernel) (by decide +kernel) rfl (by decide +kernel) ⟨Nat.le_of_ble_eq_true rfl, Nat.le_of_ble_eq_true rfl⟩ (Nat.le_of_ble_eq_true rfl) dL_law_657 hPm hDm hS (fun H1 locs1 hk1 hS => ?_)
  exact lv_icmp_eq (tgt := 734) hx hb dL_law_660 rfl (fun _ => K _ _ hS) (fun hq => absurd rfl hq)
set_option maxHeartbeats 4000000 in
set_option maxRecDepth 100000 in
theorem lw_case_17 {p : Program} {l : Launch} {e : Env} {s : State} {m : MethodId} {below : List Frame} {meth : Method} {c : Code} {D : va_G} {cI cZ : ClassId} {b : Nat} {xs : Nat → Int32} {Q : State → Prop} {ρx ρm : Nat → Nat} {H : Heap} {locs : List Loc} {ls : Array Slot} (hx : p.tables.exec = Jvm.exec) (hb : c.code = code) (hml : c.maxLocals = 4) (hown : s.vm.findClass R_law = some m.cls) (hts : ∀ u ∈ lw_tbl, u.before #[Value.ref b] s = true) (hns : xe_ns xNS s) (hK : va_K D xCLs (xe_ty cI cZ) s) (hX : va_X b 8 xs s s.heap) (hbl : b < s.heap.size) (hPx : va_P D xCLs (xw cI cZ ρx Cx) H) (hPm : va_P D xCLs (xw cI cZ ρm Cm) H) (hDx : va_D (fun q : Nat => s.heap.size ≤ q) (xw cI cZ ρx Cx)) (hDm : va_D (fun q : Nat => s.heap.size ≤ q) (xw cI cZ ρm Cm)) (hDD : va_D (fun q : Nat => s.heap.size ≤ q) (xw cI cZ ρx Cx ++ xw cI cZ ρm Cm)) (hS : va_S (fun q : Nat => s.heap.size ≤ q) s.heap H locs) (hl : lv_has ls 4 [(3, .int 0), (2, .ref (ρm 0)), (1, .ref (ρx 0)), (0, .ref b)])
    (K : ∀ (H1 : Heap) (locs1 : List Loc), va_S (fun q : Nat => s.heap.size ≤ q) s.heap H1 locs1 → W p l e room_1 s m #[Value.ref b] below meth c H1 locs1 80 5836 Q (F0 m 734 ls [])) : W p l e room_1 s m #[Value.ref b] below meth c H locs 80 5836 Q (F0 m 665 ls []) := by
  have hA : ∀ q : Nat, s.heap.size ≤ q → (fun q : Nat => s.heap.size ≤ q) q := fun _ h => h
  have hbA : ¬ (fun q : Nat => s.heap.size ≤ q) b := Nat.not_le.mpr hbl
  obtain ⟨v, rx, rm⟩ := sm_17 (xs (Int32.toNatClampNeg 1)) (xs (Int32.toNatClampNeg 2))
  refine lv_aload_n hx hb dL_law_665 rfl (lv_at hl 2 rfl) ?_
  refine lv_aload_n hx hb dL_law_666 rfl (lv_at hl 3 rfl) ?_
  refine lv_iload_n hx hb dL_law_667 rfl (lv_at hl 0 rfl) ?_
  refine lv_iconst (v := 1) hx hb dL_law_668 rfl ?_
  refine lv_iadd hx hb dL_law_669 ?_
  refine lw_tov (y := 1) (by decide) ?_
  refine va_sld hx hb hX hbl hbA hS (by unfold vp_in; decide) dL_law_670 ?_
  refine lv_aload_n hx hb dL_law_671 rfl (lv_at hl 3 rfl) ?_
  refine lv_iload_n hx hb dL_law_672 rfl (lv_at hl 0 rfl) ?_
  refine lv_iconst (v := 2) hx hb dL_law_673 rfl ?_
  refine lv_iadd hx hb dL_law_674 ?_
  refine lw_tov (y := 2) (by decide) ?_
  refine va_sld hx hb hX hbl hbA hS (by unfold vp_in; decide) dL_law_675 ?_
  refine lw_call (rest := []) (vs := [.int (xs (Int32.toNatClampNeg 1)), .int (xs (Int32.toNatClampNeg 2))]) (n1 := 677) (n2 := 678) (n3 := 679) (na := 2) (ci := 4) hx hb hml hown hts hns hK hA hl.1 17 (C := Cx) (ρ := ρx) rx rfl (Nat.le_of_ble_eq_true rfl) rfl rfl rfl (by decide +kernel) (by decide +kernel) (by decide +kernel) rfl (by decide +kernel) ⟨Nat.le_of_ble_eq_true rfl, Nat.le_of_ble_eq_true rfl⟩ (Nat.le_of_ble_eq_true rfl) dL_law_676 hPx hDx hS (fun H1 locs1 hk1 hS => ?_)
  have hPm := lw_keep hDD hPm hk1
  refine lv_aload_n hx hb dL_law_679 rfl (lv_at hl 1 rfl) ?_
  refine lv_aload_n hx hb dL_law_680 rfl (lv_at hl 3 rfl) ?_
  refine lv_iload_n hx hb dL_law_681 rfl (lv_at hl 0 rfl) ?_
  refine lv_iconst (v := 1) hx hb dL_law_682 rfl ?_
  refine lv_iadd hx hb dL_law_683 ?_
  refine lw_tov (y := 1) (by decide) ?_
  refine va_sld hx hb hX hbl hbA hS (by unfold vp_in; decide) dL_law_684 ?_
  refine lv_aload_n hx hb dL_law_685 rfl (lv_at hl 3 rfl) ?_
  refine lv_iload_n hx hb dL_law_686 rfl (lv_at hl 0 rfl) ?_
  refine lv_iconst (v := 2) hx hb dL_law_687 rfl ?_
  refine lv_iadd hx hb dL_law_688 ?_
  refine lw_tov (y := 2) (by decide) ?_
  refine va_sld hx hb hX hbl hbA hS (by unfold vp_in; decide) dL_law_689 ?_
  refine lw_call (rest := [.int v]) (vs := [.int (xs (Int32.toNatClampNeg 1)), .int (xs (Int32.toNatClampNeg 2))]) (n1 := 1075) (n2 := 1076) (n3 := 1077) (na := 2) (ci := 5) hx hb hml hown hts hns hK hA hl.1 87 (C := Cm) (ρ := ρm) rm rfl (Nat.le_of_ble_eq_true rfl) rfl rfl rfl (by decide +kernel) (by decide +kernel) (by decide +kernel) rfl (by decide +kernel) ⟨Nat.le_of_ble_eq_true rfl, Nat.le_of_ble_eq_true rfl⟩ (Nat.le_of_ble_eq_true rfl) dL_law_690 hPm hDm hS (fun H1 locs1 hk1 hS => ?_)
  exact lv_icmp_eq (tgt := 734) hx hb dL_law_693 rfl (fun _ => K _ _ hS) (fun hq => absurd rfl hq)
set_option maxHeartbeats 4000000 in
set_option maxRecDepth 100000 in
theorem lw_case_18 {p : Program} {l : Launch} {e : Env} {s : State} {m : MethodId} {below : List Frame} {meth : Method} {c : Code} {D : va_G} {cI cZ : ClassId} {b : Nat} {xs : Nat → Int32} {Q : State → Prop} {ρx ρm : Nat → Nat} {H : Heap} {locs : List Loc} {ls : Array Slot} (hx : p.tables.exec = Jvm.exec) (hb : c.code = code) (hml : c.maxLocals = 4) (hown : s.vm.findClass R_law = some m.cls) (hts : ∀ u ∈ lw_tbl, u.before #[Value.ref b] s = true) (hns : xe_ns xNS s) (hK : va_K D xCLs (xe_ty cI cZ) s) (hX : va_X b 8 xs s s.heap) (hbl : b < s.heap.size) (hPx : va_P D xCLs (xw cI cZ ρx Cx) H) (hPm : va_P D xCLs (xw cI cZ ρm Cm) H) (hDx : va_D (fun q : Nat => s.heap.size ≤ q) (xw cI cZ ρx Cx)) (hDm : va_D (fun q : Nat => s.heap.size ≤ q) (xw cI cZ ρm Cm)) (hDD : va_D (fun q : Nat => s.heap.size ≤ q) (xw cI cZ ρx Cx ++ xw cI cZ ρm Cm)) (hS : va_S (fun q : Nat => s.heap.size ≤ q) s.heap H locs) (hl : lv_has ls 4 [(3, .int 0), (2, .ref (ρm 0)), (1, .ref (ρx 0)), (0, .ref b)])
    (K : ∀ (H1 : Heap) (locs1 : List Loc), va_S (fun q : Nat => s.heap.size ≤ q) s.heap H1 locs1 → W p l e room_1 s m #[Value.ref b] below meth c H1 locs1 80 5836 Q (F0 m 734 ls [])) : W p l e room_1 s m #[Value.ref b] below meth c H locs 80 5836 Q (F0 m 698 ls []) := by
  have hA : ∀ q : Nat, s.heap.size ≤ q → (fun q : Nat => s.heap.size ≤ q) q := fun _ h => h
  have hbA : ¬ (fun q : Nat => s.heap.size ≤ q) b := Nat.not_le.mpr hbl
  obtain ⟨v, rx, rm⟩ := sm_18
  refine lv_aload_n hx hb dL_law_698 rfl (lv_at hl 2 rfl) ?_
  refine lw_call (rest := []) (vs := []) (n1 := 681) (n2 := 682) (n3 := 683) (na := 0) (ci := 4) hx hb hml hown hts hns hK hA hl.1 18 (C := Cx) (ρ := ρx) rx rfl (Nat.le_of_ble_eq_true rfl) rfl rfl rfl (by decide +kernel) (by decide +kernel) (by decide +kernel) rfl (by decide +kernel) ⟨Nat.le_of_ble_eq_true rfl, Nat.le_of_ble_eq_true rfl⟩ (Nat.le_of_ble_eq_true rfl) dL_law_699 hPx hDx hS (fun H1 locs1 hk1 hS => ?_)
  have hPm := lw_keep hDD hPm hk1
  refine lv_aload_n hx hb dL_law_702 rfl (lv_at hl 1 rfl) ?_
  refine lw_call (rest := [.int v]) (vs := []) (n1 := 1079) (n2 := 1080) (n3 := 1081) (na := 0) (ci := 5) hx hb hml hown hts hns hK hA hl.1 88 (C := Cm) (ρ := ρm) rm rfl (Nat.le_of_ble_eq_true rfl) rfl rfl rfl (by decide +kernel) (by decide +kernel) (by decide +kernel) rfl (by decide +kernel) ⟨Nat.le_of_ble_eq_true rfl, Nat.le_of_ble_eq_true rfl⟩ (Nat.le_of_ble_eq_true rfl) dL_law_703 hPm hDm hS (fun H1 locs1 hk1 hS => ?_)
  exact lv_icmp_eq (tgt := 734) hx hb dL_law_706 rfl (fun _ => K _ _ hS) (fun hq => absurd rfl hq)
set_option maxHeartbeats 4000000 in
set_option maxRecDepth 100000 in
theorem lw_case_19 {p : Program} {l : Launch} {e : Env} {s : State} {m : MethodId} {below : List Frame} {meth : Method} {c : Code} {D : va_G} {cI cZ : ClassId} {b : Nat} {xs : Nat → Int32} {Q : State → Prop} {ρx ρm : Nat → Nat} {H : Heap} {locs : List Loc} {ls : Array Slot} (hx : p.tables.exec = Jvm.exec) (hb : c.code = code) (hml : c.maxLocals = 4) (hown : s.vm.findClass R_law = some m.cls) (hts : ∀ u ∈ lw_tbl, u.before #[Value.ref b] s = true) (hns : xe_ns xNS s) (hK : va_K D xCLs (xe_ty cI cZ) s) (hX : va_X b 8 xs s s.heap) (hbl : b < s.heap.size) (hPx : va_P D xCLs (xw cI cZ ρx Cx) H) (hPm : va_P D xCLs (xw cI cZ ρm Cm) H) (hDx : va_D (fun q : Nat => s.heap.size ≤ q) (xw cI cZ ρx Cx)) (hDm : va_D (fun q : Nat => s.heap.size ≤ q) (xw cI cZ ρm Cm)) (hDD : va_D (fun q : Nat => s.heap.size ≤ q) (xw cI cZ ρx Cx ++ xw cI cZ ρm Cm)) (hS : va_S (fun q : Nat => s.heap.size ≤ q) s.heap H locs) (hl : lv_has ls 4 [(3, .int 0), (2, .ref (ρm 0)), (1, .ref (ρx 0)), (0, .ref b)])
    (K : ∀ (H1 : Heap) (locs1 : List Loc), va_S (fun q : Nat => s.heap.size ≤ q) s.heap H1 locs1 → W p l e room_1 s m #[Value.ref b] below meth c H1 locs1 80 5836 Q (F0 m 734 ls [])) : W p l e room_1 s m #[Value.ref b] below meth c H locs 80 5836 Q (F0 m 711 ls []) := by
  have hA : ∀ q : Nat, s.heap.size ≤ q → (fun q : Nat => s.heap.size ≤ q) q := fun _ h => h
  have hbA : ¬ (fun q : Nat => s.heap.size ≤ q) b := Nat.not_le.mpr hbl
  obtain ⟨v, rx, rm⟩ := sm_19 (xs (Int32.toNatClampNeg 1))
  refine lv_aload_n hx hb dL_law_711 rfl (lv_at hl 2 rfl) ?_
  refine lv_aload_n hx hb dL_law_712 rfl (lv_at hl 3 rfl) ?_
  refine lv_iload_n hx hb dL_law_713 rfl (lv_at hl 0 rfl) ?_
  refine lv_iconst (v := 1) hx hb dL_law_714 rfl ?_
  refine lv_iadd hx hb dL_law_715 ?_
  refine lw_tov (y := 1) (by decide) ?_
  refine va_sld hx hb hX hbl hbA hS (by unfold vp_in; decide) dL_law_716 ?_
  refine lw_call (rest := []) (vs := [.int (xs (Int32.toNatClampNeg 1))]) (n1 := 706) (n2 := 707) (n3 := 708) (na := 1) (ci := 4) hx hb hml hown hts hns hK hA hl.1 19 (C := Cx) (ρ := ρx) rx rfl (Nat.le_of_ble_eq_true rfl) rfl rfl rfl (by decide +kernel) (by decide +kernel) (by decide +kernel) rfl (by decide +kernel) ⟨Nat.le_of_ble_eq_true rfl, Nat.le_of_ble_eq_true rfl⟩ (Nat.le_of_ble_eq_true rfl) dL_law_717 hPx hDx hS (fun H1 locs1 hk1 hS => ?_)
  have hPm := lw_keep hDD hPm hk1
  refine lv_aload_n hx hb dL_law_720 rfl (lv_at hl 1 rfl) ?_
  refine lv_aload_n hx hb dL_law_721 rfl (lv_at hl 3 rfl) ?_
  refine lv_iload_n hx hb dL_law_722 rfl (lv_at hl 0 rfl) ?_
  refine lv_iconst (v := 1) hx hb dL_law_723 rfl ?_
  refine lv_iadd hx hb dL_law_724 ?_
  refine lw_tov (y := 1) (by decide) ?_
  refine va_sld hx hb hX hbl hbA hS (by unfold vp_in; decide) dL_law_725 ?_
  refine lw_call (rest := [.int v]) (vs := [.int (xs (Int32.toNatClampNeg 1))]) (n1 := 1087) (n2 := 1088) (n3 := 1089) (na := 1) (ci := 5) hx hb hml hown hts hns hK hA hl.1 89 (C := Cm) (ρ := ρm) rm rfl (Nat.le_of_ble_eq_true rfl) rfl rfl rfl (by decide +kernel) (by decide +kernel) (by decide +kernel) rfl (by decide +kernel) ⟨Nat.le_of_ble_eq_true rfl, Nat.le_of_ble_eq_true rfl⟩ (Nat.le_of_ble_eq_true rfl) dL_law_726 hPm hDm hS (fun H1 locs1 hk1 hS => ?_)
  exact lv_icmp_eq (tgt := 734) hx hb dL_law_729 rfl (fun _ => K _ _ hS) (fun hq => absurd rfl hq)
