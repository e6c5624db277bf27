/-! THE CASES -/
theorem lw_dl {A : Nat → Prop} {a b : va_W} (h : va_D A (a ++ b)) : va_D A a := ⟨fun i j p q hi hj e => h.1 i j p q (by rw [List.getElem?_append_left (List.getElem?_eq_some_iff.mp hi).1]; exact hi) (by rw [List.getElem?_append_left (List.getElem?_eq_some_iff.mp hj).1]; exact hj) e, fun k q hk => h.2 k q (by rw [List.getElem?_append_left (List.getElem?_eq_some_iff.mp hk).1]; exact hk)⟩
theorem lw_dr {A : Nat → Prop} {a b : va_W} (h : va_D A (a ++ b)) : va_D A b := by
  have key : ∀ {k : Nat} {q : Nat × va_E}, b[k]? = some q → (a ++ b)[a.length + k]? = some q := fun {k q} hk => by rw [List.getElem?_append_right (by omega), show a.length + k - a.length = k by omega]; exact hk
  refine ⟨fun i j p q hi hj e => ?_, fun k q hk => h.2 _ q (key hk)⟩
  have := h.1 _ _ p q (key hi) (key hj) e
  omega
theorem lw_i1 (i : Nat) : nI i + 1 = nI (i + 1) := nI_add i 1
theorem lw_i2 (i : Nat) : nI i + 2 = nI (i + 2) := nI_add i 2
theorem lw_i3 (i : Nat) : nI i + 3 = nI (i + 3) := nI_add i 3
theorem lw_i4 (i : Nat) : nI i + 4 = nI (i + 4) := nI_add i 4
theorem lw_i5 (i : Nat) : nI i + 5 = nI (i + 5) := nI_add i 5
theorem lw_i6 (i : Nat) : nI i + 6 = nI (i + 6) := nI_add i 6
theorem lw_i7 (i : Nat) : nI i + 7 = nI (i + 7) := nI_add i 7
theorem lw_i8 (i : Nat) : nI i + 8 = nI (i + 8) := nI_add i 8
set_option maxHeartbeats 4000000 in
set_option maxRecDepth 100000 in
theorem lw_case_0 {p : Program} {l : Launch} {e : Env} {s : State} {m : MethodId} {below : List Frame} {meth : Method} {c : Code} {D : va_G} {cI cZ : ClassId} {b : Nat} {L i : Nat} {xs : Nat → Int32} {Q : State → Prop} {ρx ρm : Nat → Nat} {σx σm : aσ} {H : Heap} {locs : List Loc} {ls : Array Slot} (hx : p.tables.exec = Jvm.exec) (hb : c.code = code) (hml : c.maxLocals = 4) (hown : s.vm.findClass R_law = some m.cls) (hts : ∀ u ∈ lw_tbl, u.before #[Value.ref b] s = true) (hns : xe_ns xNS s) (hK : va_K D xCLs (xe_ty cI cZ) s) (hX : va_X b L xs s s.heap) (hbl : b < s.heap.size) (hL : L ≤ 4096) (hi : i + 8 ≤ L) (hIx : InvV aGX_6 σx) (hIm : InvV aGM_4 σm) (hT : σx 10 = σm 28) (hPx : va_P D xCLs (xw cI cZ ρx (cH σx aHX)) H) (hPm : va_P D xCLs (xw cI cZ ρm (cH σm aHM)) H) (hDD : ∀ σ τ : aσ, va_D (fun q : Nat => s.heap.size ≤ q) (xw cI cZ ρx (cH σ aHX) ++ xw cI cZ ρm (cH τ aHM))) (hS : va_S (fun q : Nat => s.heap.size ≤ q) s.heap H locs) (hl : lv_has ls 4 [(3, .int (nI i)), (2, .ref (ρm 0)), (1, .ref (ρx 0)), (0, .ref b)])
    (K : ∀ (σx σm : aσ) (H1 : Heap) (locs1 : List Loc), InvV aGX_6 σx → InvV aGM_4 σm → σx 10 = σm 28 → va_P D xCLs (xw cI cZ ρx (cH σx aHX)) H1 → va_P D xCLs (xw cI cZ ρm (cH σm aHM)) H1 → va_S (fun q : Nat => s.heap.size ≤ q) s.heap H1 locs1 → W p l e room_1 s m #[Value.ref b] below meth c H1 locs1 80 5836 Q (F0 m 734 ls [])) : W p l e room_1 s m #[Value.ref b] below meth c H locs 80 5836 Q (F0 m 128 ls []) := by
  have hA : ∀ q : Nat, s.heap.size ≤ q → (fun q : Nat => s.heap.size ≤ q) q := fun _ h => h
  have hbA : ¬ (fun q : Nat => s.heap.size ≤ q) b := Nat.not_le.mpr hbl
  refine lv_aload_n hx hb dL_law_128 rfl (lv_at hl 2 rfl) ?_
  refine lv_aload_n hx hb dL_law_129 rfl (lv_at hl 3 rfl) ?_
  refine lv_iload_n hx hb dL_law_130 rfl (lv_at hl 0 rfl) ?_
  refine lv_iconst (v := 1) hx hb dL_law_131 rfl ?_
  refine lv_iadd hx hb dL_law_132 ?_
  refine lw_tov (lw_i1 i) ?_
  refine va_sld hx hb hX hbl hbA hS (lw_vin (j := 1) hi hL (by decide)) dL_law_133 ?_
  refine lv_aload_n hx hb dL_law_134 rfl (lv_at hl 3 rfl) ?_
  refine lv_iload_n hx hb dL_law_135 rfl (lv_at hl 0 rfl) ?_
  refine lv_iconst (v := 2) hx hb dL_law_136 rfl ?_
  refine lv_iadd hx hb dL_law_137 ?_
  refine lw_tov (lw_i2 i) ?_
  refine va_sld hx hb hX hbl hbA hS (lw_vin (j := 2) hi hL (by decide)) dL_law_138 ?_
  refine lv_aload_n hx hb dL_law_139 rfl (lv_at hl 3 rfl) ?_
  refine lv_iload_n hx hb dL_law_140 rfl (lv_at hl 0 rfl) ?_
  refine lv_iconst (v := 3) hx hb dL_law_141 rfl ?_
  refine lv_iadd hx hb dL_law_142 ?_
  refine lw_tov (lw_i3 i) ?_
  refine va_sld hx hb hX hbl hbA hS (lw_vin (j := 3) hi hL (by decide)) dL_law_143 ?_
  refine lv_aload_n hx hb dL_law_144 rfl (lv_at hl 3 rfl) ?_
  refine lv_iload_n hx hb dL_law_145 rfl (lv_at hl 0 rfl) ?_
  refine lv_iconst (v := 4) hx hb dL_law_146 rfl ?_
  refine lv_iadd hx hb dL_law_147 ?_
  refine lw_tov (lw_i4 i) ?_
  refine va_sld hx hb hX hbl hbA hS (lw_vin (j := 4) hi hL (by decide)) dL_law_148 ?_
  refine lv_aload_n hx hb dL_law_149 rfl (lv_at hl 3 rfl) ?_
  refine lv_iload_n hx hb dL_law_150 rfl (lv_at hl 0 rfl) ?_
  refine lv_iconst (v := 5) hx hb dL_law_151 rfl ?_
  refine lv_iadd hx hb dL_law_152 ?_
  refine lw_tov (lw_i5 i) ?_
  refine va_sld hx hb hX hbl hbA hS (lw_vin (j := 5) hi hL (by decide)) dL_law_153 ?_
  refine lv_aload_n hx hb dL_law_154 rfl (lv_at hl 3 rfl) ?_
  refine lv_iload_n hx hb dL_law_155 rfl (lv_at hl 0 rfl) ?_
  refine lv_bipush (v := 6) hx hb dL_law_156 rfl ?_
  refine lv_iadd hx hb dL_law_158 ?_
  refine lw_tov (lw_i6 i) ?_
  refine va_sld hx hb hX hbl hbA hS (lw_vin (j := 6) hi hL (by decide)) dL_law_159 ?_
  refine lw_call (rest := []) (vs := [.int (xs (Int32.toNatClampNeg (nI (i + 1)))), .int (xs (Int32.toNatClampNeg (nI (i + 2)))), .int (xs (Int32.toNatClampNeg (nI (i + 3)))), .int (xs (Int32.toNatClampNeg (nI (i + 4)))), .int (xs (Int32.toNatClampNeg (nI (i + 5)))), .int (xs (Int32.toNatClampNeg (nI (i + 6))))]) (n1 := 338) (n2 := 339) (n3 := 340) (na := 6) (ci := 4) hx hb hml hown hts hns hK hA hl.1 53 aGX_6 (C := cH σx aHX) (ρ := ρx) (con_use (G := aGX_6) cn_53_0 rfl isx_0 (by decide +kernel) [xs (Int32.toNatClampNeg (nI (i + 1))), xs (Int32.toNatClampNeg (nI (i + 2))), xs (Int32.toNatClampNeg (nI (i + 3))), xs (Int32.toNatClampNeg (nI (i + 4))), xs (Int32.toNatClampNeg (nI (i + 5))), xs (Int32.toNatClampNeg (nI (i + 6)))] hIx ⟨oi_le _, oi_le _, oi_le _, oi_le _, oi_le _, oi_le _, trivial⟩) rfl (Nat.le_of_ble_eq_true rfl) rfl rfl (hx_0 σx) (by decide +kernel) (by decide +kernel) (by decide +kernel) rfl (by decide +kernel) ⟨Nat.le_of_ble_eq_true rfl, Nat.le_of_ble_eq_true rfl⟩ (Nat.le_of_ble_eq_true rfl) dL_law_160 hPx (lw_dl (hDD σx σm)) hS (fun vx τx H1 locs1 hRx hIx1 hPx1 hk1 hS1 => ?_)
  have hPm := lw_keep (hDD σx σm) hPm hk1
  clear hS; have hS := hS1
  refine lv_pop hx hb dL_law_163 rfl ?_
  refine lv_aload_n hx hb dL_law_164 rfl (lv_at hl 1 rfl) ?_
  refine lv_aload_n hx hb dL_law_165 rfl (lv_at hl 3 rfl) ?_
  refine lv_iload_n hx hb dL_law_166 rfl (lv_at hl 0 rfl) ?_
  refine lv_iconst (v := 1) hx hb dL_law_167 rfl ?_
  refine lv_iadd hx hb dL_law_168 ?_
  refine lw_tov (lw_i1 i) ?_
  refine va_sld hx hb hX hbl hbA hS (lw_vin (j := 1) hi hL (by decide)) dL_law_169 ?_
  refine lv_aload_n hx hb dL_law_170 rfl (lv_at hl 3 rfl) ?_
  refine lv_iload_n hx hb dL_law_171 rfl (lv_at hl 0 rfl) ?_
  refine lv_iconst (v := 2) hx hb dL_law_172 rfl ?_
  refine lv_iadd hx hb dL_law_173 ?_
  refine lw_tov (lw_i2 i) ?_
  refine va_sld hx hb hX hbl hbA hS (lw_vin (j := 2) hi hL (by decide)) dL_law_174 ?_
  refine lv_aload_n hx hb dL_law_175 rfl (lv_at hl 3 rfl) ?_
  refine lv_iload_n hx hb dL_law_176 rfl (lv_at hl 0 rfl) ?_
  refine lv_iconst (v := 3) hx hb dL_law_177 rfl ?_
  refine lv_iadd hx hb dL_law_178 ?_
  refine lw_tov (lw_i3 i) ?_
  refine va_sld hx hb hX hbl hbA hS (lw_vin (j := 3) hi hL (by decide)) dL_law_179 ?_
  refine lv_aload_n hx hb dL_law_180 rfl (lv_at hl 3 rfl) ?_
  refine lv_iload_n hx hb dL_law_181 rfl (lv_at hl 0 rfl) ?_
  refine lv_iconst (v := 4) hx hb dL_law_182 rfl ?_
  refine lv_iadd hx hb dL_law_183 ?_
  refine lw_tov (lw_i4 i) ?_
  refine va_sld hx hb hX hbl hbA hS (lw_vin (j := 4) hi hL (by decide)) dL_law_184 ?_
  refine lv_aload_n hx hb dL_law_185 rfl (lv_at hl 3 rfl) ?_
  refine lv_iload_n hx hb dL_law_186 rfl (lv_at hl 0 rfl) ?_
  refine lv_iconst (v := 5) hx hb dL_law_187 rfl ?_
  refine lv_iadd hx hb dL_law_188 ?_
  refine lw_tov (lw_i5 i) ?_
  refine va_sld hx hb hX hbl hbA hS (lw_vin (j := 5) hi hL (by decide)) dL_law_189 ?_
  refine lv_aload_n hx hb dL_law_190 rfl (lv_at hl 3 rfl) ?_
  refine lv_iload_n hx hb dL_law_191 rfl (lv_at hl 0 rfl) ?_
  refine lv_bipush (v := 6) hx hb dL_law_192 rfl ?_
  refine lv_iadd hx hb dL_law_194 ?_
  refine lw_tov (lw_i6 i) ?_
  refine va_sld hx hb hX hbl hbA hS (lw_vin (j := 6) hi hL (by decide)) dL_law_195 ?_
  refine lw_call (rest := []) (vs := [.int (xs (Int32.toNatClampNeg (nI (i + 1)))), .int (xs (Int32.toNatClampNeg (nI (i + 2)))), .int (xs (Int32.toNatClampNeg (nI (i + 3)))), .int (xs (Int32.toNatClampNeg (nI (i + 4)))), .int (xs (Int32.toNatClampNeg (nI (i + 5)))), .int (xs (Int32.toNatClampNeg (nI (i + 6))))]) (n1 := 885) (n2 := 886) (n3 := 887) (na := 6) (ci := 5) hx hb hml hown hts hns hK hA hl.1 94 aGM_4 (C := cH σm aHM) (ρ := ρm) (con_use (G := aGM_4) cn_94_0 rfl ism_0 (by decide +kernel) [xs (Int32.toNatClampNeg (nI (i + 1))), xs (Int32.toNatClampNeg (nI (i + 2))), xs (Int32.toNatClampNeg (nI (i + 3))), xs (Int32.toNatClampNeg (nI (i + 4))), xs (Int32.toNatClampNeg (nI (i + 5))), xs (Int32.toNatClampNeg (nI (i + 6)))] hIm ⟨oi_le _, oi_le _, oi_le _, oi_le _, oi_le _, oi_le _, trivial⟩) rfl (Nat.le_of_ble_eq_true rfl) rfl rfl (hm_0 σm) (by decide +kernel) (by decide +kernel) (by decide +kernel) rfl (by decide +kernel) ⟨Nat.le_of_ble_eq_true rfl, Nat.le_of_ble_eq_true rfl⟩ (Nat.le_of_ble_eq_true rfl) dL_law_196 hPm (lw_dr (hDD σx σm)) hS (fun vm τm H2 locs2 hRm hIm1 hPm1 hk2 hS2 => ?_)
  have hPx2 := lw_keep2 (hDD τx σm) hPx1 hk2
  have hT1 : τx 10 = τm 28 := (show τx 10 = σx 10 from hRx).trans (hT.trans (show τm 28 = σm 28 from hRm).symm)
  refine lv_pop hx hb dL_law_199 rfl ?_
  exact lv_goto (tgt := 734) hx hb dL_law_200 rfl (K τx τm H2 locs2 hIx1 hIm1 hT1 hPx2 hPm1 hS2)
set_option maxHeartbeats 4000000 in
set_option maxRecDepth 100000 in
theorem lw_case_1 {p : Program} {l : Launch} {e : Env} {s : State} {m : MethodId} {below : List Frame} {meth : Method} {c : Code} {D : va_G} {cI cZ : ClassId} {b : Nat} {L i : Nat} {xs : Nat → Int32} {Q : State → Prop} {ρx ρm : Nat → Nat} {σx σm : aσ} {H : Heap} {locs : List Loc} {ls : Array Slot} (hx : p.tables.exec = Jvm.exec) (hb : c.code = code) (hml : c.maxLocals = 4) (hown : s.vm.findClass R_law = some m.cls) (hts : ∀ u ∈ lw_tbl, u.before #[Value.ref b] s = true) (hns : xe_ns xNS s) (hK : va_K D xCLs (xe_ty cI cZ) s) (hX : va_X b L xs s s.heap) (hbl : b < s.heap.size) (hL : L ≤ 4096) (hi : i + 8 ≤ L) (hIx : InvV aGX_6 σx) (hIm : InvV aGM_4 σm) (hT : σx 10 = σm 28) (hPx : va_P D xCLs (xw cI cZ ρx (cH σx aHX)) H) (hPm : va_P D xCLs (xw cI cZ ρm (cH σm aHM)) H) (hDD : ∀ σ τ : aσ, va_D (fun q : Nat => s.heap.size ≤ q) (xw cI cZ ρx (cH σ aHX) ++ xw cI cZ ρm (cH τ aHM))) (hS : va_S (fun q : Nat => s.heap.size ≤ q) s.heap H locs) (hl : lv_has ls 4 [(3, .int (nI i)), (2, .ref (ρm 0)), (1, .ref (ρx 0)), (0, .ref b)])
    (K : ∀ (σx σm : aσ) (H1 : Heap) (locs1 : List Loc), InvV aGX_6 σx → InvV aGM_4 σm → σx 10 = σm 28 → va_P D xCLs (xw cI cZ ρx (cH σx aHX)) H1 → va_P D xCLs (xw cI cZ ρm (cH σm aHM)) H1 → va_S (fun q : Nat => s.heap.size ≤ q) s.heap H1 locs1 → W p l e room_1 s m #[Value.ref b] below meth c H1 locs1 80 5836 Q (F0 m 734 ls [])) : W p l e room_1 s m #[Value.ref b] below meth c H locs 80 5836 Q (F0 m 203 ls []) := by
  have hA : ∀ q : Nat, s.heap.size ≤ q → (fun q : Nat => s.heap.size ≤ q) q := fun _ h => h
  have hbA : ¬ (fun q : Nat => s.heap.size ≤ q) b := Nat.not_le.mpr hbl
  refine lv_aload_n hx hb dL_law_203 rfl (lv_at hl 2 rfl) ?_
  refine lv_aload_n hx hb dL_law_204 rfl (lv_at hl 3 rfl) ?_
  refine lv_iload_n hx hb dL_law_205 rfl (lv_at hl 0 rfl) ?_
  refine lv_iconst (v := 1) hx hb dL_law_206 rfl ?_
  refine lv_iadd hx hb dL_law_207 ?_
  refine lw_tov (lw_i1 i) ?_
  refine va_sld hx hb hX hbl hbA hS (lw_vin (j := 1) hi hL (by decide)) dL_law_208 ?_
  refine lv_aload_n hx hb dL_law_209 rfl (lv_at hl 3 rfl) ?_
  refine lv_iload_n hx hb dL_law_210 rfl (lv_at hl 0 rfl) ?_
  refine lv_iconst (v := 2) hx hb dL_law_211 rfl ?_
  refine lv_iadd hx hb dL_law_212 ?_
  refine lw_tov (lw_i2 i) ?_
  refine va_sld hx hb hX hbl hbA hS (lw_vin (j := 2) hi hL (by decide)) dL_law_213 ?_
  refine lv_aload_n hx hb dL_law_214 rfl (lv_at hl 3 rfl) ?_
  refine lv_iload_n hx hb dL_law_215 rfl (lv_at hl 0 rfl) ?_
  refine lv_iconst (v := 3) hx hb dL_law_216 rfl ?_
  refine lv_iadd hx hb dL_law_217 ?_
  refine lw_tov (lw_i3 i) ?_
  refine va_sld hx hb hX hbl hbA hS (lw_vin (j := 3) hi hL (by decide)) dL_law_218 ?_
  refine lv_aload_n hx hb dL_law_219 rfl (lv_at hl 3 rfl) ?_
  refine lv_iload_n hx hb dL_law_220 rfl (lv_at hl 0 rfl) ?_
  refine lv_iconst (v := 4) hx hb dL_law_221 rfl ?_
  refine lv_iadd hx hb dL_law_222 ?_
  refine lw_tov (lw_i4 i) ?_
  refine va_sld hx hb hX hbl hbA hS (lw_vin (j := 4) hi hL (by decide)) dL_law_223 ?_
  refine lv_aload_n hx hb dL_law_224 rfl (lv_at hl 3 rfl) ?_
  refine lv_iload_n hx hb dL_law_225 rfl (lv_at hl 0 rfl) ?_
  refine lv_iconst (v := 5) hx hb dL_law_226 rfl ?_
  refine lv_iadd hx hb dL_law_227 ?_
  refine lw_tov (lw_i5 i) ?_
  refine va_sld hx hb hX hbl hbA hS (lw_vin (j := 5) hi hL (by decide)) dL_law_228 ?_
  refine lv_aload_n hx hb dL_law_229 rfl (lv_at hl 3 rfl) ?_
  refine lv_iload_n hx hb dL_law_230 rfl (lv_at hl 0 rfl) ?_
  refine lv_bipush (v := 6) hx hb dL_law_231 rfl ?_
  refine lv_iadd hx hb dL_law_233 ?_
  refine lw_tov (lw_i6 i) ?_
  refine va_sld hx hb hX hbl hbA hS (lw_vin (j := 6) hi hL (by decide)) dL_law_234 ?_
  refine lv_aload_n hx hb dL_law_235 rfl (lv_at hl 3 rfl) ?_
  refine lv_iload_n hx hb dL_law_236 rfl (lv_at hl 0 rfl) ?_
  refine lv_bipush (v := 7) hx hb dL_law_237 rfl ?_
  refine lv_iadd hx hb dL_law_239 ?_
  refine lw_tov (lw_i7 i) ?_
  refine va_sld hx hb hX hbl hbA hS (lw_vin (j := 7) hi hL (by decide)) dL_law_240 ?_
  refine lw_call (rest := []) (vs := [.int (xs (Int32.toNatClampNeg (nI (i + 1)))), .int (xs (Int32.toNatClampNeg (nI (i + 2)))), .int (xs (Int32.toNatClampNeg (nI (i + 3)))), .int (xs (Int32.toNatClampNeg (nI (i + 4)))), .int (xs (Int32.toNatClampNeg (nI (i + 5)))), .int (xs (Int32.toNatClampNeg (nI (i + 6)))), .int (xs (Int32.toNatClampNeg (nI (i + 7))))]) (n1 := 365) (n2 := 366) (n3 := 367) (na := 7) (ci := 4) hx hb hml hown hts hns hK hA hl.1 54 aGX_6 (C := cH σx aHX) (ρ := ρx) (con_use (G := aGX_6) cn_54_0 rfl isx_0 (by decide +kernel) [xs (Int32.toNatClampNeg (nI (i + 1))), xs (Int32.toNatClampNeg (nI (i + 2))), xs (Int32.toNatClampNeg (nI (i + 3))), xs (Int32.toNatClampNeg (nI (i + 4))), xs (Int32.toNatClampNeg (nI (i + 5))), xs (Int32.toNatClampNeg (nI (i + 6))), xs (Int32.toNatClampNeg (nI (i + 7)))] hIx ⟨oi_le _, oi_le _, oi_le _, oi_le _, oi_le _, oi_le _, oi_le _, trivial⟩) rfl (Nat.le_of_ble_eq_true rfl) rfl rfl (hx_0 σx) (by decide +kernel) (by decide +kernel) (by decide +kernel) rfl (by decide +kernel) ⟨Nat.le_of_ble_eq_true rfl, Nat.le_of_ble_eq_true rfl⟩ (Nat.le_of_ble_eq_true rfl) dL_law_241 hPx (lw_dl (hDD σx σm)) hS (fun vx τx H1 locs1 hRx hIx1 hPx1 hk1 hS1 => ?_)
  have hPm := lw_keep (hDD σx σm) hPm hk1
  clear hS; have hS := hS1
  refine lv_pop hx hb dL_law_244 rfl ?_
  refine lv_aload_n hx hb dL_law_245 rfl (lv_at hl 1 rfl) ?_
  refine lv_aload_n hx hb dL_law_246 rfl (lv_at hl 3 rfl) ?_
  refine lv_iload_n hx hb dL_law_247 rfl (lv_at hl 0 rfl) ?_
  refine lv_iconst (v := 1) hx hb dL_law_248 rfl ?_
  refine lv_iadd hx hb dL_law_249 ?_
  refine lw_tov (lw_i1 i) ?_
  refine va_sld hx hb hX hbl hbA hS (lw_vin (j := 1) hi hL (by decide)) dL_law_250 ?_
  refine lv_aload_n hx hb dL_law_251 rfl (lv_at hl 3 rfl) ?_
  refine lv_iload_n hx hb dL_law_252 rfl (lv_at hl 0 rfl) ?_
  refine lv_iconst (v := 2) hx hb dL_law_253 rfl ?_
  refine lv_iadd hx hb dL_law_254 ?_
  refine lw_tov (lw_i2 i) ?_
  refine va_sld hx hb hX hbl hbA hS (lw_vin (j := 2) hi hL (by decide)) dL_law_255 ?_
  refine lv_aload_n hx hb dL_law_256 rfl (lv_at hl 3 rfl) ?_
  refine lv_iload_n hx hb dL_law_257 rfl (lv_at hl 0 rfl) ?_
  refine lv_iconst (v := 3) hx hb dL_law_258 rfl ?_
  refine lv_iadd hx hb dL_law_259 ?_
  refine lw_tov (lw_i3 i) ?_
  refine va_sld hx hb hX hbl hbA hS (lw_vin (j := 3) hi hL (by decide)) dL_law_260 ?_
  refine lv_aload_n hx hb dL_law_261 rfl (lv_at hl 3 rfl) ?_
  refine lv_iload_n hx hb dL_law_262 rfl (lv_at hl 0 rfl) ?_
  refine lv_iconst (v := 4) hx hb dL_law_263 rfl ?_
  refine lv_iadd hx hb dL_law_264 ?_
  refine lw_tov (lw_i4 i) ?_
  refine va_sld hx hb hX hbl hbA hS (lw_vin (j := 4) hi hL (by decide)) dL_law_265 ?_
  refine lv_aload_n hx hb dL_law_266 rfl (lv_at hl 3 rfl) ?_
  refine lv_iload_n hx hb dL_law_267 rfl (lv_at hl 0 rfl) ?_
  refine lv_iconst (v := 5) hx hb dL_law_268 rfl ?_
  refine lv_iadd hx hb dL_law_269 ?_
  refine lw_tov (lw_i5 i) ?_
  refine va_sld hx hb hX hbl hbA hS (lw_vin (j := 5) hi hL (by decide)) dL_law_270 ?_
  refine lv_aload_n hx hb dL_law_271 rfl (lv_at hl 3 rfl) ?_
  refine lv_iload_n hx hb dL_law_272 rfl (lv_at hl 0 rfl) ?_
  refine lv_bipush (v := 6) hx hb dL_law_273 rfl ?_
  refine lv_iadd hx hb dL_law_275 ?_
  refine lw_tov (lw_i6 i) ?_
  refine va_sld hx hb hX hbl hbA hS (lw_vin (j := 6) hi hL (by decide)) dL_law_276 ?_
  refine lv_aload_n hx hb dL_law_277 rfl (lv_at hl 3 rfl) ?_
  refine lv_iload_n hx hb dL_law_278 rfl (lv_at hl 0 rfl) ?_
  refine lv_bipush (v := 7) hx hb dL_law_279 rfl ?_
  refine lv_iadd hx hb dL_law_281 ?_
  refine lw_tov (lw_i7 i) ?_
  refine va_sld hx hb hX hbl hbA hS (lw_vin (j := 7) hi hL (by decide)) dL_law_282 ?_
  refine lw_call (rest := []) (vs := [.int (xs (Int32.toNatClampNeg (nI (i + 1)))), .int (xs (Int32.toNatClampNeg (nI (i + 2)))), .int (xs (Int32.toNatClampNeg (nI (i + 3)))), .int (xs (Int32.toNatClampNeg (nI (i + 4)))), .int (xs (Int32.toNatClampNeg (nI (i + 5)))), .int (xs (Int32.toNatClampNeg (nI (i + 6)))), .int (xs (Int32.toNatClampNeg (nI (i + 7))))]) (n1 := 908) (n2 := 909) (n3 := 910) (na := 7) (ci := 5) hx hb hml hown hts hns hK hA hl.1 95 aGM_4 (C := cH σm aHM) (ρ := ρm) (con_use (G := aGM_4) cn_95_0 rfl ism_0 (by decide +kernel) [xs (Int32.toNatClampNeg (nI (i + 1))), xs (Int32.toNatClampNeg (nI (i + 2))), xs (Int32.toNatClampNeg (nI (i + 3))), xs (Int32.toNatClampNeg (nI (i + 4))), xs (Int32.toNatClampNeg (nI (i + 5))), xs (Int32.toNatClampNeg (nI (i + 6))), xs (Int32.toNatClampNeg (nI (i + 7)))] hIm ⟨oi_le _, oi_le _, oi_le _, oi_le _, oi_le _, oi_le _, oi_le _, trivial⟩) rfl (Nat.le_of_ble_eq_true rfl) rfl rfl (hm_0 σm) (by decide +kernel) (by decide +kernel) (by decide +kernel) rfl (by decide +kernel) ⟨Nat.le_of_ble_eq_true rfl, Nat.le_of_ble_eq_true rfl⟩ (Nat.le_of_ble_eq_true rfl) dL_law_283 hPm (lw_dr (hDD σx σm)) hS (fun vm τm H2 locs2 hRm hIm1 hPm1 hk2 hS2 => ?_)
  have hPx2 := lw_keep2 (hDD τx σm) hPx1 hk2
  have hT1 : τx 10 = τm 28 := (show τx 10 = σx 10 from hRx).trans (hT.trans (show τm 28 = σm 28 from hRm).symm)
  refine lv_pop hx hb dL_law_286 rfl ?_
  exact lv_goto (tgt := 734) hx hb dL_law_287 rfl (K τx τm H2 locs2 hIx1 hIm1 hT1 hPx2 hPm1 hS2)
set_option maxHeartbeats 4000000 in
set_option maxRecDepth 100000 in
theorem lw_case_2 {p : Program} {l : Launch} {e : Env} {s : State} {m : MethodId} {below : List Frame} {meth : Method} {c : Code} {D : va_G} {cI cZ : ClassId} {b : Nat} {L i : Nat} {xs : Nat → Int32} {Q : State → Prop} {ρx ρm : Nat → Nat} {σx σm : aσ} {H : Heap} {locs : List Loc} {ls : Array Slot} (hx : p.tables.exec = Jvm.exec) (hb : c.code = code) (hml : c.maxLocals = 4) (hown : s.vm.findClass R_law = some m.cls) (hts : ∀ u ∈ lw_tbl, u.before #[Value.ref b] s = true) (hns : xe_ns xNS s) (hK : va_K D xCLs (xe_ty cI cZ) s) (hX : va_X b L xs s s.heap) (hbl : b < s.heap.size) (hL : L ≤ 4096) (hi : i + 8 ≤ L) (hIx : InvV aGX_6 σx) (hIm : InvV aGM_4 σm) (hT : σx 10 = σm 28) (hPx : va_P D xCLs (xw cI cZ ρx (cH σx aHX)) H) (hPm : va_P D xCLs (xw cI cZ ρm (cH σm aHM)) H) (hDD : ∀ σ τ : aσ, va_D (fun q : Nat => s.heap.size ≤ q) (xw cI cZ ρx (cH σ aHX) ++ xw cI cZ ρm (cH τ aHM))) (hS : va_S (fun q : Nat => s.heap.size ≤ q) s.heap H locs) (hl : lv_has ls 4 [(3, .int (nI i)), (2, .ref (ρm 0)), (1, .ref (ρx 0)), (0, .ref b)])
    (K : ∀ (σx σm : aσ) (H1 : Heap) (locs1 : List Loc), InvV aGX_6 σx → InvV aGM_4 σm → σx 10 = σm 28 → va_P D xCLs (xw cI cZ ρx (cH σx aHX)) H1 → va_P D xCLs (xw cI cZ ρm (cH σm aHM)) H1 → va_S (fun q : Nat => s.heap.size ≤ q) s.heap H1 locs1 → W p l e room_1 s m #[Value.ref b] below meth c H1 locs1 80 5836 Q (F0 m 734 ls [])) : W p l e room_1 s m #[Value.ref b] below meth c H locs 80 5836 Q (F0 m 290 ls []) := by
  have hA : ∀ q : Nat, s.heap.size ≤ q → (fun q : Nat => s.heap.size ≤ q) q := fun _ h => h
  have hbA : ¬ (fun q : Nat => s.heap.size ≤ q) b := Nat.not_le.mpr hbl
  refine lv_aload_n hx hb dL_law_290 rfl (lv_at hl 2 rfl) ?_
  refine lv_aload_n hx hb dL_law_291 rfl (lv_at hl 3 rfl) ?_
  refine lv_iload_n hx hb dL_law_292 rfl (lv_at hl 0 rfl) ?_
  refine lv_iconst (v := 1) hx hb dL_law_293 rfl ?_
  refine lv_iadd hx hb dL_law_294 ?_
  refine lw_tov (lw_i1 i) ?_
  refine va_sld hx hb hX hbl hbA hS (lw_vin (j := 1) hi hL (by decide)) dL_law_295 ?_
  refine lw_call (rest := []) (vs := [.int (xs (Int32.toNatClampNeg (nI (i + 1))))]) (n1 := 374) (n2 := 375) (n3 := 376) (na := 1) (ci := 4) hx hb hml hown hts hns hK hA hl.1 55 aGX_6 (C := cH σx aHX) (ρ := ρx) (con_use (G := aGX_6) cn_55_0 rfl isx_0 (by decide +kernel) [xs (Int32.toNatClampNeg (nI (i + 1)))] hIx ⟨oi_le _, trivial⟩) rfl (Nat.le_of_ble_eq_true rfl) rfl rfl (hx_0 σx) (by decide +kernel) (by decide +kernel) (by decide +kernel) rfl (by decide +kernel) ⟨Nat.le_of_ble_eq_true rfl, Nat.le_of_ble_eq_true rfl⟩ (Nat.le_of_ble_eq_true rfl) dL_law_296 hPx (lw_dl (hDD σx σm)) hS (fun vx τx H1 locs1 hRx hIx1 hPx1 hk1 hS1 => ?_)
  have hPm := lw_keep (hDD σx σm) hPm hk1
  clear hS; have hS := hS1
  refine lv_pop hx hb dL_law_299 rfl ?_
  refine lv_aload_n hx hb dL_law_300 rfl (lv_at hl 1 rfl) ?_
  refine lv_aload_n hx hb dL_law_301 rfl (lv_at hl 3 rfl) ?_
  refine lv_iload_n hx hb dL_law_302 rfl (lv_at hl 0 rfl) ?_
  refine lv_iconst (v := 1) hx hb dL_law_303 rfl ?_
  refine lv_iadd hx hb dL_law_304 ?_
  refine lw_tov (lw_i1 i) ?_
  refine va_sld hx hb hX hbl hbA hS (lw_vin (j := 1) hi hL (by decide)) dL_law_305 ?_
  refine lw_call (rest := []) (vs := [.int (xs (Int32.toNatClampNeg (nI (i + 1))))]) (n1 := 912) (n2 := 913) (n3 := 914) (na := 1) (ci := 5) hx hb hml hown hts hns hK hA hl.1 96 aGM_4 (C := cH σm aHM) (ρ := ρm) (con_use (G := aGM_4) cn_96_0 rfl ism_0 (by decide +kernel) [xs (Int32.toNatClampNeg (nI (i + 1)))] hIm ⟨oi_le _, trivial⟩) rfl (Nat.le_of_ble_eq_true rfl) rfl rfl (hm_0 σm) (by decide +kernel) (by decide +kernel) (by decide +kernel) rfl (by decide +kernel) ⟨Nat.le_of_ble_eq_true rfl, Nat.le_of_ble_eq_true rfl⟩ (Nat.le_of_ble_eq_true rfl) dL_law_306 hPm (lw_dr (hDD σx σm)) hS (fun vm τm H2 locs2 hRm hIm1 hPm1 hk2 hS2 => ?_)
  have hPx2 := lw_keep2 (hDD τx σm) hPx1 hk2
  have hT1 : τx 10 = τm 28 := (show τx 10 = σx 10 from hRx).trans (hT.trans (show τm 28 = σm 28 from hRm).symm)
  refine lv_pop hx hb dL_law_309 rfl ?_
  exact lv_goto (tgt := 734) hx hb dL_law_310 rfl (K τx τm H2 locs2 hIx1 hIm1 hT1 hPx2 hPm1 hS2)
set_option maxHeartbeats 4000000 in
set_option maxRecDepth 100000 in
theorem lw_case_3 {p : Program} {l : Launch} {e : Env} {s : State} {m : MethodId} {below : List Frame} {meth : Method} {c : Code} {D : va_G} {cI cZ : ClassId} {b : Nat} {L i : Nat} {xs : Nat → Int32} {Q : State → Prop} {ρx ρm : Nat → Nat} {σx σm : aσ} {H : Heap} {locs : List Loc} {ls : Array Slot} (hx : p.tables.exec = Jvm.exec) (hb : c.code = code) (hml : c.maxLocals = 4) (hown : s.vm.findClass R_law = some m.cls) (hts : ∀ u ∈ lw_tbl, u.before #[Value.ref b] s = true) (hns : xe_ns xNS s) (hK : va_K D xCLs (xe_ty cI cZ) s) (hX : va_X b L xs s s.heap) (hbl : b < s.heap.size) (hL : L ≤ 4096) (hi : i + 8 ≤ L) (hIx : InvV aGX_6 σx) (hIm : InvV aGM_4 σm) (hT : σx 10 = σm 28) (hPx : va_P D xCLs (xw cI cZ ρx (cH σx aHX)) H) (hPm : va_P D xCLs (xw cI cZ ρm (cH σm aHM)) H) (hDD : ∀ σ τ : aσ, va_D (fun q : Nat => s.heap.size ≤ q) (xw cI cZ ρx (cH σ aHX) ++ xw cI cZ ρm (cH τ aHM))) (hS : va_S (fun q : Nat => s.heap.size ≤ q) s.heap H locs) (hl : lv_has ls 4 [(3, .int (nI i)), (2, .ref (ρm 0)), (1, .ref (ρx 0)), (0, .ref b)])
    (K : ∀ (σx σm : aσ) (H1 : Heap) (locs1 : List Loc), InvV aGX_6 σx → InvV aGM_4 σm → σx 10 = σm 28 → va_P D xCLs (xw cI cZ ρx (cH σx aHX)) H1 → va_P D xCLs (xw cI cZ ρm (cH σm aHM)) H1 → va_S (fun q : Nat => s.heap.size ≤ q) s.heap H1 locs1 → W p l e room_1 s m #[Value.ref b] below meth c H1 locs1 80 5836 Q (F0 m 734 ls [])) : W p l e room_1 s m #[Value.ref b] below meth c H locs 80 5836 Q (F0 m 313 ls []) := by
  have hA : ∀ q : Nat, s.heap.size ≤ q → (fun q : Nat => s.heap.size ≤ q) q := fun _ h => h
  have hbA : ¬ (fun q : Nat => s.heap.size ≤ q) b := Nat.not_le.mpr hbl
  refine lv_aload_n hx hb dL_law_313 rfl (lv_at hl 2 rfl) ?_
  refine lv_aload_n hx hb dL_law_314 rfl (lv_at hl 3 rfl) ?_
  refine lv_iload_n hx hb dL_law_315 rfl (lv_at hl 0 rfl) ?_
  refine lv_iconst (v := 1) hx hb dL_law_316 rfl ?_
  refine lv_iadd hx hb dL_law_317 ?_
  refine lw_tov (lw_i1 i) ?_
  refine va_sld hx hb hX hbl hbA hS (lw_vin (j := 1) hi hL (by decide)) dL_law_318 ?_
  refine lw_call (rest := []) (vs := [.int (xs (Int32.toNatClampNeg (nI (i + 1))))]) (n1 := 378) (n2 := 379) (n3 := 380) (na := 1) (ci := 4) hx hb hml hown hts hns hK hA hl.1 56 aGX_6 (C := cH σx aHX) (ρ := ρx) (con_use (G := aGX_6) cn_56_0 rfl isx_0 (by decide +kernel) [xs (Int32.toNatClampNeg (nI (i + 1)))] hIx ⟨oi_le _, trivial⟩) rfl (Nat.le_of_ble_eq_true rfl) rfl rfl (hx_0 σx) (by decide +kernel) (by decide +kernel) (by decide +kernel) rfl (by decide +kernel) ⟨Nat.le_of_ble_eq_true rfl, Nat.le_of_ble_eq_true rfl⟩ (Nat.le_of_ble_eq_true rfl) dL_law_319 hPx (lw_dl (hDD σx σm)) hS (fun vx τx H1 locs1 hRx hIx1 hPx1 hk1 hS1 => ?_)
  have hPm := lw_keep (hDD σx σm) hPm hk1
  clear hS; have hS := hS1
  refine lv_pop hx hb dL_law_322 rfl ?_
  refine lv_aload_n hx hb dL_law_323 rfl (lv_at hl 1 rfl) ?_
  refine lv_aload_n hx hb dL_law_324 rfl (lv_at hl 3 rfl) ?_
  refine lv_iload_n hx hb dL_law_325 rfl (lv_at hl 0 rfl) ?_
  refine lv_iconst (v := 1) hx hb dL_law_326 rfl ?_
  refine lv_iadd hx hb dL_law_327 ?_
  refine lw_tov (lw_i1 i) ?_
  refine va_sld hx hb hX hbl hbA hS (lw_vin (j := 1) hi hL (by decide)) dL_law_328 ?_
  refine lw_call (rest := []) (vs := [.int (xs (Int32.toNatClampNeg (nI (i + 1))))]) (n1 := 916) (n2 := 917) (n3 := 918) (na := 1) (ci := 5) hx hb hml hown hts hns hK hA hl.1 97 aGM_4 (C := cH σm aHM) (ρ := ρm) (con_use (G := aGM_4) cn_97_0 rfl ism_0 (by decide +kernel) [xs (Int32.toNatClampNeg (nI (i + 1)))] hIm ⟨oi_le _, trivial⟩) rfl (Nat.le_of_ble_eq_true rfl) rfl rfl (hm_0 σm) (by decide +kernel) (by decide +kernel) (by decide +kernel) rfl (by decide +kernel) ⟨Nat.le_of_ble_eq_true rfl, Nat.le_of_ble_eq_true rfl⟩ (Nat.le_of_ble_eq_true rfl) dL_law_329 hPm (lw_dr (hDD σx σm)) hS (fun vm τm H2 locs2 hRm hIm1 hPm1 hk2 hS2 => ?_)
  have hPx2 := lw_keep2 (hDD τx σm) hPx1 hk2
  have hT1 : τx 10 = τm 28 := (show τx 10 = σx 10 from hRx).trans (hT.trans (show τm 28 = σm 28 from hRm).symm)
  refine lv_pop hx hb dL_law_332 rfl ?_
  exact lv_goto (tgt := 734) hx hb dL_law_333 rfl (K τx τm H2 locs2 hIx1 hIm1 hT1 hPx2 hPm1 hS2)
set_option maxHeartbeats 4000000 in
set_option maxRecDepth 100000 in
theorem lw_case_4 {p : Program} {l : Launch} {e : Env} {s : State} {m : MethodId} {below : List Frame} {meth : Method} {c : Code} {D : va_G} {cI cZ : ClassId} {b : Nat} {L i : Nat} {xs : Nat → Int32} {Q : State → Prop} {ρx ρm : Nat → Nat} {σx σm : aσ} {H : Heap} {locs : List Loc} {ls : Array Slot} (hx : p.tables.exec = Jvm.exec) (hb : c.code = code) (hml : c.maxLocals = 4) (hown : s.vm.findClass R_law = some m.cls) (hts : ∀ u ∈ lw_tbl, u.before #[Value.ref b] s = true) (hns : xe_ns xNS s) (hK : va_K D xCLs (xe_ty cI cZ) s) (hX : va_X b L xs s s.heap) (hbl : b < s.heap.size) (hL : L ≤ 4096) (hi : i + 8 ≤ L) (hIx : InvV aGX_6 σx) (hIm : InvV aGM_4 σm) (hT : σx 10 = σm 28) (hPx : va_P D xCLs (xw cI cZ ρx (cH σx aHX)) H) (hPm : va_P D xCLs (xw cI cZ ρm (cH σm aHM)) H) (hDD : ∀ σ τ : aσ, va_D (fun q : Nat => s.heap.size ≤ q) (xw cI cZ ρx (cH σ aHX) ++ xw cI cZ ρm (cH τ aHM))) (hS : va_S (fun q : Nat => s.heap.size ≤ q) s.heap H locs) (hl : lv_has ls 4 [(3, .int (nI i)), (2, .ref (ρm 0)), (1, .ref (ρx 0)), (0, .ref b)])
    (K : ∀ (σx σm : aσ) (H1 : Heap) (locs1 : List Loc), InvV aGX_6 σx → InvV aGM_4 σm → σx 10 = σm 28 → va_P D xCLs (xw cI cZ ρx (cH σx aHX)) H1 → va_P D xCLs (xw cI cZ ρm (cH σm aHM)) H1 → va_S (fun q : Nat => s.heap.size ≤ q) s.heap H1 locs1 → W p l e room_1 s m #[Value.ref b] below meth c H1 locs1 80 5836 Q (F0 m 734 ls [])) : W p l e room_1 s m #[Value.ref b] below meth c H locs 80 5836 Q (F0 m 336 ls []) := by
  have hA : ∀ q : Nat, s.heap.size ≤ q → (fun q : Nat => s.heap.size ≤ q) q := fun _ h => h
  have hbA : ¬ (fun q : Nat => s.heap.size ≤ q) b := Nat.not_le.mpr hbl
  refine lv_aload_n hx hb dL_law_336 rfl (lv_at hl 2 rfl) ?_
  refine lw_call (rest := []) (vs := []) (n1 := 382) (n2 := 383) (n3 := 384) (na := 0) (ci := 4) hx hb hml hown hts hns hK hA hl.1 57 aGX_6 (C := cH σx aHX) (ρ := ρx) (con_use (G := aGX_6) cn_57_0 rfl isx_0 (by decide +kernel) [] hIx trivial) rfl (Nat.le_of_ble_eq_true rfl) rfl rfl (hx_0 σx) (by decide +kernel) (by decide +kernel) (by decide +kernel) rfl (by decide +kernel) ⟨Nat.le_of_ble_eq_true rfl, Nat.le_of_ble_eq_true rfl⟩ (Nat.le_of_ble_eq_true rfl) dL_law_337 hPx (lw_dl (hDD σx σm)) hS (fun vx τx H1 locs1 hRx hIx1 hPx1 hk1 hS1 => ?_)
  have hPm := lw_keep (hDD σx σm) hPm hk1
  clear hS; have hS := hS1
  refine lv_pop hx hb dL_law_340 rfl ?_
  refine lv_aload_n hx hb dL_law_341 rfl (lv_at hl 1 rfl) ?_
  refine lw_call (rest := []) (vs := []) (n1 := 920) (n2 := 921) (n3 := 922) (na := 0) (ci := 5) hx hb hml hown hts hns hK hA hl.1 98 aGM_4 (C := cH σm aHM) (ρ := ρm) (con_use (G := aGM_4) cn_98_0 rfl ism_0 (by decide +kernel) [] hIm trivial) rfl (Nat.le_of_ble_eq_true rfl) rfl rfl (hm_0 σm) (by decide +kernel) (by decide +kernel) (by decide +kernel) rfl (by decide +kernel) ⟨Nat.le_of_ble_eq_true rfl, Nat.le_of_ble_eq_true rfl⟩ (Nat.le_of_ble_eq_true rfl) dL_law_342 hPm (lw_dr (hDD σx σm)) hS (fun vm τm H2 locs2 hRm hIm1 hPm1 hk2 hS2 => ?_)
  have hPx2 := lw_keep2 (hDD τx σm) hPx1 hk2
  have hT1 : τx 10 = τm 28 := (show τx 10 = σx 10 from hRx).trans (hT.trans (show τm 28 = σm 28 from hRm).symm)
  refine lv_pop hx hb dL_law_345 rfl ?_
  exact lv_goto (tgt := 734) hx hb dL_law_346 rfl (K τx τm H2 locs2 hIx1 hIm1 hT1 hPx2 hPm1 hS2)
set_option maxHeartbeats 4000000 in
set_option maxRecDepth 100000 in
theorem lw_case_5 {p : Program} {l : Launch} {e : Env} {s : State} {m : MethodId} {below : List Frame} {meth : Method} {c : Code} {D : va_G} {cI cZ : ClassId} {b : Nat} {L i : Nat} {xs : Nat → Int32} {Q : State → Prop} {ρx ρm : Nat → Nat} {σx σm : aσ} {H : Heap} {locs : List Loc} {ls : Array Slot} (hx : p.tables.exec = Jvm.exec) (hb : c.code = code) (hml : c.maxLocals = 4) (hown : s.vm.findClass R_law = some m.cls) (hts : ∀ u ∈ lw_tbl, u.before #[Value.ref b] s = true) (hns : xe_ns xNS s) (hK : va_K D xCLs (xe_ty cI cZ) s) (hX : va_X b L xs s s.heap) (hbl : b < s.heap.size) (hL : L ≤ 4096) (hi : i + 8 ≤ L) (hIx : InvV aGX_6 σx) (hIm : InvV aGM_4 σm) (hT : σx 10 = σm 28) (hPx : va_P D xCLs (xw cI cZ ρx (cH σx aHX)) H) (hPm : va_P D xCLs (xw cI cZ ρm (cH σm aHM)) H) (hDD : ∀ σ τ : aσ, va_D (fun q : Nat => s.heap.size ≤ q) (xw cI cZ ρx (cH σ aHX) ++ xw cI cZ ρm (cH τ aHM))) (hS : va_S (fun q : Nat => s.heap.size ≤ q) s.heap H locs) (hl : lv_has ls 4 [(3, .int (nI i)), (2, .ref (ρm 0)), (1, .ref (ρx 0)), (0, .ref b)])
    (K : ∀ (σx σm : aσ) (H1 : Heap) (locs1 : List Loc), InvV aGX_6 σx → InvV aGM_4 σm → σx 10 = σm 28 → va_P D xCLs (xw cI cZ ρx (cH σx aHX)) H1 → va_P D xCLs (xw cI cZ ρm (cH σm aHM)) H1 → va_S (fun q : Nat => s.heap.size ≤ q) s.heap H1 locs1 → W p l e room_1 s m #[Value.ref b] below meth c H1 locs1 80 5836 Q (F0 m 734 ls [])) : W p l e room_1 s m #[Value.ref b] below meth c H locs 80 5836 Q (F0 m 349 ls []) := by
  have hA : ∀ q : Nat, s.heap.size ≤ q → (fun q : Nat => s.heap.size ≤ q) q := fun _ h => h
  have hbA : ¬ (fun q : Nat => s.heap.size ≤ q) b := Nat.not_le.mpr hbl
  refine lv_aload_n hx hb dL_law_349 rfl (lv_at hl 2 rfl) ?_
  refine lw_call (rest := []) (vs := []) (n1 := 386) (n2 := 387) (n3 := 388) (na := 0) (ci := 4) hx hb hml hown hts hns hK hA hl.1 58 aGX_6 (C := cH σx aHX) (ρ := ρx) (con_use (G := aGX_6) cn_58_0 rfl isx_0 (by decide +kernel) [] hIx trivial) rfl (Nat.le_of_ble_eq_true rfl) rfl rfl (hx_0 σx) (by decide +kernel) (by decide +kernel) (by decide +kernel) rfl (by decide +kernel) ⟨Nat.le_of_ble_eq_true rfl, Nat.le_of_ble_eq_true rfl⟩ (Nat.le_of_ble_eq_true rfl) dL_law_350 hPx (lw_dl (hDD σx σm)) hS (fun vx τx H1 locs1 hRx hIx1 hPx1 hk1 hS1 => ?_)
  have hPm := lw_keep (hDD σx σm) hPm hk1
  clear hS; have hS := hS1
  refine lv_pop hx hb dL_law_353 rfl ?_
  refine lv_aload_n hx hb dL_law_354 rfl (lv_at hl 1 rfl) ?_
  refine lw_call (rest := []) (vs := []) (n1 := 924) (n2 := 925) (n3 := 926) (na := 0) (ci := 5) hx hb hml hown hts hns hK hA hl.1 106 aGM_4 (C := cH σm aHM) (ρ := ρm) (con_use (G := aGM_4) cn_106_0 rfl ism_0 (by decide +kernel) [] hIm trivial) rfl (Nat.le_of_ble_eq_true rfl) rfl rfl (hm_0 σm) (by decide +kernel) (by decide +kernel) (by decide +kernel) rfl (by decide +kernel) ⟨Nat.le_of_ble_eq_true rfl, Nat.le_of_ble_eq_true rfl⟩ (Nat.le_of_ble_eq_true rfl) dL_law_355 hPm (lw_dr (hDD σx σm)) hS (fun vm τm H2 locs2 hRm hIm1 hPm1 hk2 hS2 => ?_)
  have hPx2 := lw_keep2 (hDD τx σm) hPx1 hk2
  have hT1 : τx 10 = τm 28 := (show τx 10 = σx 10 from hRx).trans (hT.trans (show τm 28 = σm 28 from hRm).symm)
  refine lv_pop hx hb dL_law_358 rfl ?_
  exact lv_goto (tgt := 734) hx hb dL_law_359 rfl (K τx τm H2 locs2 hIx1 hIm1 hT1 hPx2 hPm1 hS2)
set_option maxHeartbeats 4000000 in
set_option maxRecDepth 100000 in
theorem lw_case_6 {p : Program} {l : Launch} {e : Env} {s : State} {m : MethodId} {below : List Frame} {meth : Method} {c : Code} {D : va_G} {cI cZ : ClassId} {b : Nat} {L i : Nat} {xs : Nat → Int32} {Q : State → Prop} {ρx ρm : Nat → Nat} {σx σm : aσ} {H : Heap} {locs : List Loc} {ls : Array Slot} (hx : p.tables.exec = Jvm.exec) (hb : c.code = code) (hml : c.maxLocals = 4) (hown : s.vm.findClass R_law = some m.cls) (hts : ∀ u ∈ lw_tbl, u.before #[Value.ref b] s = true) (hns : xe_ns xNS s) (hK : va_K D xCLs (xe_ty cI cZ) s) (hX : va_X b L xs s s.heap) (hbl : b < s.heap.size) (hL : L ≤ 4096) (hi : i + 8 ≤ L) (hIx : InvV aGX_6 σx) (hIm : InvV aGM_4 σm) (hT : σx 10 = σm 28) (hPx : va_P D xCLs (xw cI cZ ρx (cH σx aHX)) H) (hPm : va_P D xCLs (xw cI cZ ρm (cH σm aHM)) H) (hDD : ∀ σ τ : aσ, va_D (fun q : Nat => s.heap.size ≤ q) (xw cI cZ ρx (cH σ aHX) ++ xw cI cZ ρm (cH τ aHM))) (hS : va_S (fun q : Nat => s.heap.size ≤ q) s.heap H locs) (hl : lv_has ls 4 [(3, .int (nI i)), (2, .ref (ρm 0)), (1, .ref (ρx 0)), (0, .ref b)])
    (K : ∀ (σx σm : aσ) (H1 : Heap) (locs1 : List Loc), InvV aGX_6 σx → InvV aGM_4 σm → σx 10 = σm 28 → va_P D xCLs (xw cI cZ ρx (cH σx aHX)) H1 → va_P D xCLs (xw cI cZ ρm (cH σm aHM)) H1 → va_S (fun q : Nat => s.heap.size ≤ q) s.heap H1 locs1 → W p l e room_1 s m #[Value.ref b] below meth c H1 locs1 80 5836 Q (F0 m 734 ls [])) : W p l e room_1 s m #[Value.ref b] below meth c H locs 80 5836 Q (F0 m 362 ls []) := by
  have hA : ∀ q : Nat, s.heap.size ≤ q → (fun q : Nat => s.heap.size ≤ q) q := fun _ h => h
  have hbA : ¬ (fun q : Nat => s.heap.size ≤ q) b := Nat.not_le.mpr hbl
  refine lv_aload_n hx hb dL_law_362 rfl (lv_at hl 2 rfl) ?_
  refine lv_aload_n hx hb dL_law_363 rfl (lv_at hl 3 rfl) ?_
  refine lv_iload_n hx hb dL_law_364 rfl (lv_at hl 0 rfl) ?_
  refine lv_iconst (v := 1) hx hb dL_law_365 rfl ?_
  refine lv_iadd hx hb dL_law_366 ?_
  refine lw_tov (lw_i1 i) ?_
  refine va_sld hx hb hX hbl hbA hS (lw_vin (j := 1) hi hL (by decide)) dL_law_367 ?_
  refine lw_call (rest := []) (vs := [.int (xs (Int32.toNatClampNeg (nI (i + 1))))]) (n1 := 460) (n2 := 461) (n3 := 462) (na := 1) (ci := 4) hx hb hml hown hts hns hK hA hl.1 59 aGX_6 (C := cH σx aHX) (ρ := ρx) (con_use (G := aGX_6) cn_59_0 rfl isx_0 (by decide +kernel) [xs (Int32.toNatClampNeg (nI (i + 1)))] hIx ⟨oi_le _, trivial⟩) rfl (Nat.le_of_ble_eq_true rfl) rfl rfl (hx_0 σx) (by decide +kernel) (by decide +kernel) (by decide +kernel) rfl (by decide +kernel) ⟨Nat.le_of_ble_eq_true rfl, Nat.le_of_ble_eq_true rfl⟩ (Nat.le_of_ble_eq_true rfl) dL_law_368 hPx (lw_dl (hDD σx σm)) hS (fun vx τx H1 locs1 hRx hIx1 hPx1 hk1 hS1 => ?_)
  have hPm := lw_keep (hDD σx σm) hPm hk1
  clear hS; have hS := hS1
  refine lv_pop hx hb dL_law_371 rfl ?_
  refine lv_aload_n hx hb dL_law_372 rfl (lv_at hl 1 rfl) ?_
  refine lv_aload_n hx hb dL_law_373 rfl (lv_at hl 3 rfl) ?_
  refine lv_iload_n hx hb dL_law_374 rfl (lv_at hl 0 rfl) ?_
  refine lv_iconst (v := 1) hx hb dL_law_375 rfl ?_
  refine lv_iadd hx hb dL_law_376 ?_
  refine lw_tov (lw_i1 i) ?_
  refine va_sld hx hb hX hbl hbA hS (lw_vin (j := 1) hi hL (by decide)) dL_law_377 ?_
  refine lw_call (rest := []) (vs := [.int (xs (Int32.toNatClampNeg (nI (i + 1))))]) (n1 := 955) (n2 := 956) (n3 := 957) (na := 1) (ci := 5) hx hb hml hown hts hns hK hA hl.1 107 aGM_4 (C := cH σm aHM) (ρ := ρm) (con_use (G := aGM_4) cn_107_0 rfl ism_0 (by decide +kernel) [xs (Int32.toNatClampNeg (nI (i + 1)))] hIm ⟨oi_le _, trivial⟩) rfl (Nat.le_of_ble_eq_true rfl) rfl rfl (hm_0 σm) (by decide +kernel) (by decide +kernel) (by decide +kernel) rfl (by decide +kernel) ⟨Nat.le_of_ble_eq_true rfl, Nat.le_of_ble_eq_true rfl⟩ (Nat.le_of_ble_eq_true rfl) dL_law_378 hPm (lw_dr (hDD σx σm)) hS (fun vm τm H2 locs2 hRm hIm1 hPm1 hk2 hS2 => ?_)
  have hPx2 := lw_keep2 (hDD τx σm) hPx1 hk2
  have hT1 : τx 10 = τm 28 := (show τx 10 = σx 10 from hRx).trans (hT.trans (show τm 28 = σm 28 from hRm).symm)
  refine lv_pop hx hb dL_law_381 rfl ?_
  exact lv_goto (tgt := 734) hx hb dL_law_382 rfl (K τx τm H2 locs2 hIx1 hIm1 hT1 hPx2 hPm1 hS2)
set_option maxHeartbeats 4000000 in
set_option maxRecDepth 100000 in
theorem lw_case_7 {p : Program} {l : Launch} {e : Env} {s : State} {m : MethodId} {below : List Frame} {meth : Method} {c : Code} {D : va_G} {cI cZ : ClassId} {b : Nat} {L i : Nat} {xs : Nat → Int32} {Q : State → Prop} {ρx ρm : Nat → Nat} {σx σm : aσ} {H : Heap} {locs : List Loc} {ls : Array Slot} (hx : p.tables.exec = Jvm.exec) (hb : c.code = code) (hml : c.maxLocals = 4) (hown : s.vm.findClass R_law = some m.cls) (hts : ∀ u ∈ lw_tbl, u.before #[Value.ref b] s = true) (hns : xe_ns xNS s) (hK : va_K D xCLs (xe_ty cI cZ) s) (hX : va_X b L xs s s.heap) (hbl : b < s.heap.size) (hL : L ≤ 4096) (hi : i + 8 ≤ L) (hIx : InvV aGX_6 σx) (hIm : InvV aGM_4 σm) (hT : σx 10 = σm 28) (hPx : va_P D xCLs (xw cI cZ ρx (cH σx aHX)) H) (hPm : va_P D xCLs (xw cI cZ ρm (cH σm aHM)) H) (hDD : ∀ σ τ : aσ, va_D (fun q : Nat => s.heap.size ≤ q) (xw cI cZ ρx (cH σ aHX) ++ xw cI cZ ρm (cH τ aHM))) (hS : va_S (fun q : Nat => s.heap.size ≤ q) s.heap H locs) (hl : lv_has ls 4 [(3, .int (nI i)), (2, .ref (ρm 0)), (1, .ref (ρx 0)), (0, .ref b)])
    (K : ∀ (σx σm : aσ) (H1 : Heap) (locs1 : List Loc), InvV aGX_6 σx → InvV aGM_4 σm → σx 10 = σm 28 → va_P D xCLs (xw cI cZ ρx (cH σx aHX)) H1 → va_P D xCLs (xw cI cZ ρm (cH σm aHM)) H1 → va_S (fun q : Nat => s.heap.size ≤ q) s.heap H1 locs1 → W p l e room_1 s m #[Value.ref b] below meth c H1 locs1 80 5836 Q (F0 m 734 ls [])) : W p l e room_1 s m #[Value.ref b] below meth c H locs 80 5836 Q (F0 m 385 ls []) := by
  have hA : ∀ q : Nat, s.heap.size ≤ q → (fun q : Nat => s.heap.size ≤ q) q := fun _ h => h
  have hbA : ¬ (fun q : Nat => s.heap.size ≤ q) b := Nat.not_le.mpr hbl
  refine lv_aload_n hx hb dL_law_385 rfl (lv_at hl 2 rfl) ?_
  refine lv_aload_n hx hb dL_law_386 rfl (lv_at hl 3 rfl) ?_
  refine lv_iload_n hx hb dL_law_387 rfl (lv_at hl 0 rfl) ?_
  refine lv_iconst (v := 1) hx hb dL_law_388 rfl ?_
  refine lv_iadd hx hb dL_law_389 ?_
  refine lw_tov (lw_i1 i) ?_
  refine va_sld hx hb hX hbl hbA hS (lw_vin (j := 1) hi hL (by decide)) dL_law_390 ?_
  refine lw_call (rest := []) (vs := [.int (xs (Int32.toNatClampNeg (nI (i + 1))))]) (n1 := 476) (n2 := 477) (n3 := 478) (na := 1) (ci := 4) hx hb hml hown hts hns hK hA hl.1 60 aGX_6 (C := cH σx aHX) (ρ := ρx) (con_use (G := aGX_6) cn_60_0 rfl isx_0 (by decide +kernel) [xs (Int32.toNatClampNeg (nI (i + 1)))] hIx ⟨oi_le _, trivial⟩) rfl (Nat.le_of_ble_eq_true rfl) rfl rfl (hx_0 σx) (by decide +kernel) (by decide +kernel) (by decide +kernel) rfl (by decide +kernel) ⟨Nat.le_of_ble_eq_true rfl, Nat.le_of_ble_eq_true rfl⟩ (Nat.le_of_ble_eq_true rfl) dL_law_391 hPx (lw_dl (hDD σx σm)) hS (fun vx τx H1 locs1 hRx hIx1 hPx1 hk1 hS1 => ?_)
  have hPm := lw_keep (hDD σx σm) hPm hk1
  clear hS; have hS := hS1
  refine lv_pop hx hb dL_law_394 rfl ?_
  refine lv_aload_n hx hb dL_law_395 rfl (lv_at hl 1 rfl) ?_
  refine lv_aload_n hx hb dL_law_396 rfl (lv_at hl 3 rfl) ?_
  refine lv_iload_n hx hb dL_law_397 rfl (lv_at hl 0 rfl) ?_
  refine lv_iconst (v := 1) hx hb dL_law_398 rfl ?_
  refine lv_iadd hx hb dL_law_399 ?_
  refine lw_tov (lw_i1 i) ?_
  refine va_sld hx hb hX hbl hbA hS (lw_vin (j := 1) hi hL (by decide)) dL_law_400 ?_
  refine lw_call (rest := []) (vs := [.int (xs (Int32.toNatClampNeg (nI (i + 1))))]) (n1 := 959) (n2 := 960) (n3 := 961) (na := 1) (ci := 5) hx hb hml hown hts hns hK hA hl.1 108 aGM_4 (C := cH σm aHM) (ρ := ρm) (con_use (G := aGM_4) cn_108_0 rfl ism_0 (by decide +kernel) [xs (Int32.toNatClampNeg (nI (i + 1)))] hIm ⟨oi_le _, trivial⟩) rfl (Nat.le_of_ble_eq_true rfl) rfl rfl (hm_0 σm) (by decide +kernel) (by decide +kernel) (by decide +kernel) rfl (by decide +kernel) ⟨Nat.le_of_ble_eq_true rfl, Nat.le_of_ble_eq_true rfl⟩ (Nat.le_of_ble_eq_true rfl) dL_law_401 hPm (lw_dr (hDD σx σm)) hS (fun vm τm H2 locs2 hRm hIm1 hPm1 hk2 hS2 => ?_)
  have hPx2 := lw_keep2 (hDD τx σm) hPx1 hk2
  have hT1 : τx 10 = τm 28 := (show τx 10 = σx 10 from hRx).trans (hT.trans (show τm 28 = σm 28 from hRm).symm)
  refine lv_pop hx hb dL_law_404 rfl ?_
  exact lv_goto (tgt := 734) hx hb dL_law_405 rfl (K τx τm H2 locs2 hIx1 hIm1 hT1 hPx2 hPm1 hS2)
set_option maxHeartbeats 4000000 in
set_option maxRecDepth 100000 in
theorem lw_case_8 {p : Program} {l : Launch} {e : Env} {s : State} {m : MethodId} {below : List Frame} {meth : Method} {c : Code} {D : va_G} {cI cZ : ClassId} {b : Nat} {L i : Nat} {xs : Nat → Int32} {Q : State → Prop} {ρx ρm : Nat → Nat} {σx σm : aσ} {H : Heap} {locs : List Loc} {ls : Array Slot} (hx : p.tables.exec = Jvm.exec) (hb : c.code = code) (hml : c.maxLocals = 4) (hown : s.vm.findClass R_law = some m.cls) (hts : ∀ u ∈ lw_tbl, u.before #[Value.ref b] s = true) (hns : xe_ns xNS s) (hK : va_K D xCLs (xe_ty cI cZ) s) (hX : va_X b L xs s s.heap) (hbl : b < s.heap.size) (hL : L ≤ 4096) (hi : i + 8 ≤ L) (hIx : InvV aGX_6 σx) (hIm : InvV aGM_4 σm) (hT : σx 10 = σm 28) (hPx : va_P D xCLs (xw cI cZ ρx (cH σx aHX)) H) (hPm : va_P D xCLs (xw cI cZ ρm (cH σm aHM)) H) (hDD : ∀ σ τ : aσ, va_D (fun q : Nat => s.heap.size ≤ q) (xw cI cZ ρx (cH σ aHX) ++ xw cI cZ ρm (cH τ aHM))) (hS : va_S (fun q : Nat => s.heap.size ≤ q) s.heap H locs) (hl : lv_has ls 4 [(3, .int (nI i)), (2, .ref (ρm 0)), (1, .ref (ρx 0)), (0, .ref b)])
    (K : ∀ (σx σm : aσ) (H1 : Heap) (locs1 : List Loc), InvV aGX_6 σx → InvV aGM_4 σm → σx 10 = σm 28 → va_P D xCLs (xw cI cZ ρx (cH σx aHX)) H1 → va_P D xCLs (xw cI cZ ρm (cH σm aHM)) H1 → va_S (fun q : Nat => s.heap.size ≤ q) s.heap H1 locs1 → W p l e room_1 s m #[Value.ref b] below meth c H1 locs1 80 5836 Q (F0 m 734 ls [])) : W p l e room_1 s m #[Value.ref b] below meth c H locs 80 5836 Q (F0 m 408 ls []) := by
  have hA : ∀ q : Nat, s.heap.size ≤ q → (fun q : Nat => s.heap.size ≤ q) q := fun _ h => h
  have hbA : ¬ (fun q : Nat => s.heap.size ≤ q) b := Nat.not_le.mpr hbl
  refine lv_aload_n hx hb dL_law_408 rfl (lv_at hl 2 rfl) ?_
  refine lv_aload_n hx hb dL_law_409 rfl (lv_at hl 3 rfl) ?_
  refine lv_iload_n hx hb dL_law_410 rfl (lv_at hl 0 rfl) ?_
  refine lv_iconst (v := 1) hx hb dL_law_411 rfl ?_
  refine lv_iadd hx hb dL_law_412 ?_
  refine lw_tov (lw_i1 i) ?_
  refine va_sld hx hb hX hbl hbA hS (lw_vin (j := 1) hi hL (by decide)) dL_law_413 ?_
  refine lv_aload_n hx hb dL_law_414 rfl (lv_at hl 3 rfl) ?_
  refine lv_iload_n hx hb dL_law_415 rfl (lv_at hl 0 rfl) ?_
  refine lv_iconst (v := 2) hx hb dL_law_416 rfl ?_
  refine lv_iadd hx hb dL_law_417 ?_
  refine lw_tov (lw_i2 i) ?_
  refine va_sld hx hb hX hbl hbA hS (lw_vin (j := 2) hi hL (by decide)) dL_law_418 ?_
  refine lw_call (rest := []) (vs := [.int (xs (Int32.toNatClampNeg (nI (i + 1)))), .int (xs (Int32.toNatClampNeg (nI (i + 2))))]) (n1 := 480) (n2 := 481) (n3 := 482) (na := 2) (ci := 4) hx hb hml hown hts hns hK hA hl.1 61 aGX_6 (C := cH σx aHX) (ρ := ρx) (con_use (G := aGX_6) cn_61_0 rfl isx_0 (by decide +kernel) [xs (Int32.toNatClampNeg (nI (i + 1))), xs (Int32.toNatClampNeg (nI (i + 2)))] hIx ⟨oi_le _, oi_le _, trivial⟩) rfl (Nat.le_of_ble_eq_true rfl) rfl rfl (hx_0 σx) (by decide +kernel) (by decide +kernel) (by decide +kernel) rfl (by decide +kernel) ⟨Nat.le_of_ble_eq_true rfl, Nat.le_of_ble_eq_true rfl⟩ (Nat.le_of_ble_eq_true rfl) dL_law_419 hPx (lw_dl (hDD σx σm)) hS (fun vx τx H1 locs1 hRx hIx1 hPx1 hk1 hS1 => ?_)
  have hPm := lw_keep (hDD σx σm) hPm hk1
  clear hS; have hS := hS1
  refine lv_pop hx hb dL_law_422 rfl ?_
  refine lv_aload_n hx hb dL_law_423 rfl (lv_at hl 1 rfl) ?_
  refine lv_aload_n hx hb dL_law_424 rfl (lv_at hl 3 rfl) ?_
  refine lv_iload_n hx hb dL_law_425 rfl (lv_at hl 0 rfl) ?_
  refine lv_iconst (v := 1) hx hb dL_law_426 rfl ?_
  refine lv_iadd hx hb dL_law_427 ?_
  refine lw_tov (lw_i1 i) ?_
  refine va_sld hx hb hX hbl hbA hS (lw_vin (j := 1) hi hL (by decide)) dL_law_428 ?_
  refine lv_aload_n hx hb dL_law_429 rfl (lv_at hl 3 rfl) ?_
  refine lv_iload_n hx hb dL_law_430 rfl (lv_at hl 0 rfl) ?_
  refine lv_iconst (v := 2) hx hb dL_law_431 rfl ?_
  refine lv_iadd hx hb dL_law_432 ?_
  refine lw_tov (lw_i2 i) ?_
  refine va_sld hx hb hX hbl hbA hS (lw_vin (j := 2) hi hL (by decide)) dL_law_433 ?_
  refine lw_call (rest := []) (vs := [.int (xs (Int32.toNatClampNeg (nI (i + 1)))), .int (xs (Int32.toNatClampNeg (nI (i + 2))))]) (n1 := 963) (n2 := 964) (n3 := 965) (na := 2) (ci := 5) hx hb hml hown hts hns hK hA hl.1 109 aGM_4 (C := cH σm aHM) (ρ := ρm) (con_use (G := aGM_4) cn_109_0 rfl ism_0 (by decide +kernel) [xs (Int32.toNatClampNeg (nI (i + 1))), xs (Int32.toNatClampNeg (nI (i + 2)))] hIm ⟨oi_le _, oi_le _, trivial⟩) rfl (Nat.le_of_ble_eq_true rfl) rfl rfl (hm_0 σm) (by decide +kernel) (by decide +kernel) (by decide +kernel) rfl (by decide +kernel) ⟨Nat.le_of_ble_eq_true rfl, Nat.le_of_ble_eq_true rfl⟩ (Nat.le_of_ble_eq_true rfl) dL_law_434 hPm (lw_dr (hDD σx σm)) hS (fun vm τm H2 locs2 hRm hIm1 hPm1 hk2 hS2 => ?_)
  have hPx2 := lw_keep2 (hDD τx σm) hPx1 hk2
  have hT1 : τx 10 = τm 28 := (show τx 10 = σx 10 from hRx).trans (hT.trans (show τm 28 = σm 28 from hRm).symm)
  refine lv_pop hx hb dL_law_437 rfl ?_
  exact lv_goto (tgt := 734) hx hb dL_law_438 rfl (K τx τm H2 locs2 hIx1 hIm1 hT1 hPx2 hPm1 hS2)
set_option maxHeartbeats 4000000 in
set_option maxRecDepth 100000 in
theorem lw_case_9 {p : Program} {l : Launch} {e : Env} {s : State} {m : MethodId} {below : List Frame} {meth : Method} {c : Code} {D : va_G} {cI cZ : ClassId} {b : Nat} {L i : Nat} {xs : Nat → Int32} {Q : State → Prop} {ρx ρm : Nat → Nat} {σx σm : aσ} {H : Heap} {locs : List Loc} {ls : Array Slot} (hx : p.tables.exec = Jvm.exec) (hb : c.code = code) (hml : c.maxLocals = 4) (hown : s.vm.findClass R_law = some m.cls) (hts : ∀ u ∈ lw_tbl, u.before #[Value.ref b] s = true) (hns : xe_ns xNS s) (hK : va_K D xCLs (xe_ty cI cZ) s) (hX : va_X b L xs s s.heap) (hbl : b < s.heap.size) (hL : L ≤ 4096) (hi : i + 8 ≤ L) (hIx : InvV aGX_6 σx) (hIm : InvV aGM_4 σm) (hT : σx 10 = σm 28) (hPx : va_P D xCLs (xw cI cZ ρx (cH σx aHX)) H) (hPm : va_P D xCLs (xw cI cZ ρm (cH σm aHM)) H) (hDD : ∀ σ τ : aσ, va_D (fun q : Nat => s.heap.size ≤ q) (xw cI cZ ρx (cH σ aHX) ++ xw cI cZ ρm (cH τ aHM))) (hS : va_S (fun q : Nat => s.heap.size ≤ q) s.heap H locs) (hl : lv_has ls 4 [(3, .int (nI i)), (2, .ref (ρm 0)), (1, .ref (ρx 0)), (0, .ref b)])
    (K : ∀ (σx σm : aσ) (H1 : Heap) (locs1 : List Loc), InvV aGX_6 σx → InvV aGM_4 σm → σx 10 = σm 28 → va_P D xCLs (xw cI cZ ρx (cH σx aHX)) H1 → va_P D xCLs (xw cI cZ ρm (cH σm aHM)) H1 → va_S (fun q : Nat => s.heap.size ≤ q) s.heap H1 locs1 → W p l e room_1 s m #[Value.ref b] below meth c H1 locs1 80 5836 Q (F0 m 734 ls [])) : W p l e room_1 s m #[Value.ref b] below meth c H locs 80 5836 Q (F0 m 441 ls []) := by
  have hA : ∀ q : Nat, s.heap.size ≤ q → (fun q : Nat => s.heap.size ≤ q) q := fun _ h => h
  have hbA : ¬ (fun q : Nat => s.heap.size ≤ q) b := Nat.not_le.mpr hbl
  refine lv_aload_n hx hb dL_law_441 rfl (lv_at hl 2 rfl) ?_
  refine lw_call (rest := []) (vs := []) (n1 := 485) (n2 := 486) (n3 := 487) (na := 0) (ci := 4) hx hb hml hown hts hns hK hA hl.1 62 aGX_6 (C := cH σx aHX) (ρ := ρx) (con_use (G := aGX_6) cn_62_0 rfl isx_0 (by decide +kernel) [] hIx trivial) rfl (Nat.le_of_ble_eq_true rfl) rfl rfl (hx_0 σx) (by decide +kernel) (by decide +kernel) (by decide +kernel) rfl (by decide +kernel) ⟨Nat.le_of_ble_eq_true rfl, Nat.le_of_ble_eq_true rfl⟩ (Nat.le_of_ble_eq_true rfl) dL_law_442 hPx (lw_dl (hDD σx σm)) hS (fun vx τx H1 locs1 hRx hIx1 hPx1 hk1 hS1 => ?_)
  have hPm := lw_keep (hDD σx σm) hPm hk1
  clear hS; have hS := hS1
  refine lv_pop hx hb dL_law_445 rfl ?_
  refine lv_aload_n hx hb dL_law_446 rfl (lv_at hl 1 rfl) ?_
  refine lw_call (rest := []) (vs := []) (n1 := 971) (n2 := 972) (n3 := 973) (na := 0) (ci := 5) hx hb hml hown hts hns hK hA hl.1 124 aGM_4 (C := cH σm aHM) (ρ := ρm) (con_use (G := aGM_4) cn_124_0 rfl ism_0 (by decide +kernel) [] hIm trivial) rfl (Nat.le_of_ble_eq_true rfl) rfl rfl (hm_0 σm) (by decide +kernel) (by decide +kernel) (by decide +kernel) rfl (by decide +kernel) ⟨Nat.le_of_ble_eq_true rfl, Nat.le_of_ble_eq_true rfl⟩ (Nat.le_of_ble_eq_true rfl) dL_law_447 hPm (lw_dr (hDD σx σm)) hS (fun vm τm H2 locs2 hRm hIm1 hPm1 hk2 hS2 => ?_)
  have hPx2 := lw_keep2 (hDD τx σm) hPx1 hk2
  have hT1 : τx 10 = τm 28 := (show τx 10 = σx 10 from hRx).trans (hT.trans (show τm 28 = σm 28 from hRm).symm)
  refine lv_pop hx hb dL_law_450 rfl ?_
  exact lv_goto (tgt := 734) hx hb dL_law_451 rfl (K τx τm H2 locs2 hIx1 hIm1 hT1 hPx2 hPm1 hS2)
set_option maxHeartbeats 4000000 in
set_option maxRecDepth 100000 in
theorem lw_case_10 {p : Program} {l : Launch} {e : Env} {s : State} {m : MethodId} {below : List Frame} {meth : Method} {c : Code} {D : va_G} {cI cZ : ClassId} {b : Nat} {L i : Nat} {xs : Nat → Int32} {Q : State → Prop} {ρx ρm : Nat → Nat} {σx σm : aσ} {H : Heap} {locs : List Loc} {ls : Array Slot} (hx : p.tables.exec = Jvm.exec) (hb : c.code = code) (hml : c.maxLocals = 4) (hown : s.vm.findClass R_law = some m.cls) (hts : ∀ u ∈ lw_tbl, u.before #[Value.ref b] s = true) (hns : xe_ns xNS s) (hK : va_K D xCLs (xe_ty cI cZ) s) (hX : va_X b L xs s s.heap) (hbl : b < s.heap.size) (hL : L ≤ 4096) (hi : i + 8 ≤ L) (hIx : InvV aGX_6 σx) (hIm : InvV aGM_4 σm) (hT : σx 10 = σm 28) (hPx : va_P D xCLs (xw cI cZ ρx (cH σx aHX)) H) (hPm : va_P D xCLs (xw cI cZ ρm (cH σm aHM)) H) (hDD : ∀ σ τ : aσ, va_D (fun q : Nat => s.heap.size ≤ q) (xw cI cZ ρx (cH σ aHX) ++ xw cI cZ ρm (cH τ aHM))) (hS : va_S (fun q : Nat => s.heap.size ≤ q) s.heap H locs) (hl : lv_has ls 4 [(3, .int (nI i)), (2, .ref (ρm 0)), (1, .ref (ρx 0)), (0, .ref b)])
    (K : ∀ (σx σm : aσ) (H1 : Heap) (locs1 : List Loc), InvV aGX_6 σx → InvV aGM_4 σm → σx 10 = σm 28 → va_P D xCLs (xw cI cZ ρx (cH σx aHX)) H1 → va_P D xCLs (xw cI cZ ρm (cH σm aHM)) H1 → va_S (fun q : Nat => s.heap.size ≤ q) s.heap H1 locs1 → W p l e room_1 s m #[Value.ref b] below meth c H1 locs1 80 5836 Q (F0 m 734 ls [])) : W p l e room_1 s m #[Value.ref b] below meth c H locs 80 5836 Q (F0 m 454 ls []) := by
  have hA : ∀ q : Nat, s.heap.size ≤ q → (fun q : Nat => s.heap.size ≤ q) q := fun _ h => h
  have hbA : ¬ (fun q : Nat => s.heap.size ≤ q) b := Nat.not_le.mpr hbl
  refine lv_aload_n hx hb dL_law_454 rfl (lv_at hl 2 rfl) ?_
  refine lv_aload_n hx hb dL_law_455 rfl (lv_at hl 3 rfl) ?_
  refine lv_iload_n hx hb dL_law_456 rfl (lv_at hl 0 rfl) ?_
  refine lv_iconst (v := 1) hx hb dL_law_457 rfl ?_
  refine lv_iadd hx hb dL_law_458 ?_
  refine lw_tov (lw_i1 i) ?_
  refine va_sld hx hb hX hbl hbA hS (lw_vin (j := 1) hi hL (by decide)) dL_law_459 ?_
  refine lv_aload_n hx hb dL_law_460 rfl (lv_at hl 3 rfl) ?_
  refine lv_iload_n hx hb dL_law_461 rfl (lv_at hl 0 rfl) ?_
  refine lv_iconst (v := 2) hx hb dL_law_462 rfl ?_
  refine lv_iadd hx hb dL_law_463 ?_
  refine lw_tov (lw_i2 i) ?_
  refine va_sld hx hb hX hbl hbA hS (lw_vin (j := 2) hi hL (by decide)) dL_law_464 ?_
  refine lw_call (rest := []) (vs := [.int (xs (Int32.toNatClampNeg (nI (i + 1)))), .int (xs (Int32.toNatClampNeg (nI (i + 2))))]) (n1 := 564) (n2 := 565) (n3 := 566) (na := 2) (ci := 4) hx hb hml hown hts hns hK hA hl.1 63 aGX_6 (C := cH σx aHX) (ρ := ρx) (con_use (G := aGX_6) cn_63_0 rfl isx_0 (by decide +kernel) [xs (Int32.toNatClampNeg (nI (i + 1))), xs (Int32.toNatClampNeg (nI (i + 2)))] hIx ⟨oi_le _, oi_le _, trivial⟩) rfl (Nat.le_of_ble_eq_true rfl) rfl rfl (hx_0 σx) (by decide +kernel) (by decide +kernel) (by decide +kernel) rfl (by decide +kernel) ⟨Nat.le_of_ble_eq_true rfl, Nat.le_of_ble_eq_true rfl⟩ (Nat.le_of_ble_eq_true rfl) dL_law_465 hPx (lw_dl (hDD σx σm)) hS (fun vx τx H1 locs1 hRx hIx1 hPx1 hk1 hS1 => ?_)
  have hPm := lw_keep (hDD σx σm) hPm hk1
  clear hS; have hS := hS1
  refine lv_pop hx hb dL_law_468 rfl ?_
  refine lv_aload_n hx hb dL_law_469 rfl (lv_at hl 1 rfl) ?_
  refine lv_aload_n hx hb dL_law_470 rfl (lv_at hl 3 rfl) ?_
  refine lv_iload_n hx hb dL_law_471 rfl (lv_at hl 0 rfl) ?_
  refine lv_iconst (v := 1) hx hb dL_law_472 rfl ?_
  refine lv_iadd hx hb dL_law_473 ?_
  refine lw_tov (lw_i1 i) ?_
  refine va_sld hx hb hX hbl hbA hS (lw_vin (j := 1) hi hL (by decide)) dL_law_474 ?_
  refine lv_aload_n hx hb dL_law_475 rfl (lv_at hl 3 rfl) ?_
  refine lv_iload_n hx hb dL_law_476 rfl (lv_at hl 0 rfl) ?_
  refine lv_iconst (v := 2) hx hb dL_law_477 rfl ?_
  refine lv_iadd hx hb dL_law_478 ?_
  refine lw_tov (lw_i2 i) ?_
  refine va_sld hx hb hX hbl hbA hS (lw_vin (j := 2) hi hL (by decide)) dL_law_479 ?_
  refine lw_call (rest := []) (vs := [.int (xs (Int32.toNatClampNeg (nI (i + 1)))), .int (xs (Int32.toNatClampNeg (nI (i + 2))))]) (n1 := 1026) (n2 := 1027) (n3 := 1028) (na := 2) (ci := 5) hx hb hml hown hts hns hK hA hl.1 125 aGM_4 (C := cH σm aHM) (ρ := ρm) (con_use (G := aGM_4) cn_125_0 rfl ism_0 (by decide +kernel) [xs (Int32.toNatClampNeg (nI (i + 1))), xs (Int32.toNatClampNeg (nI (i + 2)))] hIm ⟨oi_le _, oi_le _, trivial⟩) rfl (Nat.le_of_ble_eq_true rfl) rfl rfl (hm_0 σm) (by decide +kernel) (by decide +kernel) (by decide +kernel) rfl (by decide +kernel) ⟨Nat.le_of_ble_eq_true rfl, Nat.le_of_ble_eq_true rfl⟩ (Nat.le_of_ble_eq_true rfl) dL_law_480 hPm (lw_dr (hDD σx σm)) hS (fun vm τm H2 locs2 hRm hIm1 hPm1 hk2 hS2 => ?_)
  have hPx2 := lw_keep2 (hDD τx σm) hPx1 hk2
  have hT1 : τx 10 = τm 28 := (show τx 10 = σx 10 from hRx).trans (hT.trans (show τm 28 = σm 28 from hRm).symm)
  refine lv_pop hx hb dL_law_483 rfl ?_
  exact lv_goto (tgt := 734) hx hb dL_law_484 rfl (K τx τm H2 locs2 hIx1 hIm1 hT1 hPx2 hPm1 hS2)
set_option maxHeartbeats 4000000 in
set_option maxRecDepth 100000 in
theorem lw_case_11 {p : Program} {l : Launch} {e : Env} {s : State} {m : MethodId} {below : List Frame} {meth : Method} {c : Code} {D : va_G} {cI cZ : ClassId} {b : Nat} {L i : Nat} {xs : Nat → Int32} {Q : State → Prop} {ρx ρm : Nat → Nat} {σx σm : aσ} {H : Heap} {locs : List Loc} {ls : Array Slot} (hx : p.tables.exec = Jvm.exec) (hb : c.code = code) (hml : c.maxLocals = 4) (hown : s.vm.findClass R_law = some m.cls) (hts : ∀ u ∈ lw_tbl, u.before #[Value.ref b] s = true) (hns : xe_ns xNS s) (hK : va_K D xCLs (xe_ty cI cZ) s) (hX : va_X b L xs s s.heap) (hbl : b < s.heap.size) (hL : L ≤ 4096) (hi : i + 8 ≤ L) (hIx : InvV aGX_6 σx) (hIm : InvV aGM_4 σm) (hT : σx 10 = σm 28) (hPx : va_P D xCLs (xw cI cZ ρx (cH σx aHX)) H) (hPm : va_P D xCLs (xw cI cZ ρm (cH σm aHM)) H) (hDD : ∀ σ τ : aσ, va_D (fun q : Nat => s.heap.size ≤ q) (xw cI cZ ρx (cH σ aHX) ++ xw cI cZ ρm (cH τ aHM))) (hS : va_S (fun q : Nat => s.heap.size ≤ q) s.heap H locs) (hl : lv_has ls 4 [(3, .int (nI i)), (2, .ref (ρm 0)), (1, .ref (ρx 0)), (0, .ref b)])
    (K : ∀ (σx σm : aσ) (H1 : Heap) (locs1 : List Loc), InvV aGX_6 σx → InvV aGM_4 σm → σx 10 = σm 28 → va_P D xCLs (xw cI cZ ρx (cH σx aHX)) H1 → va_P D xCLs (xw cI cZ ρm (cH σm aHM)) H1 → va_S (fun q : Nat => s.heap.size ≤ q) s.heap H1 locs1 → W p l e room_1 s m #[Value.ref b] below meth c H1 locs1 80 5836 Q (F0 m 734 ls [])) : W p l e room_1 s m #[Value.ref b] below meth c H locs 80 5836 Q (F0 m 487 ls []) := by
  have hA : ∀ q : Nat, s.heap.size ≤ q → (fun q : Nat => s.heap.size ≤ q) q := fun _ h => h
  have hbA : ¬ (fun q : Nat => s.heap.size ≤ q) b := Nat.not_le.mpr hbl
  refine lv_aload_n hx hb dL_law_487 rfl (lv_at hl 2 rfl) ?_
  refine lv_aload_n hx hb dL_law_488 rfl (lv_at hl 3 rfl) ?_
  refine lv_iload_n hx hb dL_law_489 rfl (lv_at hl 0 rfl) ?_
  refine lv_iconst (v := 1) hx hb dL_law_490 rfl ?_
  refine lv_iadd hx hb dL_law_491 ?_
  refine lw_tov (lw_i1 i) ?_
  refine va_sld hx hb hX hbl hbA hS (lw_vin (j := 1) hi hL (by decide)) dL_law_492 ?_
  refine lv_aload_n hx hb dL_law_493 rfl (lv_at hl 3 rfl) ?_
  refine lv_iload_n hx hb dL_law_494 rfl (lv_at hl 0 rfl) ?_
  refine lv_iconst (v := 2) hx hb dL_law_495 rfl ?_
  refine lv_iadd hx hb dL_law_496 ?_
  refine lw_tov (lw_i2 i) ?_
  refine va_sld hx hb hX hbl hbA hS (lw_vin (j := 2) hi hL (by decide)) dL_law_497 ?_
  refine lv_aload_n hx hb dL_law_498 rfl (lv_at hl 3 rfl) ?_
  refine lv_iload_n hx hb dL_law_499 rfl (lv_at hl 0 rfl) ?_
  refine lv_iconst (v := 3) hx hb dL_law_500 rfl ?_
  refine lv_iadd hx hb dL_law_501 ?_
  refine lw_tov (lw_i3 i) ?_
  refine va_sld hx hb hX hbl hbA hS (lw_vin (j := 3) hi hL (by decide)) dL_law_502 ?_
  refine lw_call (rest := []) (vs := [.int (xs (Int32.toNatClampNeg (nI (i + 1)))), .int (xs (Int32.toNatClampNeg (nI (i + 2)))), .int (xs (Int32.toNatClampNeg (nI (i + 3))))]) (n1 := 574) (n2 := 575) (n3 := 576) (na := 3) (ci := 4) hx hb hml hown hts hns hK hA hl.1 64 aGX_6 (C := cH σx aHX) (ρ := ρx) (con_use (G := aGX_6) cn_64_0 rfl isx_0 (by decide +kernel) [xs (Int32.toNatClampNeg (nI (i + 1))), xs (Int32.toNatClampNeg (nI (i + 2))), xs (Int32.toNatClampNeg (nI (i + 3)))] hIx ⟨oi_le _, oi_le _, oi_le _, trivial⟩) rfl (Nat.le_of_ble_eq_true rfl) rfl rfl (hx_0 σx) (by decide +kernel) (by decide +kernel) (by decide +kernel) rfl (by decide +kernel) ⟨Nat.le_of_ble_eq_true rfl, Nat.le_of_ble_eq_true rfl⟩ (Nat.le_of_ble_eq_true rfl) dL_law_503 hPx (lw_dl (hDD σx σm)) hS (fun vx τx H1 locs1 hRx hIx1 hPx1 hk1 hS1 => ?_)
  have hPm := lw_keep (hDD σx σm) hPm hk1
  clear hS; have hS := hS1
  refine lv_pop hx hb dL_law_506 rfl ?_
  refine lv_aload_n hx hb dL_law_507 rfl (lv_at hl 1 rfl) ?_
  refine lv_aload_n hx hb dL_law_508 rfl (lv_at hl 3 rfl) ?_
  refine lv_iload_n hx hb dL_law_509 rfl (lv_at hl 0 rfl) ?_
  refine lv_iconst (v := 1) hx hb dL_law_510 rfl ?_
  refine lv_iadd hx hb dL_law_511 ?_
  refine lw_tov (lw_i1 i) ?_
  refine va_sld hx hb hX hbl hbA hS (lw_vin (j := 1) hi hL (by decide)) dL_law_512 ?_
  refine lv_aload_n hx hb dL_law_513 rfl (lv_at hl 3 rfl) ?_
  refine lv_iload_n hx hb dL_law_514 rfl (lv_at hl 0 rfl) ?_
  refine lv_iconst (v := 2) hx hb dL_law_515 rfl ?_
  refine lv_iadd hx hb dL_law_516 ?_
  refine lw_tov (lw_i2 i) ?_
  refine va_sld hx hb hX hbl hbA hS (lw_vin (j := 2) hi hL (by decide)) dL_law_517 ?_
  refine lv_aload_n hx hb dL_law_518 rfl (lv_at hl 3 rfl) ?_
  refine lv_iload_n hx hb dL_law_519 rfl (lv_at hl 0 rfl) ?_
  refine lv_iconst (v := 3) hx hb dL_law_520 rfl ?_
  refine lv_iadd hx hb dL_law_521 ?_
  refine lw_tov (lw_i3 i) ?_
  refine va_sld hx hb hX hbl hbA hS (lw_vin (j := 3) hi hL (by decide)) dL_law_522 ?_
  refine lw_call (rest := []) (vs := [.int (xs (Int32.toNatClampNeg (nI (i + 1)))), .int (xs (Int32.toNatClampNeg (nI (i + 2)))), .int (xs (Int32.toNatClampNeg (nI (i + 3))))]) (n1 := 1030) (n2 := 1031) (n3 := 1032) (na := 3) (ci := 5) hx hb hml hown hts hns hK hA hl.1 126 aGM_4 (C := cH σm aHM) (ρ := ρm) (con_use (G := aGM_4) cn_126_0 rfl ism_0 (by decide +kernel) [xs (Int32.toNatClampNeg (nI (i + 1))), xs (Int32.toNatClampNeg (nI (i + 2))), xs (Int32.toNatClampNeg (nI (i + 3)))] hIm ⟨oi_le _, oi_le _, oi_le _, trivial⟩) rfl (Nat.le_of_ble_eq_true rfl) rfl rfl (hm_0 σm) (by decide +kernel) (by decide +kernel) (by decide +kernel) rfl (by decide +kernel) ⟨Nat.le_of_ble_eq_true rfl, Nat.le_of_ble_eq_true rfl⟩ (Nat.le_of_ble_eq_true rfl) dL_law_523 hPm (lw_dr (hDD σx σm)) hS (fun vm τm H2 locs2 hRm hIm1 hPm1 hk2 hS2 => ?_)
  have hPx2 := lw_keep2 (hDD τx σm) hPx1 hk2
  have hT1 : τx 10 = τm 28 := (show τx 10 = σx 10 from hRx).trans (hT.trans (show τm 28 = σm 28 from hRm).symm)
  refine lv_pop hx hb dL_law_526 rfl ?_
  exact lv_goto (tgt := 734) hx hb dL_law_527 rfl (K τx τm H2 locs2 hIx1 hIm1 hT1 hPx2 hPm1 hS2)
set_option maxHeartbeats 4000000 in
set_option maxRecDepth 100000 in
theorem lw_case_12 {p : Program} {l : Launch} {e : Env} {s : State} {m : MethodId} {below : List Frame} {meth : Method} {c : Code} {D : va_G} {cI cZ : ClassId} {b : Nat} {L i : Nat} {xs : Nat → Int32} {Q : State → Prop} {ρx ρm : Nat → Nat} {σx σm : aσ} {H : Heap} {locs : List Loc} {ls : Array Slot} (hx : p.tables.exec = Jvm.exec) (hb : c.code = code) (hml : c.maxLocals = 4) (hown : s.vm.findClass R_law = some m.cls) (hts : ∀ u ∈ lw_tbl, u.before #[Value.ref b] s = true) (hns : xe_ns xNS s) (hK : va_K D xCLs (xe_ty cI cZ) s) (hX : va_X b L xs s s.heap) (hbl : b < s.heap.size) (hL : L ≤ 4096) (hi : i + 8 ≤ L) (hIx : InvV aGX_6 σx) (hIm : InvV aGM_4 σm) (hT : σx 10 = σm 28) (hPx : va_P D xCLs (xw cI cZ ρx (cH σx aHX)) H) (hPm : va_P D xCLs (xw cI cZ ρm (cH σm aHM)) H) (hDD : ∀ σ τ : aσ, va_D (fun q : Nat => s.heap.size ≤ q) (xw cI cZ ρx (cH σ aHX) ++ xw cI cZ ρm (cH τ aHM))) (hS : va_S (fun q : Nat => s.heap.size ≤ q) s.heap H locs) (hl : lv_has ls 4 [(3, .int (nI i)), (2, .ref (ρm 0)), (1, .ref (ρx 0)), (0, .ref b)])
    (K : ∀ (σx σm : aσ) (H1 : Heap) (locs1 : List Loc), InvV aGX_6 σx → InvV aGM_4 σm → σx 10 = σm 28 → va_P D xCLs (xw cI cZ ρx (cH σx aHX)) H1 → va_P D xCLs (xw cI cZ ρm (cH σm aHM)) H1 → va_S (fun q : Nat => s.heap.size ≤ q) s.heap H1 locs1 → W p l e room_1 s m #[Value.ref b] below meth c H1 locs1 80 5836 Q (F0 m 734 ls [])) : W p l e room_1 s m #[Value.ref b] below meth c H locs 80 5836 Q (F0 m 530 ls []) := by
  have hA : ∀ q : Nat, s.heap.size ≤ q → (fun q : Nat => s.heap.size ≤ q) q := fun _ h => h
  have hbA : ¬ (fun q : Nat => s.heap.size ≤ q) b := Nat.not_le.mpr hbl
  refine lv_aload_n hx hb dL_law_530 rfl (lv_at hl 2 rfl) ?_
  refine lv_aload_n hx hb dL_law_531 rfl (lv_at hl 3 rfl) ?_
  refine lv_iload_n hx hb dL_law_532 rfl (lv_at hl 0 rfl) ?_
  refine lv_iconst (v := 1) hx hb dL_law_533 rfl ?_
  refine lv_iadd hx hb dL_law_534 ?_
  refine lw_tov (lw_i1 i) ?_
  refine va_sld hx hb hX hbl hbA hS (lw_vin (j := 1) hi hL (by decide)) dL_law_535 ?_
  refine lv_aload_n hx hb dL_law_536 rfl (lv_at hl 3 rfl) ?_
  refine lv_iload_n hx hb dL_law_537 rfl (lv_at hl 0 rfl) ?_
  refine lv_iconst (v := 2) hx hb dL_law_538 rfl ?_
  refine lv_iadd hx hb dL_law_539 ?_
  refine lw_tov (lw_i2 i) ?_
  refine va_sld hx hb hX hbl hbA hS (lw_vin (j := 2) hi hL (by decide)) dL_law_540 ?_
  refine lv_aload_n hx hb dL_law_541 rfl (lv_at hl 3 rfl) ?_
  refine lv_iload_n hx hb dL_law_542 rfl (lv_at hl 0 rfl) ?_
  refine lv_iconst (v := 3) hx hb dL_law_543 rfl ?_
  refine lv_iadd hx hb dL_law_544 ?_
  refine lw_tov (lw_i3 i) ?_
  refine va_sld hx hb hX hbl hbA hS (lw_vin (j := 3) hi hL (by decide)) dL_law_545 ?_
  refine lw_call (rest := []) (vs := [.int (xs (Int32.toNatClampNeg (nI (i + 1)))), .int (xs (Int32.toNatClampNeg (nI (i + 2)))), .int (xs (Int32.toNatClampNeg (nI (i + 3))))]) (n1 := 582) (n2 := 583) (n3 := 584) (na := 3) (ci := 4) hx hb hml hown hts hns hK hA hl.1 65 aGX_6 (C := cH σx aHX) (ρ := ρx) (con_use (G := aGX_6) cn_65_0 rfl isx_0 (by decide +kernel) [xs (Int32.toNatClampNeg (nI (i + 1))), xs (Int32.toNatClampNeg (nI (i + 2))), xs (Int32.toNatClampNeg (nI (i + 3)))] hIx ⟨oi_le _, oi_le _, oi_le _, trivial⟩) rfl (Nat.le_of_ble_eq_true rfl) rfl rfl (hx_0 σx) (by decide +kernel) (by decide +kernel) (by decide +kernel) rfl (by decide +kernel) ⟨Nat.le_of_ble_eq_true rfl, Nat.le_of_ble_eq_true rfl⟩ (Nat.le_of_ble_eq_true rfl) dL_law_546 hPx (lw_dl (hDD σx σm)) hS (fun vx τx H1 locs1 hRx hIx1 hPx1 hk1 hS1 => ?_)
  have hPm := lw_keep (hDD σx σm) hPm hk1
  clear hS; have hS := hS1
  refine lv_pop hx hb dL_law_549 rfl ?_
  refine lv_aload_n hx hb dL_law_550 rfl (lv_at hl 1 rfl) ?_
  refine lv_aload_n hx hb dL_law_551 rfl (lv_at hl 3 rfl) ?_
  refine lv_iload_n hx hb dL_law_552 rfl (lv_at hl 0 rfl) ?_
  refine lv_iconst (v := 1) hx hb dL_law_553 rfl ?_
  refine lv_iadd hx hb dL_law_554 ?_
  refine lw_tov (lw_i1 i) ?_
  refine va_sld hx hb hX hbl hbA hS (lw_vin (j := 1) hi hL (by decide)) dL_law_555 ?_
  refine lv_aload_n hx hb dL_law_556 rfl (lv_at hl 3 rfl) ?_
  refine lv_iload_n hx hb dL_law_557 rfl (lv_at hl 0 rfl) ?_
  refine lv_iconst (v := 2) hx hb dL_law_558 rfl ?_
  refine lv_iadd hx hb dL_law_559 ?_
  refine lw_tov (lw_i2 i) ?_
  refine va_sld hx hb hX hbl hbA hS (lw_vin (j := 2) hi hL (by decide)) dL_law_560 ?_
  refine lv_aload_n hx hb dL_law_561 rfl (lv_at hl 3 rfl) ?_
  refine lv_iload_n hx hb dL_law_562 rfl (lv_at hl 0 rfl) ?_
  refine lv_iconst (v := 3) hx hb dL_law_563 rfl ?_
  refine lv_iadd hx hb dL_law_564 ?_
  refine lw_tov (lw_i3 i) ?_
  refine va_sld hx hb hX hbl hbA hS (lw_vin (j := 3) hi hL (by decide)) dL_law_565 ?_
  refine lw_call (rest := []) (vs := [.int (xs (Int32.toNatClampNeg (nI (i + 1)))), .int (xs (Int32.toNatClampNeg (nI (i + 2)))), .int (xs (Int32.toNatClampNeg (nI (i + 3))))]) (n1 := 967) (n2 := 968) (n3 := 969) (na := 3) (ci := 5) hx hb hml hown hts hns hK hA hl.1 110 aGM_4 (C := cH σm aHM) (ρ := ρm) (con_use (G := aGM_4) cn_110_0 rfl ism_0 (by decide +kernel) [xs (Int32.toNatClampNeg (nI (i + 1))), xs (Int32.toNatClampNeg (nI (i + 2))), xs (Int32.toNatClampNeg (nI (i + 3)))] hIm ⟨oi_le _, oi_le _, oi_le _, trivial⟩) rfl (Nat.le_of_ble_eq_true rfl) rfl rfl (hm_0 σm) (by decide +kernel) (by decide +kernel) (by decide +kernel) rfl (by decide +kernel) ⟨Nat.le_of_ble_eq_true rfl, Nat.le_of_ble_eq_true rfl⟩ (Nat.le_of_ble_eq_true rfl) dL_law_566 hPm (lw_dr (hDD σx σm)) hS (fun vm τm H2 locs2 hRm hIm1 hPm1 hk2 hS2 => ?_)
  have hPx2 := lw_keep2 (hDD τx σm) hPx1 hk2
  have hT1 : τx 10 = τm 28 := (show τx 10 = σx 10 from hRx).trans (hT.trans (show τm 28 = σm 28 from hRm).symm)
  refine lv_pop hx hb dL_law_569 rfl ?_
  exact lv_goto (tgt := 734) hx hb dL_law_570 rfl (K τx τm H2 locs2 hIx1 hIm1 hT1 hPx2 hPm1 hS2)
set_option maxHeartbeats 4000000 in
set_option maxRecDepth 100000 in
theorem lw_case_13 {p : Program} {l : Launch} {e : Env} {s : State} {m : MethodId} {below : List Frame} {meth : Method} {c : Code} {D : va_G} {cI cZ : ClassId} {b : Nat} {L i : Nat} {xs : Nat → Int32} {Q : State → Prop} {ρx ρm : Nat → Nat} {σx σm : aσ} {H : Heap} {locs : List Loc} {ls : Array Slot} (hx : p.tables.exec = Jvm.exec) (hb : c.code = code) (hml : c.maxLocals = 4) (hown : s.vm.findClass R_law = some m.cls) (hts : ∀ u ∈ lw_tbl, u.before #[Value.ref b] s = true) (hns : xe_ns xNS s) (hK : va_K D xCLs (xe_ty cI cZ) s) (hX : va_X b L xs s s.heap) (hbl : b < s.heap.size) (hL : L ≤ 4096) (hi : i + 8 ≤ L) (hIx : InvV aGX_6 σx) (hIm : InvV aGM_4 σm) (hT : σx 10 = σm 28) (hPx : va_P D xCLs (xw cI cZ ρx (cH σx aHX)) H) (hPm : va_P D xCLs (xw cI cZ ρm (cH σm aHM)) H) (hDD : ∀ σ τ : aσ, va_D (fun q : Nat => s.heap.size ≤ q) (xw cI cZ ρx (cH σ aHX) ++ xw cI cZ ρm (cH τ aHM))) (hS : va_S (fun q : Nat => s.heap.size ≤ q) s.heap H locs) (hl : lv_has ls 4 [(3, .int (nI i)), (2, .ref (ρm 0)), (1, .ref (ρx 0)), (0, .ref b)])
    (K : ∀ (σx σm : aσ) (H1 : Heap) (locs1 : List Loc), InvV aGX_6 σx → InvV aGM_4 σm → σx 10 = σm 28 → va_P D xCLs (xw cI cZ ρx (cH σx aHX)) H1 → va_P D xCLs (xw cI cZ ρm (cH σm aHM)) H1 → va_S (fun q : Nat => s.heap.size ≤ q) s.heap H1 locs1 → W p l e room_1 s m #[Value.ref b] below meth c H1 locs1 80 5836 Q (F0 m 734 ls [])) : W p l e room_1 s m #[Value.ref b] below meth c H locs 80 5836 Q (F0 m 573 ls []) := by
  have hA : ∀ q : Nat, s.heap.size ≤ q → (fun q : Nat => s.heap.size ≤ q) q := fun _ h => h
  have hbA : ¬ (fun q : Nat => s.heap.size ≤ q) b := Nat.not_le.mpr hbl
  refine lv_aload_n hx hb dL_law_573 rfl (lv_at hl 2 rfl) ?_
  refine lv_aload_n hx hb dL_law_574 rfl (lv_at hl 3 rfl) ?_
  refine lv_iload_n hx hb dL_law_575 rfl (lv_at hl 0 rfl) ?_
  refine lv_iconst (v := 1) hx hb dL_law_576 rfl ?_
  refine lv_iadd hx hb dL_law_577 ?_
  refine lw_tov (lw_i1 i) ?_
  refine va_sld hx hb hX hbl hbA hS (lw_vin (j := 1) hi hL (by decide)) dL_law_578 ?_
  refine lw_call (rest := []) (vs := [.int (xs (Int32.toNatClampNeg (nI (i + 1))))]) (n1 := 595) (n2 := 596) (n3 := 597) (na := 1) (ci := 4) hx hb hml hown hts hns hK hA hl.1 66 aGX_6 (C := cH σx aHX) (ρ := ρx) (con_use (G := aGX_6) cn_66_0 rfl isx_0 (by decide +kernel) [xs (Int32.toNatClampNeg (nI (i + 1)))] hIx ⟨oi_le _, trivial⟩) rfl (Nat.le_of_ble_eq_true rfl) rfl rfl (hx_0 σx) (by decide +kernel) (by decide +kernel) (by decide +kernel) rfl (by decide +kernel) ⟨Nat.le_of_ble_eq_true rfl, Nat.le_of_ble_eq_true rfl⟩ (Nat.le_of_ble_eq_true rfl) dL_law_579 hPx (lw_dl (hDD σx σm)) hS (fun vx τx H1 locs1 hRx hIx1 hPx1 hk1 hS1 => ?_)
  have hPm := lw_keep (hDD σx σm) hPm hk1
  clear hS; have hS := hS1
  refine lv_pop hx hb dL_law_582 rfl ?_
  refine lv_aload_n hx hb dL_law_583 rfl (lv_at hl 1 rfl) ?_
  refine lv_aload_n hx hb dL_law_584 rfl (lv_at hl 3 rfl) ?_
  refine lv_iload_n hx hb dL_law_585 rfl (lv_at hl 0 rfl) ?_
  refine lv_iconst (v := 1) hx hb dL_law_586 rfl ?_
  refine lv_iadd hx hb dL_law_587 ?_
  refine lw_tov (lw_i1 i) ?_
  refine va_sld hx hb hX hbl hbA hS (lw_vin (j := 1) hi hL (by decide)) dL_law_588 ?_
  refine lw_call (rest := []) (vs := [.int (xs (Int32.toNatClampNeg (nI (i + 1))))]) (n1 := 1034) (n2 := 1035) (n3 := 1036) (na := 1) (ci := 5) hx hb hml hown hts hns hK hA hl.1 128 aGM_4 (C := cH σm aHM) (ρ := ρm) (con_use (G := aGM_4) cn_128_0 rfl ism_0 (by decide +kernel) [xs (Int32.toNatClampNeg (nI (i + 1)))] hIm ⟨oi_le _, trivial⟩) rfl (Nat.le_of_ble_eq_true rfl) rfl rfl (hm_0 σm) (by decide +kernel) (by decide +kernel) (by decide +kernel) rfl (by decide +kernel) ⟨Nat.le_of_ble_eq_true rfl, Nat.le_of_ble_eq_true rfl⟩ (Nat.le_of_ble_eq_true rfl) dL_law_589 hPm (lw_dr (hDD σx σm)) hS (fun vm τm H2 locs2 hRm hIm1 hPm1 hk2 hS2 => ?_)
  have hPx2 := lw_keep2 (hDD τx σm) hPx1 hk2
  have hT1 : τx 10 = τm 28 := (show τx 10 = σx 10 from hRx).trans (hT.trans (show τm 28 = σm 28 from hRm).symm)
  refine lv_pop hx hb dL_law_592 rfl ?_
  exact lv_goto (tgt := 734) hx hb dL_law_593 rfl (K τx τm H2 locs2 hIx1 hIm1 hT1 hPx2 hPm1 hS2)
set_option maxHeartbeats 4000000 in
set_option maxRecDepth 100000 in
theorem lw_case_14 {p : Program} {l : Launch} {e : Env} {s : State} {m : MethodId} {below : List Frame} {meth : Method} {c : Code} {D : va_G} {cI cZ : ClassId} {b : Nat} {L i : Nat} {xs : Nat → Int32} {Q : State → Prop} {ρx ρm : Nat → Nat} {σx σm : aσ} {H : Heap} {locs : List Loc} {ls : Array Slot} (hx : p.tables.exec = Jvm.exec) (hb : c.code = code) (hml : c.maxLocals = 4) (hown : s.vm.findClass R_law = some m.cls) (hts : ∀ u ∈ lw_tbl, u.before #[Value.ref b] s = true) (hns : xe_ns xNS s) (hK : va_K D xCLs (xe_ty cI cZ) s) (hX : va_X b L xs s s.heap) (hbl : b < s.heap.size) (hL : L ≤ 4096) (hi : i + 8 ≤ L) (hIx : InvV aGX_6 σx) (hIm : InvV aGM_4 σm) (hT : σx 10 = σm 28) (hPx : va_P D xCLs (xw cI cZ ρx (cH σx aHX)) H) (hPm : va_P D xCLs (xw cI cZ ρm (cH σm aHM)) H) (hDD : ∀ σ τ : aσ, va_D (fun q : Nat => s.heap.size ≤ q) (xw cI cZ ρx (cH σ aHX) ++ xw cI cZ ρm (cH τ aHM))) (hS : va_S (fun q : Nat => s.heap.size ≤ q) s.heap H locs) (hl : lv_has ls 4 [(3, .int (nI i)), (2, .ref (ρm 0)), (1, .ref (ρx 0)), (0, .ref b)])
    (K : ∀ (σx σm : aσ) (H1 : Heap) (locs1 : List Loc), InvV aGX_6 σx → InvV aGM_4 σm → σx 10 = σm 28 → va_P D xCLs (xw cI cZ ρx (cH σx aHX)) H1 → va_P D xCLs (xw cI cZ ρm (cH σm aHM)) H1 → va_S (fun q : Nat => s.heap.size ≤ q) s.heap H1 locs1 → W p l e room_1 s m #[Value.ref b] below meth c H1 locs1 80 5836 Q (F0 m 734 ls [])) : W p l e room_1 s m #[Value.ref b] below meth c H locs 80 5836 Q (F0 m 596 ls []) := by
  have hA : ∀ q : Nat, s.heap.size ≤ q → (fun q : Nat => s.heap.size ≤ q) q := fun _ h => h
  have hbA : ¬ (fun q : Nat => s.heap.size ≤ q) b := Nat.not_le.mpr hbl
  refine lv_aload_n hx hb dL_law_596 rfl (lv_at hl 2 rfl) ?_
  refine lv_aload_n hx hb dL_law_597 rfl (lv_at hl 3 rfl) ?_
  refine lv_iload_n hx hb dL_law_598 rfl (lv_at hl 0 rfl) ?_
  refine lv_iconst (v := 1) hx hb dL_law_599 rfl ?_
  refine lv_iadd hx hb dL_law_600 ?_
  refine lw_tov (lw_i1 i) ?_
  refine va_sld hx hb hX hbl hbA hS (lw_vin (j := 1) hi hL (by decide)) dL_law_601 ?_
  refine lw_call (rest := []) (vs := [.int (xs (Int32.toNatClampNeg (nI (i + 1))))]) (n1 := 611) (n2 := 612) (n3 := 613) (na := 1) (ci := 4) hx hb hml hown hts hns hK hA hl.1 67 aGX_6 (C := cH σx aHX) (ρ := ρx) (con_use (G := aGX_6) cn_67_0 rfl isx_0 (by decide +kernel) [xs (Int32.toNatClampNeg (nI (i + 1)))] hIx ⟨oi_le _, trivial⟩) rfl (Nat.le_of_ble_eq_true rfl) rfl rfl (hx_0 σx) (by decide +kernel) (by decide +kernel) (by decide +kernel) rfl (by decide +kernel) ⟨Nat.le_of_ble_eq_true rfl, Nat.le_of_ble_eq_true rfl⟩ (Nat.le_of_ble_eq_true rfl) dL_law_602 hPx (lw_dl (hDD σx σm)) hS (fun vx τx H1 locs1 hRx hIx1 hPx1 hk1 hS1 => ?_)
  have hPm := lw_keep (hDD σx σm) hPm hk1
  clear hS; have hS := hS1
  refine lv_pop hx hb dL_law_605 rfl ?_
  refine lv_aload_n hx hb dL_law_606 rfl (lv_at hl 1 rfl) ?_
  refine lv_aload_n hx hb dL_law_607 rfl (lv_at hl 3 rfl) ?_
  refine lv_iload_n hx hb dL_law_608 rfl (lv_at hl 0 rfl) ?_
  refine lv_iconst (v := 1) hx hb dL_law_609 rfl ?_
  refine lv_iadd hx hb dL_law_610 ?_
  refine lw_tov (lw_i1 i) ?_
  refine va_sld hx hb hX hbl hbA hS (lw_vin (j := 1) hi hL (by decide)) dL_law_611 ?_
  refine lw_call (rest := []) (vs := [.int (xs (Int32.toNatClampNeg (nI (i + 1))))]) (n1 := 1042) (n2 := 1043) (n3 := 1044) (na := 1) (ci := 5) hx hb hml hown hts hns hK hA hl.1 129 aGM_4 (C := cH σm aHM) (ρ := ρm) (con_use (G := aGM_4) cn_129_0 rfl ism_0 (by decide +kernel) [xs (Int32.toNatClampNeg (nI (i + 1)))] hIm ⟨oi_le _, trivial⟩) rfl (Nat.le_of_ble_eq_true rfl) rfl rfl (hm_0 σm) (by decide +kernel) (by decide +kernel) (by decide +kernel) rfl (by decide +kernel) ⟨Nat.le_of_ble_eq_true rfl, Nat.le_of_ble_eq_true rfl⟩ (Nat.le_of_ble_eq_true rfl) dL_law_612 hPm (lw_dr (hDD σx σm)) hS (fun vm τm H2 locs2 hRm hIm1 hPm1 hk2 hS2 => ?_)
  have hPx2 := lw_keep2 (hDD τx σm) hPx1 hk2
  have hT1 : τx 10 = τm 28 := (show τx 10 = σx 10 from hRx).trans (hT.trans (show τm 28 = σm 28 from hRm).symm)
  refine lv_pop hx hb dL_law_615 rfl ?_
  exact lv_goto (tgt := 734) hx hb dL_law_616 rfl (K τx τm H2 locs2 hIx1 hIm1 hT1 hPx2 hPm1 hS2)
set_option maxHeartbeats 4000000 in
set_option maxRecDepth 100000 in
theorem lw_case_15 {p : Program} {l : Launch} {e : Env} {s : State} {m : MethodId} {below : List Frame} {meth : Method} {c : Code} {D : va_G} {cI cZ : ClassId} {b : Nat} {L i : Nat} {xs : Nat → Int32} {Q : State → Prop} {ρx ρm : Nat → Nat} {σx σm : aσ} {H : Heap} {locs : List Loc} {ls : Array Slot} (hx : p.tables.exec = Jvm.exec) (hb : c.code = code) (hml : c.maxLocals = 4) (hown : s.vm.findClass R_law = some m.cls) (hts : ∀ u ∈ lw_tbl, u.before #[Value.ref b] s = true) (hns : xe_ns xNS s) (hK : va_K D xCLs (xe_ty cI cZ) s) (hX : va_X b L xs s s.heap) (hbl : b < s.heap.size) (hL : L ≤ 4096) (hi : i + 8 ≤ L) (hIx : InvV aGX_6 σx) (hIm : InvV aGM_4 σm) (hT : σx 10 = σm 28) (hPx : va_P D xCLs (xw cI cZ ρx (cH σx aHX)) H) (hPm : va_P D xCLs (xw cI cZ ρm (cH σm aHM)) H) (hDD : ∀ σ τ : aσ, va_D (fun q : Nat => s.heap.size ≤ q) (xw cI cZ ρx (cH σ aHX) ++ xw cI cZ ρm (cH τ aHM))) (hS : va_S (fun q : Nat => s.heap.size ≤ q) s.heap H locs) (hl : lv_has ls 4 [(3, .int (nI i)), (2, .ref (ρm 0)), (1, .ref (ρx 0)), (0, .ref b)])
    (K : ∀ (σx σm : aσ) (H1 : Heap) (locs1 : List Loc), InvV aGX_6 σx → InvV aGM_4 σm → σx 10 = σm 28 → va_P D xCLs (xw cI cZ ρx (cH σx aHX)) H1 → va_P D xCLs (xw cI cZ ρm (cH σm aHM)) H1 → va_S (fun q : Nat => s.heap.size ≤ q) s.heap H1 locs1 → W p l e room_1 s m #[Value.ref b] below meth c H1 locs1 80 5836 Q (F0 m 734 ls [])) : W p l e room_1 s m #[Value.ref b] below meth c H locs 80 5836 Q (F0 m 619 ls []) := by
  have hA : ∀ q : Nat, s.heap.size ≤ q → (fun q : Nat => s.heap.size ≤ q) q := fun _ h => h
  have hbA : ¬ (fun q : Nat => s.heap.size ≤ q) b := Nat.not_le.mpr hbl
  refine lv_aload_n hx hb dL_law_619 rfl (lv_at hl 2 rfl) ?_
  refine lv_aload_n hx hb dL_law_620 rfl (lv_at hl 3 rfl) ?_
  refine lv_iload_n hx hb dL_law_621 rfl (lv_at hl 0 rfl) ?_
  refine lv_iconst (v := 1) hx hb dL_law_622 rfl ?_
  refine lv_iadd hx hb dL_law_623 ?_
  refine lw_tov (lw_i1 i) ?_
  refine va_sld hx hb hX hbl hbA hS (lw_vin (j := 1) hi hL (by decide)) dL_law_624 ?_
  refine lv_aload_n hx hb dL_law_625 rfl (lv_at hl 3 rfl) ?_
  refine lv_iload_n hx hb dL_law_626 rfl (lv_at hl 0 rfl) ?_
  refine lv_iconst (v := 2) hx hb dL_law_627 rfl ?_
  refine lv_iadd hx hb dL_law_628 ?_
  refine lw_tov (lw_i2 i) ?_
  refine va_sld hx hb hX hbl hbA hS (lw_vin (j := 2) hi hL (by decide)) dL_law_629 ?_
  refine lw_call (rest := []) (vs := [.int (xs (Int32.toNatClampNeg (nI (i + 1)))), .int (xs (Int32.toNatClampNeg (nI (i + 2))))]) (n1 := 615) (n2 := 616) (n3 := 617) (na := 2) (ci := 4) hx hb hml hown hts hns hK hA hl.1 68 aGX_6 (C := cH σx aHX) (ρ := ρx) (use_cx hIx) rfl (Nat.le_of_ble_eq_true rfl) rfl rfl (hx_0 σx) (by decide +kernel) (by decide +kernel) (by decide +kernel) rfl (by decide +kernel) ⟨Nat.le_of_ble_eq_true rfl, Nat.le_of_ble_eq_true rfl⟩ (Nat.le_of_ble_eq_true rfl) dL_law_630 hPx (lw_dl (hDD σx σm)) hS (fun vx τx H1 locs1 hRx hIx1 hPx1 hk1 hS1 => ?_)
  have hPm := lw_keep (hDD σx σm) hPm hk1
  clear hS; have hS := hS1
  refine lv_aload_n hx hb dL_law_633 rfl (lv_at hl 1 rfl) ?_
  refine lv_aload_n hx hb dL_law_634 rfl (lv_at hl 3 rfl) ?_
  refine lv_iload_n hx hb dL_law_635 rfl (lv_at hl 0 rfl) ?_
  refine lv_iconst (v := 1) hx hb dL_law_636 rfl ?_
  refine lv_iadd hx hb dL_law_637 ?_
  refine lw_tov (lw_i1 i) ?_
  refine va_sld hx hb hX hbl hbA hS (lw_vin (j := 1) hi hL (by decide)) dL_law_638 ?_
  refine lv_aload_n hx hb dL_law_639 rfl (lv_at hl 3 rfl) ?_
  refine lv_iload_n hx hb dL_law_640 rfl (lv_at hl 0 rfl) ?_
  refine lv_iconst (v := 2) hx hb dL_law_641 rfl ?_
  refine lv_iadd hx hb dL_law_642 ?_
  refine lw_tov (lw_i2 i) ?_
  refine va_sld hx hb hX hbl hbA hS (lw_vin (j := 2) hi hL (by decide)) dL_law_643 ?_
  refine lw_call (rest := [.int vx]) (vs := [.int (xs (Int32.toNatClampNeg (nI (i + 1)))), .int (xs (Int32.toNatClampNeg (nI (i + 2))))]) (n1 := 1046) (n2 := 1047) (n3 := 1048) (na := 2) (ci := 5) hx hb hml hown hts hns hK hA hl.1 130 aGM_4 (C := cH σm aHM) (ρ := ρm) (use_cm hIm) rfl (Nat.le_of_ble_eq_true rfl) rfl rfl (hm_0 σm) (by decide +kernel) (by decide +kernel) (by decide +kernel) rfl (by decide +kernel) ⟨Nat.le_of_ble_eq_true rfl, Nat.le_of_ble_eq_true rfl⟩ (Nat.le_of_ble_eq_true rfl) dL_law_644 hPm (lw_dr (hDD σx σm)) hS (fun vm τm H2 locs2 hRm hIm1 hPm1 hk2 hS2 => ?_)
  have hPx2 := lw_keep2 (hDD τx σm) hPx1 hk2
  have hRx : cosP (σx 10) (xs (Int32.toNatClampNeg (nI (i + 1)))) (xs (Int32.toNatClampNeg (nI (i + 2)))) (some (.int vx)) (τx 10) := hRx
  have hRm : cosP (σm 28) (xs (Int32.toNatClampNeg (nI (i + 1)))) (xs (Int32.toNatClampNeg (nI (i + 2)))) (some (.int vm)) (τm 28) := hRm
  rw [hT] at hRx
  obtain ⟨hv, hT1⟩ := cos_same hRx hRm
  have hv : vx = vm := Value.int.inj (Option.some.inj hv)
  exact lv_icmp_eq (tgt := 734) hx hb dL_law_647 rfl (fun _ => K τx τm H2 locs2 hIx1 hIm1 hT1 hPx2 hPm1 hS2) (fun hq => absurd hv hq)
set_option maxHeartbeats 4000000 in
set_option maxRecDepth 100000 in
theorem lw_case_16 {p : Program} {l : Launch} {e : Env} {s : State} {m : MethodId} {below : List Frame} {meth : Method} {c : Code} {D : va_G} {cI cZ : ClassId} {b : Nat} {L i : Nat} {xs : Nat → Int32} {Q : State → Prop} {ρx ρm : Nat → Nat} {σx σm : aσ} {H : Heap} {locs : List Loc} {ls : Array Slot} (hx : p.tables.exec = Jvm.exec) (hb : c.code = code) (hml : c.maxLocals = 4) (hown : s.vm.findClass R_law = some m.cls) (hts : ∀ u ∈ lw_tbl, u.before #[Value.ref b] s = true) (hns : xe_ns xNS s) (hK : va_K D xCLs (xe_ty cI cZ) s) (hX : va_X b L xs s s.heap) (hbl : b < s.heap.size) (hL : L ≤ 4096) (hi : i + 8 ≤ L) (hIx : InvV aGX_6 σx) (hIm : InvV aGM_4 σm) (hT : σx 10 = σm 28) (hPx : va_P D xCLs (xw cI cZ ρx (cH σx aHX)) H) (hPm : va_P D xCLs (xw cI cZ ρm (cH σm aHM)) H) (hDD : ∀ σ τ : aσ, va_D (fun q : Nat => s.heap.size ≤ q) (xw cI cZ ρx (cH σ aHX) ++ xw cI cZ ρm (cH τ aHM))) (hS : va_S (fun q : Nat => s.heap.size ≤ q) s.heap H locs) (hl : lv_has ls 4 [(3, .int (nI i)), (2, .ref (ρm 0)), (1, .ref (ρx 0)), (0, .ref b)])
    (K : ∀ (σx σm : aσ) (H1 : Heap) (locs1 : List Loc), InvV aGX_6 σx → InvV aGM_4 σm → σx 10 = σm 28 → va_P D xCLs (xw cI cZ ρx (cH σx aHX)) H1 → va_P D xCLs (xw cI cZ ρm (cH σm aHM)) H1 → va_S (fun q : Nat => s.heap.size ≤ q) s.heap H1 locs1 → W p l e room_1 s m #[Value.ref b] below meth c H1 locs1 80 5836 Q (F0 m 734 ls [])) : W p l e room_1 s m #[Value.ref b] below meth c H locs 80 5836 Q (F0 m 652 ls []) := by
  have hA : ∀ q : Nat, s.heap.size ≤ q → (fun q : Nat => s.heap.size ≤ q) q := fun _ h => h
  have hbA : ¬ (fun q : Nat => s.heap.size ≤ q) b := Nat.not_le.mpr hbl
  refine lv_aload_n hx hb dL_law_652 rfl (lv_at hl 2 rfl) ?_
  refine lw_call (rest := []) (vs := []) (n1 := 619) (n2 := 620) (n3 := 621) (na := 0) (ci := 4) hx hb hml hown hts hns hK hA hl.1 69 aGX_6 (C := cH σx aHX) (ρ := ρx) (con_use (G := aGX_6) cn_69_0 rfl isx_0 (by decide +kernel) [] hIx trivial) rfl (Nat.le_of_ble_eq_true rfl) rfl rfl (hx_0 σx) (by decide +kernel) (by decide +kernel) (by decide +kernel) rfl (by decide +kernel) ⟨Nat.le_of_ble_eq_true rfl, Nat.le_of_ble_eq_true rfl⟩ (Nat.le_of_ble_eq_true rfl) dL_law_653 hPx (lw_dl (hDD σx σm)) hS (fun vx τx H1 locs1 hRx hIx1 hPx1 hk1 hS1 => ?_)
  have hPm := lw_keep (hDD σx σm) hPm hk1
  clear hS; have hS := hS1
  refine lv_pop hx hb dL_law_656 rfl ?_
  refine lv_aload_n hx hb dL_law_657 rfl (lv_at hl 1 rfl) ?_
  refine lw_call (rest := []) (vs := []) (n1 := 1050) (n2 := 1051) (n3 := 1052) (na := 0) (ci := 5) hx hb hml hown hts hns hK hA hl.1 136 aGM_4 (C := cH σm aHM) (ρ := ρm) (con_use (G := aGM_4) cn_136_0 rfl ism_0 (by decide +kernel) [] hIm trivial) rfl (Nat.le_of_ble_eq_true rfl) rfl rfl (hm_0 σm) (by decide +kernel) (by decide +kernel) (by decide +kernel) rfl (by decide +kernel) ⟨Nat.le_of_ble_eq_true rfl, Nat.le_of_ble_eq_true rfl⟩ (Nat.le_of_ble_eq_true rfl) dL_law_658 hPm (lw_dr (hDD σx σm)) hS (fun vm τm H2 locs2 hRm hIm1 hPm1 hk2 hS2 => ?_)
  have hPx2 := lw_keep2 (hDD τx σm) hPx1 hk2
  have hT1 : τx 10 = τm 28 := (show τx 10 = σx 10 from hRx).trans (hT.trans (show τm 28 = σm 28 from hRm).symm)
  refine lv_pop hx hb dL_law_661 rfl ?_
  exact lv_goto (tgt := 734) hx hb dL_law_662 rfl (K τx τm H2 locs2 hIx1 hIm1 hT1 hPx2 hPm1 hS2)
set_option maxHeartbeats 4000000 in
set_option maxRecDepth 100000 in
theorem lw_case_17 {p : Program} {l : Launch} {e : Env} {s : State} {m : MethodId} {below : List Frame} {meth : Method} {c : Code} {D : va_G} {cI cZ : ClassId} {b : Nat} {L i : Nat} {xs : Nat → Int32} {Q : State → Prop} {ρx ρm : Nat → Nat} {σx σm : aσ} {H : Heap} {locs : List Loc} {ls : Array Slot} (hx : p.tables.exec = Jvm.exec) (hb : c.code = code) (hml : c.maxLocals = 4) (hown : s.vm.findClass R_law = some m.cls) (hts : ∀ u ∈ lw_tbl, u.before #[Value.ref b] s = true) (hns : xe_ns xNS s) (hK : va_K D xCLs (xe_ty cI cZ) s) (hX : va_X b L xs s s.heap) (hbl : b < s.heap.size) (hL : L ≤ 4096) (hi : i + 8 ≤ L) (hIx : InvV aGX_6 σx) (hIm : InvV aGM_4 σm) (hT : σx 10 = σm 28) (hPx : va_P D xCLs (xw cI cZ ρx (cH σx aHX)) H) (hPm : va_P D xCLs (xw cI cZ ρm (cH σm aHM)) H) (hDD : ∀ σ τ : aσ, va_D (fun q : Nat => s.heap.size ≤ q) (xw cI cZ ρx (cH σ aHX) ++ xw cI cZ ρm (cH τ aHM))) (hS : va_S (fun q : Nat => s.heap.size ≤ q) s.heap H locs) (hl : lv_has ls 4 [(3, .int (nI i)), (2, .ref (ρm 0)), (1, .ref (ρx 0)), (0, .ref b)])
    (K : ∀ (σx σm : aσ) (H1 : Heap) (locs1 : List Loc), InvV aGX_6 σx → InvV aGM_4 σm → σx 10 = σm 28 → va_P D xCLs (xw cI cZ ρx (cH σx aHX)) H1 → va_P D xCLs (xw cI cZ ρm (cH σm aHM)) H1 → va_S (fun q : Nat => s.heap.size ≤ q) s.heap H1 locs1 → W p l e room_1 s m #[Value.ref b] below meth c H1 locs1 80 5836 Q (F0 m 734 ls [])) : W p l e room_1 s m #[Value.ref b] below meth c H locs 80 5836 Q (F0 m 665 ls []) := by
  have hA : ∀ q : Nat, s.heap.size ≤ q → (fun q : Nat => s.heap.size ≤ q) q := fun _ h => h
  have hbA : ¬ (fun q : Nat => s.heap.size ≤ q) b := Nat.not_le.mpr hbl
  refine lv_aload_n hx hb dL_law_665 rfl (lv_at hl 2 rfl) ?_
  refine lv_aload_n hx hb dL_law_666 rfl (lv_at hl 3 rfl) ?_
  refine lv_iload_n hx hb dL_law_667 rfl (lv_at hl 0 rfl) ?_
  refine lv_iconst (v := 1) hx hb dL_law_668 rfl ?_
  refine lv_iadd hx hb dL_law_669 ?_
  refine lw_tov (lw_i1 i) ?_
  refine va_sld hx hb hX hbl hbA hS (lw_vin (j := 1) hi hL (by decide)) dL_law_670 ?_
  refine lv_aload_n hx hb dL_law_671 rfl (lv_at hl 3 rfl) ?_
  refine lv_iload_n hx hb dL_law_672 rfl (lv_at hl 0 rfl) ?_
  refine lv_iconst (v := 2) hx hb dL_law_673 rfl ?_
  refine lv_iadd hx hb dL_law_674 ?_
  refine lw_tov (lw_i2 i) ?_
  refine va_sld hx hb hX hbl hbA hS (lw_vin (j := 2) hi hL (by decide)) dL_law_675 ?_
  refine lw_call (rest := []) (vs := [.int (xs (Int32.toNatClampNeg (nI (i + 1)))), .int (xs (Int32.toNatClampNeg (nI (i + 2))))]) (n1 := 677) (n2 := 678) (n3 := 679) (na := 2) (ci := 4) hx hb hml hown hts hns hK hA hl.1 70 aGX_6 (C := cH σx aHX) (ρ := ρx) (con_use (G := aGX_6) cn_70_0 rfl isx_0 (by decide +kernel) [xs (Int32.toNatClampNeg (nI (i + 1))), xs (Int32.toNatClampNeg (nI (i + 2)))] hIx ⟨oi_le _, oi_le _, trivial⟩) rfl (Nat.le_of_ble_eq_true rfl) rfl rfl (hx_0 σx) (by decide +kernel) (by decide +kernel) (by decide +kernel) rfl (by decide +kernel) ⟨Nat.le_of_ble_eq_true rfl, Nat.le_of_ble_eq_true rfl⟩ (Nat.le_of_ble_eq_true rfl) dL_law_676 hPx (lw_dl (hDD σx σm)) hS (fun vx τx H1 locs1 hRx hIx1 hPx1 hk1 hS1 => ?_)
  have hPm := lw_keep (hDD σx σm) hPm hk1
  clear hS; have hS := hS1
  refine lv_pop hx hb dL_law_679 rfl ?_
  refine lv_aload_n hx hb dL_law_680 rfl (lv_at hl 1 rfl) ?_
  refine lv_aload_n hx hb dL_law_681 rfl (lv_at hl 3 rfl) ?_
  refine lv_iload_n hx hb dL_law_682 rfl (lv_at hl 0 rfl) ?_
  refine lv_iconst (v := 1) hx hb dL_law_683 rfl ?_
  refine lv_iadd hx hb dL_law_684 ?_
  refine lw_tov (lw_i1 i) ?_
  refine va_sld hx hb hX hbl hbA hS (lw_vin (j := 1) hi hL (by decide)) dL_law_685 ?_
  refine lv_aload_n hx hb dL_law_686 rfl (lv_at hl 3 rfl) ?_
  refine lv_iload_n hx hb dL_law_687 rfl (lv_at hl 0 rfl) ?_
  refine lv_iconst (v := 2) hx hb dL_law_688 rfl ?_
  refine lv_iadd hx hb dL_law_689 ?_
  refine lw_tov (lw_i2 i) ?_
  refine va_sld hx hb hX hbl hbA hS (lw_vin (j := 2) hi hL (by decide)) dL_law_690 ?_
  refine lw_call (rest := []) (vs := [.int (xs (Int32.toNatClampNeg (nI (i + 1)))), .int (xs (Int32.toNatClampNeg (nI (i + 2))))]) (n1 := 1075) (n2 := 1076) (n3 := 1077) (na := 2) (ci := 5) hx hb hml hown hts hns hK hA hl.1 137 aGM_4 (C := cH σm aHM) (ρ := ρm) (con_use (G := aGM_4) cn_137_0 rfl ism_0 (by decide +kernel) [xs (Int32.toNatClampNeg (nI (i + 1))), xs (Int32.toNatClampNeg (nI (i + 2)))] hIm ⟨oi_le _, oi_le _, trivial⟩) rfl (Nat.le_of_ble_eq_true rfl) rfl rfl (hm_0 σm) (by decide +kernel) (by decide +kernel) (by decide +kernel) rfl (by decide +kernel) ⟨Nat.le_of_ble_eq_true rfl, Nat.le_of_ble_eq_true rfl⟩ (Nat.le_of_ble_eq_true rfl) dL_law_691 hPm (lw_dr (hDD σx σm)) hS (fun vm τm H2 locs2 hRm hIm1 hPm1 hk2 hS2 => ?_)
  have hPx2 := lw_keep2 (hDD τx σm) hPx1 hk2
  have hT1 : τx 10 = τm 28 := (show τx 10 = σx 10 from hRx).trans (hT.trans (show τm 28 = σm 28 from hRm).symm)
  refine lv_pop hx hb dL_law_694 rfl ?_
  exact lv_goto (tgt := 734) hx hb dL_law_695 rfl (K τx τm H2 locs2 hIx1 hIm1 hT1 hPx2 hPm1 hS2)
set_option maxHeartbeats 4000000 in
set_option maxRecDepth 100000 in
theorem lw_case_18 {p : Program} {l : Launch} {e : Env} {s : State} {m : MethodId} {below : List Frame} {meth : Method} {c : Code} {D : va_G} {cI cZ : ClassId} {b : Nat} {L i : Nat} {xs : Nat → Int32} {Q : State → Prop} {ρx ρm : Nat → Nat} {σx σm : aσ} {H : Heap} {locs : List Loc} {ls : Array Slot} (hx : p.tables.exec = Jvm.exec) (hb : c.code = code) (hml : c.maxLocals = 4) (hown : s.vm.findClass R_law = some m.cls) (hts : ∀ u ∈ lw_tbl, u.before #[Value.ref b] s = true) (hns : xe_ns xNS s) (hK : va_K D xCLs (xe_ty cI cZ) s) (hX : va_X b L xs s s.heap) (hbl : b < s.heap.size) (hL : L ≤ 4096) (hi : i + 8 ≤ L) (hIx : InvV aGX_6 σx) (hIm : InvV aGM_4 σm) (hT : σx 10 = σm 28) (hPx : va_P D xCLs (xw cI cZ ρx (cH σx aHX)) H) (hPm : va_P D xCLs (xw cI cZ ρm (cH σm aHM)) H) (hDD : ∀ σ τ : aσ, va_D (fun q : Nat => s.heap.size ≤ q) (xw cI cZ ρx (cH σ aHX) ++ xw cI cZ ρm (cH τ aHM))) (hS : va_S (fun q : Nat => s.heap.size ≤ q) s.heap H locs) (hl : lv_has ls 4 [(3, .int (nI i)), (2, .ref (ρm 0)), (1, .ref (ρx 0)), (0, .ref b)])
    (K : ∀ (σx σm : aσ) (H1 : Heap) (locs1 : List Loc), InvV aGX_6 σx → InvV aGM_4 σm → σx 10 = σm 28 → va_P D xCLs (xw cI cZ ρx (cH σx aHX)) H1 → va_P D xCLs (xw cI cZ ρm (cH σm aHM)) H1 → va_S (fun q : Nat => s.heap.size ≤ q) s.heap H1 locs1 → W p l e room_1 s m #[Value.ref b] below meth c H1 locs1 80 5836 Q (F0 m 734 ls [])) : W p l e room_1 s m #[Value.ref b] below meth c H locs 80 5836 Q (F0 m 698 ls []) := by
  have hA : ∀ q : Nat, s.heap.size ≤ q → (fun q : Nat => s.heap.size ≤ q) q := fun _ h => h
  have hbA : ¬ (fun q : Nat => s.heap.size ≤ q) b := Nat.not_le.mpr hbl
  refine lv_aload_n hx hb dL_law_698 rfl (lv_at hl 2 rfl) ?_
  refine lw_call (rest := []) (vs := []) (n1 := 681) (n2 := 682) (n3 := 683) (na := 0) (ci := 4) hx hb hml hown hts hns hK hA hl.1 71 aGX_6 (C := cH σx aHX) (ρ := ρx) (con_use (G := aGX_6) cn_71_0 rfl isx_0 (by decide +kernel) [] hIx trivial) rfl (Nat.le_of_ble_eq_true rfl) rfl rfl (hx_0 σx) (by decide +kernel) (by decide +kernel) (by decide +kernel) rfl (by decide +kernel) ⟨Nat.le_of_ble_eq_true rfl, Nat.le_of_ble_eq_true rfl⟩ (Nat.le_of_ble_eq_true rfl) dL_law_699 hPx (lw_dl (hDD σx σm)) hS (fun vx τx H1 locs1 hRx hIx1 hPx1 hk1 hS1 => ?_)
  have hPm := lw_keep (hDD σx σm) hPm hk1
  clear hS; have hS := hS1
  refine lv_pop hx hb dL_law_702 rfl ?_
  refine lv_aload_n hx hb dL_law_703 rfl (lv_at hl 1 rfl) ?_
  refine lw_call (rest := []) (vs := []) (n1 := 1079) (n2 := 1080) (n3 := 1081) (na := 0) (ci := 5) hx hb hml hown hts hns hK hA hl.1 139 aGM_4 (C := cH σm aHM) (ρ := ρm) (con_use (G := aGM_4) cn_139_0 rfl ism_0 (by decide +kernel) [] hIm trivial) rfl (Nat.le_of_ble_eq_true rfl) rfl rfl (hm_0 σm) (by decide +kernel) (by decide +kernel) (by decide +kernel) rfl (by decide +kernel) ⟨Nat.le_of_ble_eq_true rfl, Nat.le_of_ble_eq_true rfl⟩ (Nat.le_of_ble_eq_true rfl) dL_law_704 hPm (lw_dr (hDD σx σm)) hS (fun vm τm H2 locs2 hRm hIm1 hPm1 hk2 hS2 => ?_)
  have hPx2 := lw_keep2 (hDD τx σm) hPx1 hk2
  have hT1 : τx 10 = τm 28 := (show τx 10 = σx 10 from hRx).trans (hT.trans (show τm 28 = σm 28 from hRm).symm)
  refine lv_pop hx hb dL_law_707 rfl ?_
  exact lv_goto (tgt := 734) hx hb dL_law_708 rfl (K τx τm H2 locs2 hIx1 hIm1 hT1 hPx2 hPm1 hS2)
set_option maxHeartbeats 4000000 in
set_option maxRecDepth 100000 in
theorem lw_case_19 {p : Program} {l : Launch} {e : Env} {s : State} {m : MethodId} {below : List Frame} {meth : Method} {c : Code} {D : va_G} {cI cZ : ClassId} {b : Nat} {L i : Nat} {xs : Nat → Int32} {Q : State → Prop} {ρx ρm : Nat → Nat} {σx σm : aσ} {H : Heap} {locs : List Loc} {ls : Array Slot} (hx : p.tables.exec = Jvm.exec) (hb : c.code = code) (hml : c.maxLocals = 4) (hown : s.vm.findClass R_law = some m.cls) (hts : ∀ u ∈ lw_tbl, u.before #[Value.ref b] s = true) (hns : xe_ns xNS s) (hK : va_K D xCLs (xe_ty cI cZ) s) (hX : va_X b L xs s s.heap) (hbl : b < s.heap.size) (hL : L ≤ 4096) (hi : i + 8 ≤ L) (hIx : InvV aGX_6 σx) (hIm : InvV aGM_4 σm) (hT : σx 10 = σm 28) (hPx : va_P D xCLs (xw cI cZ ρx (cH σx aHX)) H) (hPm : va_P D xCLs (xw cI cZ ρm (cH σm aHM)) H) (hDD : ∀ σ τ : aσ, va_D (fun q : Nat => s.heap.size ≤ q) (xw cI cZ ρx (cH σ aHX) ++ xw cI cZ ρm (cH τ aHM))) (hS : va_S (fun q : Nat => s.heap.size ≤ q) s.heap H locs) (hl : lv_has ls 4 [(3, .int (nI i)), (2, .ref (ρm 0)), (1, .ref (ρx 0)), (0, .ref b)])
    (K : ∀ (σx σm : aσ) (H1 : Heap) (locs1 : List Loc), InvV aGX_6 σx → InvV aGM_4 σm → σx 10 = σm 28 → va_P D xCLs (xw cI cZ ρx (cH σx aHX)) H1 → va_P D xCLs (xw cI cZ ρm (cH σm aHM)) H1 → va_S (fun q : Nat => s.heap.size ≤ q) s.heap H1 locs1 → W p l e room_1 s m #[Value.ref b] below meth c H1 locs1 80 5836 Q (F0 m 734 ls [])) : W p l e room_1 s m #[Value.ref b] below meth c H locs 80 5836 Q (F0 m 711 ls []) := by
  have hA : ∀ q : Nat, s.heap.size ≤ q → (fun q : Nat => s.heap.size ≤ q) q := fun _ h => h
  have hbA : ¬ (fun q : Nat => s.heap.size ≤ q) b := Nat.not_le.mpr hbl
  refine lv_aload_n hx hb dL_law_711 rfl (lv_at hl 2 rfl) ?_
  refine lv_aload_n hx hb dL_law_712 rfl (lv_at hl 3 rfl) ?_
  refine lv_iload_n hx hb dL_law_713 rfl (lv_at hl 0 rfl) ?_
  refine lv_iconst (v := 1) hx hb dL_law_714 rfl ?_
  refine lv_iadd hx hb dL_law_715 ?_
  refine lw_tov (lw_i1 i) ?_
  refine va_sld hx hb hX hbl hbA hS (lw_vin (j := 1) hi hL (by decide)) dL_law_716 ?_
  refine lw_call (rest := []) (vs := [.int (xs (Int32.toNatClampNeg (nI (i + 1))))]) (n1 := 706) (n2 := 707) (n3 := 708) (na := 1) (ci := 4) hx hb hml hown hts hns hK hA hl.1 72 aGX_6 (C := cH σx aHX) (ρ := ρx) (con_use (G := aGX_6) cn_72_0 rfl isx_0 (by decide +kernel) [xs (Int32.toNatClampNeg (nI (i + 1)))] hIx ⟨oi_le _, trivial⟩) rfl (Nat.le_of_ble_eq_true rfl) rfl rfl (hx_0 σx) (by decide +kernel) (by decide +kernel) (by decide +kernel) rfl (by decide +kernel) ⟨Nat.le_of_ble_eq_true rfl, Nat.le_of_ble_eq_true rfl⟩ (Nat.le_of_ble_eq_true rfl) dL_law_717 hPx (lw_dl (hDD σx σm)) hS (fun vx τx H1 locs1 hRx hIx1 hPx1 hk1 hS1 => ?_)
  have hPm := lw_keep (hDD σx σm) hPm hk1
  clear hS; have hS := hS1
  refine lv_pop hx hb dL_law_720 rfl ?_
  refine lv_aload_n hx hb dL_law_721 rfl (lv_at hl 1 rfl) ?_
  refine lv_aload_n hx hb dL_law_722 rfl (lv_at hl 3 rfl) ?_
  refine lv_iload_n hx hb dL_law_723 rfl (lv_at hl 0 rfl) ?_
  refine lv_iconst (v := 1) hx hb dL_law_724 rfl ?_
  refine lv_iadd hx hb dL_law_725 ?_
  refine lw_tov (lw_i1 i) ?_
  refine va_sld hx hb hX hbl hbA hS (lw_vin (j := 1) hi hL (by decide)) dL_law_726 ?_
  refine lw_call (rest := []) (vs := [.int (xs (Int32.toNatClampNeg (nI (i + 1))))]) (n1 := 1087) (n2 := 1088) (n3 := 1089) (na := 1) (ci := 5) hx hb hml hown hts hns hK hA hl.1 140 aGM_4 (C := cH σm aHM) (ρ := ρm) (con_use (G := aGM_4) cn_140_0 rfl ism_0 (by decide +kernel) [xs (Int32.toNatClampNeg (nI (i + 1)))] hIm ⟨oi_le _, trivial⟩) rfl (Nat.le_of_ble_eq_true rfl) rfl rfl (hm_0 σm) (by decide +kernel) (by decide +kernel) (by decide +kernel) rfl (by decide +kernel) ⟨Nat.le_of_ble_eq_true rfl, Nat.le_of_ble_eq_true rfl⟩ (Nat.le_of_ble_eq_true rfl) dL_law_727 hPm (lw_dr (hDD σx σm)) hS (fun vm τm H2 locs2 hRm hIm1 hPm1 hk2 hS2 => ?_)
  have hPx2 := lw_keep2 (hDD τx σm) hPx1 hk2
  have hT1 : τx 10 = τm 28 := (show τx 10 = σx 10 from hRx).trans (hT.trans (show τm 28 = σm 28 from hRm).symm)
  refine lv_pop hx hb dL_law_730 rfl ?_
  exact lv_goto (tgt := 734) hx hb dL_law_731 rfl (K τx τm H2 locs2 hIx1 hIm1 hT1 hPx2 hPm1 hS2)
