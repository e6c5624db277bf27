set_option maxHeartbeats 2000000 in
set_option maxRecDepth 100000 in
/-- THE LAW, from its entry -/
theorem whole_start {p : Program} {e : Env} {s : State} {m : MethodId} {below : List Frame} {meth : Method} {c : Code} (l : Launch) {b L : Nat} {xs : Nat → Int32} (hL : L ≤ 4096) (C0 : lw_At p s m meth c b L xs) : W p l e room_1 s m #[Value.ref b] below meth c s.heap [] 0 0 (lw_Z below #[Value.ref b] s) (entryFrame m ([Value.ref b] : List Value).toArray 4) := by
  obtain ⟨hx, hb, hr, hml, hown, hts, hX, hbl, hlocks, hgv⟩ := id C0
  have hA : ∀ q : Nat, s.heap.size ≤ q → (fun q : Nat => s.heap.size ≤ q) q := fun _ h => h
  have hbA : ¬ (fun q : Nat => s.heap.size ≤ q) b := Nat.not_le.mpr hbl
  have hinX : ∀ (x : Nat) {C : String} {T : u_T} {N : Nat}, xCLs[x]? = some (C, T, N) → ∀ z ∈ u_ws C T N, z ∈ lw_tbl := fun x {C T N} h z hz => xWS_in z ((xq_all x C T N h).1 z hz)
  obtain ⟨k0, iS0, hKn0⟩ := u_known (C := RX0) (T := TX0) (N := 14) (n := 14) hts (hinX 0 rfl) (hts _ (xWS_in _ (xe_wd_mem (n := 190) (u := .instantiable RX0 14) (by decide +kernel))))
  obtain ⟨k1, iS1, hKn1⟩ := u_known (C := RX1) (T := TX1) (N := 13) (n := 13) hts (hinX 1 rfl) (hts _ (xWS_in _ (xe_wd_mem (n := 244) (u := .instantiable RX1 13) (by decide +kernel))))
  obtain ⟨k2, iS2, hKn2⟩ := u_known (C := RX2) (T := TX2) (N := 6) (n := 6) hts (hinX 2 rfl) (hts _ (xWS_in _ (xe_wd_mem (n := 80) (u := .instantiable RX2 6) (by decide +kernel))))
  obtain ⟨k3, iS3, hKn3⟩ := u_known (C := RX3) (T := TX3) (N := 18) (n := 18) hts (hinX 3 rfl) (hts _ (xWS_in _ (xe_wd_mem (n := 119) (u := .instantiable RX3 18) (by decide +kernel))))
  obtain ⟨k4, iS4, hKn4⟩ := u_known (C := RX4) (T := TX4) (N := 15) (n := 15) hts (hinX 4 rfl) (hts _ (xWS_in _ (xe_wd_mem (n := 72) (u := .instantiable RX4 15) (by decide +kernel))))
  obtain ⟨k5, iS5, hKn5⟩ := u_known (C := RX5) (T := TX5) (N := 56) (n := 56) hts (hinX 5 rfl) (hts _ (xWS_in _ (xe_wd_mem (n := 711) (u := .instantiable RX5 56) (by decide +kernel))))
  obtain ⟨dC, dI, hKc⟩ : ∃ (dC : Nat → ClassId) (dI : Nat → Nat → Nat), ∀ (k : Nat) (q : vw_C), xCLs[k]? = some q → u_Kn s q.1 q.2.1 q.2.2 (dC k) (dI k) := by
    refine ⟨fun k => [k0, k1, k2, k3, k4, k5].getD k 0, fun k => [iS0, iS1, iS2, iS3, iS4, iS5].getD k iS0, ?_⟩
    intro k q hq
    match k, hq with
    | 0, hq => cases hq; exact hKn0
    | 1, hq => cases hq; exact hKn1
    | 2, hq => cases hq; exact hKn2
    | 3, hq => cases hq; exact hKn3
    | 4, hq => cases hq; exact hKn4
    | 5, hq => cases hq; exact hKn5
    | k + 6, hq => simp [xCLs] at hq
  obtain ⟨cI, kI, cmI, gI1, gI2, gI3⟩ := Cond.arrayClass_spec (type := .int) (hts _ (xWS_in _ (xe_wd_mem (n := 117) (u := .arrayClass .int) (by decide +kernel))))
  obtain ⟨cZ, kZ, cmZ, gZ1, gZ2, gZ3⟩ := Cond.arrayClass_spec (type := .boolean) (hts _ (xWS_in _ (xe_wd_mem (n := 242) (u := .arrayClass .boolean) (by decide +kernel))))
  have hK : va_K (dC, dI) xCLs (xe_ty cI cZ) s := by
    refine ⟨hKc, fun k q h => ?_⟩
    match k, h with
    | 0, h => cases h; exact ⟨fun n z => ⟨fun k h => (by cases h), kI, gI2, cmI, gI3⟩, gI1⟩
    | 1, h => cases h; exact ⟨fun n z => ⟨fun k h => (by cases h), kZ, gZ2, cmZ, gZ3⟩, gZ1⟩
    | k + 2, h => simp at h
  have hns : xe_ns xNS s := by
    intro q hq
    exact va_Nw.of rfl (hts _ (lw_nest q hq))
  have hS : va_S (fun q : Nat => s.heap.size ≤ q) s.heap s.heap [] := va_S.rf
  have hP : va_P (dC, dI) xCLs [] s.heap := fun k q h => by simp at h
  have hD : va_D (fun q : Nat => s.heap.size ≤ q) [] := ⟨fun i j p q h => by simp at h, fun k q h => by simp at h⟩
  have hl := lv_entry ([.ref b]) (n := 4) (Nat.le_of_ble_eq_true rfl)
  rw [lg_entry_eq]
  generalize (lg_sl ([.ref b]) ++ List.replicate (4 - (lg_sl ([.ref b])).length) Slot.unset).toArray = ls at hl ⊢
  have hl : lv_has ls 4 [(0, .ref b)] := hl
  refine va_new (ci := 4) (fs := [.null, .null, .null, .int 0, .null, .int 0, .null, .null, .null, .null, .int 0, .null, .null, .null, .int 0]) (C := RX4) (T := TX4) (N := 15) hx hb hts (hinX 4 rfl) tyX4 tyX4_ok hown (hts _ (xWS_in _ (xe_wd_mem (n := 71) (u := .classLink R_law 7 RX4) (by decide +kernel)))) (hts _ (xWS_in _ (xe_wd_mem (n := 72) (u := .instantiable RX4 15) (by decide +kernel)))) (hts _ (xWS_in _ (xe_wd_mem (n := 63) (u := .initialized RX4) (by decide +kernel)))) hK hP hD hS hA rfl (by decide +kernel) (Nat.le_of_ble_eq_true rfl) (Nat.le_of_ble_eq_true rfl) dL_law_0 (fun q0 H hP hD hS => ?_)
  refine W.widen (k := 1) (n := 15) (by omega) (by omega) ?_
  refine lv_dup hx hb dL_law_3 rfl ?_
  have hP : va_P (dC, dI) xCLs [(q0, .inr (4, [.null, .null, .null, .int 0, .null, .int 0, .null, .null, .null, .null, .int 0, .null, .null, .null, .int 0]))] H := hP
  have hD : va_D (fun q : Nat => s.heap.size ≤ q) [(q0, .inr (4, [.null, .null, .null, .int 0, .null, .int 0, .null, .null, .null, .null, .int 0, .null, .null, .null, .int 0]))] := hD
  have hPc := hP
  have hDc := hD
  have hFc : ∀ z : Nat, va_A [(q0, .inr (4, [.null, .null, .null, .int 0, .null, .int 0, .null, .null, .null, .null, .int 0, .null, .null, .null, .int 0]))] H.size z → s.heap.size ≤ z := xe_free hDc hS hA
  refine va_callv (S := Nat → Nat) (va_runI (As := []) (rest := [.ref q0]) ⟨hx, hb, hml, hown, hts⟩ (kX4_init l (dC, dI) cI cZ q0 H.size) (cwI 0 hts (lw_goodI (xe_wd_mem (n := 75) (u := .code yX4_init cX4_init 2 none) (by decide +kernel))) rfl rfl rfl (hts _ (xWS_in _ (xe_wd_mem (n := 63) (u := .initialized RX4) (by decide +kernel)))) (hts _ (xWS_in _ (xe_wd_mem (n := 73) (u := .methodLink R_law 9 yX4_init) (by decide +kernel)))) (hts _ (xWS_in _ (xe_wd_mem (n := 74) (u := .instanceMethod yX4_init) (by decide +kernel)))) rfl (by decide +kernel) ⟨Nat.le_of_ble_eq_true rfl, Nat.le_of_ble_eq_true rfl⟩) ⟨y_blind _ _ _ _ _ _, y_pre hPc hK hDc hns⟩ rfl rfl hl.1 rfl (lv_room (Nat.le_of_ble_eq_true rfl)) dL_law_4 ⟨Nat.le_of_ble_eq_true rfl, Nat.le_of_ble_eq_true rfl⟩) hS (fun z _ h => hFc z h) hFc (fun u t H1 locs ht hvm hw hB hz1 hk1 hS => ?_)
  obtain ⟨hP1, hD1⟩ := hB
  rw [ht] at hP1
  obtain ⟨hP, hD⟩ := va_join (wr := []) (w1 := xw cI cZ (y_r q0 u) Cx0) hP hD [0] [] rfl rfl (by decide) (by decide) hk1 hFc hP1 hD1
  rw [List.nil_append] at hP hD
  generalize H1 = H at hP hS ⊢
  generalize hρx : y_r q0 u = ρx at hP hD
  have hq0 : ρx 0 = q0 := by rw [← hρx]; rfl
  clear hρx hw hP1 hD1 hFc hPc hDc hk1
  refine W.widen (k := 49) (n := 3648) (by omega) (by omega) ?_
  refine lv_astore_n (lv' := [(1, .ref q0), (0, .ref b)]) hx hb dL_law_7 rfl hl (by decide) rfl (fun ls hl => ?_)
  refine va_new (ci := 5) (fs := [.null, .null, .null, .null, .int 0, .int 0, .null, .null, .null, .null, .int 0, .int 0, .int 0, .int 0, .int 0, .null, .int 0, .int 0, .int 0, .int 0, .int 0, .int 0, .null, .null, .int 0, .int 0, .int 0, .int 0, .int 0, .int 0, .null, .null, .null, .null, .null, .null, .null, .null, .null, .null, .int 0, .int 0, .int 0, .null, .null, .null, .int 0, .null, .null, .null, .null, .int 0, .int 0, .int 0, .null, .null]) (C := RX5) (T := TX5) (N := 56) hx hb hts (hinX 5 rfl) tyX5 tyX5_ok hown (hts _ (xWS_in _ (xe_wd_mem (n := 710) (u := .classLink R_law 10 RX5) (by decide +kernel)))) (hts _ (xWS_in _ (xe_wd_mem (n := 711) (u := .instantiable RX5 56) (by decide +kernel)))) (hts _ (xWS_in _ (xe_wd_mem (n := 68) (u := .initialized RX5) (by decide +kernel)))) hK hP hD hS hA rfl (by decide +kernel) (Nat.le_of_ble_eq_true rfl) (Nat.le_of_ble_eq_true rfl) dL_law_8 (fun q1 H hP hD hS => ?_)
  refine W.widen (k := 50) (n := 3704) (by omega) (by omega) ?_
  refine lv_dup hx hb dL_law_11 rfl ?_
  have hPc := lw_right hP
  have hDc := lw_dr hD
  have hFc : ∀ z : Nat, va_A [(q1, .inr (5, [.null, .null, .null, .null, .int 0, .int 0, .null, .null, .null, .null, .int 0, .int 0, .int 0, .int 0, .int 0, .null, .int 0, .int 0, .int 0, .int 0, .int 0, .int 0, .null, .null, .int 0, .int 0, .int 0, .int 0, .int 0, .int 0, .null, .null, .null, .null, .null, .null, .null, .null, .null, .null, .int 0, .int 0, .int 0, .null, .null, .null, .int 0, .null, .null, .null, .null, .int 0, .int 0, .int 0, .null, .null]))] H.size z → s.heap.size ≤ z := xe_free hDc hS hA
  refine va_callv (S := Nat → Nat) (va_runI (As := []) (rest := [.ref q1]) ⟨hx, hb, hml, hown, hts⟩ (kX5_init l (dC, dI) cI cZ q1 H.size) (cwI 0 hts (lw_goodI (xe_wd_mem (n := 714) (u := .code yX5_init cX5_init 1 none) (by decide +kernel))) rfl rfl rfl (hts _ (xWS_in _ (xe_wd_mem (n := 68) (u := .initialized RX5) (by decide +kernel)))) (hts _ (xWS_in _ (xe_wd_mem (n := 712) (u := .methodLink R_law 12 yX5_init) (by decide +kernel)))) (hts _ (xWS_in _ (xe_wd_mem (n := 713) (u := .instanceMethod yX5_init) (by decide +kernel)))) rfl (by decide +kernel) ⟨Nat.le_of_ble_eq_true rfl, Nat.le_of_ble_eq_true rfl⟩) ⟨y_blind _ _ _ _ _ _, y_pre hPc hK hDc hns⟩ rfl rfl hl.1 rfl (lv_room (Nat.le_of_ble_eq_true rfl)) dL_law_12 ⟨Nat.le_of_ble_eq_true rfl, Nat.le_of_ble_eq_true rfl⟩) hS (fun z _ h => hFc z h) hFc (fun u t H1 locs ht hvm hw hB hz1 hk1 hS => ?_)
  obtain ⟨hP1, hD1⟩ := hB
  rw [ht] at hP1
  obtain ⟨hP, hD⟩ := va_join (wr := xw cI cZ ρx Cx0) (w1 := xw cI cZ (y_r q1 u) Cm0) hP hD [49] (List.range 49) (lw_C (by rw [xw_len]; rfl)) (lw_R (by rw [xw_len]; rfl)) (by decide +kernel) (by decide +kernel) hk1 hFc hP1 hD1
  generalize H1 = H at hP hS ⊢
  generalize hρm : y_r q1 u = ρm at hP hD
  have hq1 : ρm 0 = q1 := by rw [← hρm]; rfl
  clear hρm hw hP1 hD1 hFc hPc hDc hk1
  refine W.widen (k := 80) (n := 5836) (by omega) (by omega) ?_
  have hPx : va_P (dC, dI) xCLs (xw cI cZ ρx Cx) H := lw_eqx (lw_left hP)
  have hPm : va_P (dC, dI) xCLs (xw cI cZ ρm Cm) H := lw_eqm (lw_right hP)
  have hDD : va_D (fun q : Nat => s.heap.size ≤ q) (xw cI cZ ρx Cx ++ xw cI cZ ρm Cm) := lw_Dc (C1 := Cx0) (C2 := Cx) (D1 := Cm0) (D2 := Cm) lw_lx lw_lm hD
  have hDx := lw_dl hDD
  have hDm := lw_dr hDD
  clear hP hD
  refine lv_astore_n (lv' := [(2, .ref q1), (1, .ref q0), (0, .ref b)]) hx hb dL_law_15 rfl hl (by decide) rfl (fun ls hl => ?_)
  refine lv_iconst (v := 0) hx hb dL_law_16 rfl ?_
  refine lv_istore_n (lv' := [(3, .int 0), (2, .ref q1), (1, .ref q0), (0, .ref b)]) hx hb dL_law_17 rfl hl (by decide) rfl (fun ls hl => ?_)
  subst hq0; subst hq1
  rw [s0_x_eq] at hPx
  rw [s0_m_eq] at hPm
  have hDD1 : ∀ σ τ : aσ, va_D (fun q : Nat => s.heap.size ≤ q) (xw cI cZ ρx (cH σ aHX) ++ xw cI cZ ρm (cH τ aHM)) := fun σ τ => lw_Dc (C1 := Cx) (C2 := cH σ aHX) (D1 := Cm) (D2 := cH τ aHM) (by rw [s0_x_eq]; exact cH_len _ _ _) (by rw [s0_m_eq]; exact cH_len _ _ _) hDD
  exact lw_head hL C0 hns hK hDD1 L 0 s0_x s0_m _ _ _ (by omega) (by omega) s0_x_inv s0_m_inv rfl hPx hPm hS hl
