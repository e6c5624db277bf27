theorem lw_goodI {y : MethodName} {b : ByteArray} {n : Nat} (h : Cond.code y b n none ∈ xWS) : GoodIn lw_tbl (y_ws y b n) := by
  intro x hx
  have h2 : x ∈ xWS := by
    rcases List.mem_cons.mp hx with e | e
    · rw [e]; exact h
    · exact e
  exact ⟨xWS_in x h2, good_of_word (xWS_good x h2)⟩
theorem lw_nestb : xe_all2 (fun (q : String × Nat × MethodName × String) n => decide (lw_tbl[n]? = some (.methodLinkNest q.1 q.2.1 q.2.2.1 q.2.2.2))) xNS [81, 358, 373, 403, 412, 430, 449, 516, 533, 540, 545, 546, 627, 660] = true := by decide +kernel
theorem lw_nest : ∀ q ∈ xNS, Cond.methodLinkNest q.1 q.2.1 q.2.2.1 q.2.2.2 ∈ lw_tbl := fun q hq => (xe_all2_mem lw_nestb q hq).elim fun _ h => List.mem_of_getElem? (of_decide_eq_true h)
theorem lw_R {a b : va_W} {n : Nat} (hn : a.length = n) : (List.range n).map (fun i => (a ++ b)[i]?) = a.map some := by
  subst hn
  apply List.ext_getElem?
  intro i
  by_cases h : i < a.length
  · simp [h]
  · simp [h]
theorem lw_C {a : va_W} {x : Nat × va_E} {n : Nat} (hn : a.length = n) : [n].map (fun i => (a ++ [x])[i]?) = [x].map some := by
  subst hn
  simp
theorem xw_len (cI cZ : ClassId) (ρ : Nat → Nat) (C : xC) : (xw cI cZ ρ C).length = C.length := by simp [xw]
theorem lw_Dc {A : Nat → Prop} {cI cZ : ClassId} {ρ σ : Nat → Nat} {C1 C2 D1 D2 : xC} (hC : C2.length = C1.length) (hE : D2.length = D1.length) (h : va_D A (xw cI cZ ρ C1 ++ xw cI cZ σ D1)) : va_D A (xw cI cZ ρ C2 ++ xw cI cZ σ D2) := by
  have key : ∀ (i : Nat) (p : Nat × va_E), (xw cI cZ ρ C2 ++ xw cI cZ σ D2)[i]? = some p → ∃ e, (xw cI cZ ρ C1 ++ xw cI cZ σ D1)[i]? = some (p.1, e) := by
    intro i p hp
    by_cases hi : i < C2.length
    · rw [List.getElem?_append_left (by rw [xw_len]; exact hi)] at hp
      obtain ⟨h1, h2⟩ := xw_at hp
      obtain ⟨e, he⟩ := xw_ex (cI := cI) (cZ := cZ) (ρ := ρ) (C := C1) (i := i) (by omega)
      exact ⟨e, by rw [List.getElem?_append_left (by rw [xw_len]; omega), he, h2]⟩
    · rw [List.getElem?_append_right (by rw [xw_len]; omega), xw_len] at hp
      obtain ⟨h1, h2⟩ := xw_at hp
      obtain ⟨e, he⟩ := xw_ex (cI := cI) (cZ := cZ) (ρ := σ) (C := D1) (i := i - C2.length) (by omega)
      refine ⟨e, ?_⟩
      rw [List.getElem?_append_right (by rw [xw_len]; omega), xw_len, ← hC, he, h2]
  refine ⟨fun i j p q hi hj e => ?_, fun k q hk => ?_⟩
  · obtain ⟨e1, h1⟩ := key i p hi
    obtain ⟨e2, h2⟩ := key j q hj
    exact h.1 i j _ _ h1 h2 e
  · obtain ⟨e1, h1⟩ := key k q hk
    exact h.2 k _ h1
theorem lw_left {D : va_G} {a b : va_W} {H : Heap} (h : va_P D xCLs (a ++ b) H) : va_P D xCLs a H := fun k q hk => h k q (by rw [List.getElem?_append_left (List.getElem?_eq_some_iff.mp hk).1]; exact hk)
theorem lw_right {D : va_G} {a b : va_W} {H : Heap} (h : va_P D xCLs (a ++ b) H) : va_P D xCLs b H := fun k q hk => h (a.length + k) q (by rw [List.getElem?_append_right (by omega), show a.length + k - a.length = k by omega]; exact hk)
theorem lw_dl {A : Nat → Prop} {a b : va_W} (h : va_D A (a ++ b)) : va_D A a := ⟨fun i j p q hi hj e => h.1 i j p q (by rw [List.getElem?_append_left (List.getElem?_eq_some_iff.mp hi).1]; exact hi) (by rw [List.getElem?_append_left (List.getElem?_eq_some_iff.mp hj).1]; exact hj) e, fun k q hk => h.2 k q (by rw [List.getElem?_append_left (List.getElem?_eq_some_iff.mp hk).1]; exact hk)⟩
theorem lw_dr {A : Nat → Prop} {a b : va_W} (h : va_D A (a ++ b)) : va_D A b := by
  have key : ∀ {k : Nat} {q : Nat × va_E}, b[k]? = some q → (a ++ b)[a.length + k]? = some q := fun {k q} hk => by rw [List.getElem?_append_right (by omega), show a.length + k - a.length = k by omega]; exact hk
  refine ⟨fun i j p q hi hj e => ?_, fun k q hk => h.2 _ q (key hk)⟩
  have := h.1 _ _ p q (key hi) (key hj) e
  omega
theorem lw_six (j : Nat) (hj : j < 6) : upd (upd (upd (upd (upd (upd (fun _ => 0) 0 1) 1 1) 2 1) 3 1) 4 1) 5 1 j = 1 := by
  rcases (show j = 0 ∨ j = 1 ∨ j = 2 ∨ j = 3 ∨ j = 4 ∨ j = 5 by omega) with rfl | rfl | rfl | rfl | rfl | rfl <;> rfl
theorem lw_eqv {D : va_G} {cI cZ : ClassId} {ρ : Nat → Nat} {C : xC} {i : Nat} {f : Nat → Int32} {H : Heap} (hi : C[i]? = some (.inl (0, 6, .inl (fun _ => 1)))) (hf : ∀ j, j < 6 → f j = 1) (h : va_P D xCLs (xw cI cZ ρ (C.set i (.inl (0, 6, .inl f)))) H) : va_P D xCLs (xw cI cZ ρ C) H := by
  refine xw_eqv h (fun q b hb => ?_)
  by_cases e : i = q
  · subst e
    rw [hi] at hb
    cases hb
    exact ⟨_, List.getElem?_set_self (xz_lt hi), Or.inr ⟨0, 6, f, _, rfl, rfl, hf⟩⟩
  · exact ⟨b, by rw [List.getElem?_set_ne e]; exact hb, Or.inl rfl⟩
theorem xi_20 (x : Int32) : x = 0 ∨ x = 1 ∨ x = 2 ∨ x = 3 ∨ x = 4 ∨ x = 5 ∨ x = 6 ∨ x = 7 ∨ x = 8 ∨ x = 9 ∨ x = 10 ∨ x = 11 ∨ x = 12 ∨ x = 13 ∨ x = 14 ∨ x = 15 ∨ x = 16 ∨ x = 17 ∨ x = 18 ∨ x = 19 ∨ (x.toInt < 0 ∨ 19 < x.toInt) := by
  by_cases h : x.toInt < 0 ∨ 19 < x.toInt
  · exact Or.inr (Or.inr (Or.inr (Or.inr (Or.inr (Or.inr (Or.inr (Or.inr (Or.inr (Or.inr (Or.inr (Or.inr (Or.inr (Or.inr (Or.inr (Or.inr (Or.inr (Or.inr (Or.inr (Or.inr (h))))))))))))))))))))
  · rcases (show x.toInt = 0 ∨ x.toInt = 1 ∨ x.toInt = 2 ∨ x.toInt = 3 ∨ x.toInt = 4 ∨ x.toInt = 5 ∨ x.toInt = 6 ∨ x.toInt = 7 ∨ x.toInt = 8 ∨ x.toInt = 9 ∨ x.toInt = 10 ∨ x.toInt = 11 ∨ x.toInt = 12 ∨ x.toInt = 13 ∨ x.toInt = 14 ∨ x.toInt = 15 ∨ x.toInt = 16 ∨ x.toInt = 17 ∨ x.toInt = 18 ∨ x.toInt = 19 by omega) with e | e | e | e | e | e | e | e | e | e | e | e | e | e | e | e | e | e | e | e
    · exact Or.inl (xi_eq e)
    · exact Or.inr (Or.inl (xi_eq e))
    · exact Or.inr (Or.inr (Or.inl (xi_eq e)))
    · exact Or.inr (Or.inr (Or.inr (Or.inl (xi_eq e))))
    · exact Or.inr (Or.inr (Or.inr (Or.inr (Or.inl (xi_eq e)))))
    · exact Or.inr (Or.inr (Or.inr (Or.inr (Or.inr (Or.inl (xi_eq e))))))
    · exact Or.inr (Or.inr (Or.inr (Or.inr (Or.inr (Or.inr (Or.inl (xi_eq e)))))))
    · exact Or.inr (Or.inr (Or.inr (Or.inr (Or.inr (Or.inr (Or.inr (Or.inl (xi_eq e))))))))
    · exact Or.inr (Or.inr (Or.inr (Or.inr (Or.inr (Or.inr (Or.inr (Or.inr (Or.inl (xi_eq e)))))))))
    · exact Or.inr (Or.inr (Or.inr (Or.inr (Or.inr (Or.inr (Or.inr (Or.inr (Or.inr (Or.inl (xi_eq e))))))))))
    · exact Or.inr (Or.inr (Or.inr (Or.inr (Or.inr (Or.inr (Or.inr (Or.inr (Or.inr (Or.inr (Or.inl (xi_eq e)))))))))))
    · exact Or.inr (Or.inr (Or.inr (Or.inr (Or.inr (Or.inr (Or.inr (Or.inr (Or.inr (Or.inr (Or.inr (Or.inl (xi_eq e))))))))))))
    · exact Or.inr (Or.inr (Or.inr (Or.inr (Or.inr (Or.inr (Or.inr (Or.inr (Or.inr (Or.inr (Or.inr (Or.inr (Or.inl (xi_eq e)))))))))))))
    · exact Or.inr (Or.inr (Or.inr (Or.inr (Or.inr (Or.inr (Or.inr (Or.inr (Or.inr (Or.inr (Or.inr (Or.inr (Or.inr (Or.inl (xi_eq e))))))))))))))
    · exact Or.inr (Or.inr (Or.inr (Or.inr (Or.inr (Or.inr (Or.inr (Or.inr (Or.inr (Or.inr (Or.inr (Or.inr (Or.inr (Or.inr (Or.inl (xi_eq e)))))))))))))))
    · exact Or.inr (Or.inr (Or.inr (Or.inr (Or.inr (Or.inr (Or.inr (Or.inr (Or.inr (Or.inr (Or.inr (Or.inr (Or.inr (Or.inr (Or.inr (Or.inl (xi_eq e))))))))))))))))
    · exact Or.inr (Or.inr (Or.inr (Or.inr (Or.inr (Or.inr (Or.inr (Or.inr (Or.inr (Or.inr (Or.inr (Or.inr (Or.inr (Or.inr (Or.inr (Or.inr (Or.inl (xi_eq e)))))))))))))))))
    · exact Or.inr (Or.inr (Or.inr (Or.inr (Or.inr (Or.inr (Or.inr (Or.inr (Or.inr (Or.inr (Or.inr (Or.inr (Or.inr (Or.inr (Or.inr (Or.inr (Or.inr (Or.inl (xi_eq e))))))))))))))))))
    · exact Or.inr (Or.inr (Or.inr (Or.inr (Or.inr (Or.inr (Or.inr (Or.inr (Or.inr (Or.inr (Or.inr (Or.inr (Or.inr (Or.inr (Or.inr (Or.inr (Or.inr (Or.inr (Or.inl (xi_eq e)))))))))))))))))))
    · exact Or.inr (Or.inr (Or.inr (Or.inr (Or.inr (Or.inr (Or.inr (Or.inr (Or.inr (Or.inr (Or.inr (Or.inr (Or.inr (Or.inr (Or.inr (Or.inr (Or.inr (Or.inr (Or.inr (Or.inl (xi_eq e))))))))))))))))))))
set_option maxHeartbeats 8000000 in
set_option maxRecDepth 100000 in
/-- THE LAW, from its entry -/
theorem whole_start {p : Program} {e : Env} {s : State} {m : MethodId} {below : List Frame} {meth : Method} {c : Code} (l : Launch) {b L : Nat} {xs : Nat → Int32} (hL : L ≤ 8) (C0 : lw_At p s m meth c b L xs) : W p l e room_1 s m #[Value.ref b] below meth c s.heap [] 0 0 (lw_Z below #[Value.ref b] s) (entryFrame m ([Value.ref b] : List Value).toArray 4) := by
  obtain ⟨hx, hb, hr, hml, hown, hts, hX, hbl, hlocks, hgv⟩ := id C0
  have hA : ∀ q : Nat, s.heap.size ≤ q → (fun q : Nat => s.heap.size ≤ q) q := fun _ h => h
  have hbA : ¬ (fun q : Nat => s.heap.size ≤ q) b := Nat.not_le.mpr hbl
  have hinX : ∀ (x : Nat) {C : String} {T : u_T} {N : Nat}, xCLs[x]? = some (C, T, N) → ∀ z ∈ u_ws C T N, z ∈ lw_tbl := fun x h z hz => xWS_in z ((xq_all x _ _ _ h).1 z hz)
  obtain ⟨k0, iS0, hKn0⟩ := u_known (C := RX0) (T := TX0) (N := 14) (n := 14) hts (hinX 0 rfl) (hts _ (xWS_in _ (xe_wd_mem (n := 190) (u := .instantiable RX0 14) (by decide +kernel))))
  obtain ⟨k1, iS1, hKn1⟩ := u_known (C := RX1) (T := TX1) (N := 13) (n := 13) hts (hinX 1 rfl) (hts _ (xWS_in _ (xe_wd_mem (n := 244) (u := .instantiable RX1 13) (by decide +kernel))))
  obtain ⟨k2, iS2, hKn2⟩ := u_known (C := RX2) (T := TX2) (N := 6) (n := 6) hts (hinX 2 rfl) (hts _ (xWS_in _ (xe_wd_mem (n := 80) (u := .instantiable RX2 6) (by decide +kernel))))
  obtain ⟨k3, iS3, hKn3⟩ := u_known (C := RX3) (T := TX3) (N := 18) (n := 18) hts (hinX 3 rfl) (hts _ (xWS_in _ (xe_wd_mem (n := 119) (u := .instantiable RX3 18) (by decide +kernel))))
  obtain ⟨k4, iS4, hKn4⟩ := u_known (C := RX4) (T := TX4) (N := 15) (n := 15) hts (hinX 4 rfl) (hts _ (xWS_in _ (xe_wd_mem (n := 72) (u := .instantiable RX4 15) (by decide +kernel))))
  obtain ⟨k5, iS5, hKn5⟩ := u_known (C := RX5) (T := TX5) (N := 56) (n := 56) hts (hinX 5 rfl) (hts _ (xWS_in _ (xe_wd_mem (n := 711) (u := .instantiable RX5 56) (by decide +kernel))))
  obtain ⟨dC, dI, hKc⟩ : ∃ (dC : Nat → ClassId) (dI : Nat → Nat → Nat), ∀ (k : Nat) (q : vw_C), xCLs[k]? = some q → u_Kn s q.1 q.2.1 q.2.2 (dC k) (dI k) := by
    refine ⟨fun k => [k0, k1, k2, k3, k4, k5].getD k 0, fun k => [iS0, iS1, iS2, iS3, iS4, iS5].getD k iS0, ?_⟩
    intro k q hq
    match k, hq with
    | 0, hq => cases hq; exact hKn0
    | 1, hq => cases hq; exact hKn1
    | 2, hq => cases hq; exact hKn2
    | 3, hq => cases hq; exact hKn3
    | 4, hq => cases hq; exact hKn4
    | 5, hq => cases hq; exact hKn5
    | k + 6, hq => simp [xCLs] at hq
  obtain ⟨cI, kI, cmI, gI1, gI2, gI3⟩ := Cond.arrayClass_spec (type := .int) (hts _ (xWS_in _ (xe_wd_mem (n := 117) (u := .arrayClass .int) (by decide +kernel))))
  obtain ⟨cZ, kZ, cmZ, gZ1, gZ2, gZ3⟩ := Cond.arrayClass_spec (type := .boolean) (hts _ (xWS_in _ (xe_wd_mem (n := 242) (u := .arrayClass .boolean) (by decide +kernel))))
  have hK : va_K (dC, dI) xCLs (xe_ty cI cZ) s := by
    refine ⟨hKc, fun k q h => ?_⟩
    match k, h with
    | 0, h => cases h; exact ⟨fun n z => ⟨fun k h => (by cases h), kI, gI2, cmI, gI3⟩, gI1⟩
    | 1, h => cases h; exact ⟨fun n z => ⟨fun k h => (by cases h), kZ, gZ2, cmZ, gZ3⟩, gZ1⟩
    | k + 2, h => simp at h
  have hns : xe_ns xNS s := by
    intro q hq
    exact va_Nw.of rfl (hts _ (lw_nest q hq))
  have hS : va_S (fun q : Nat => s.heap.size ≤ q) s.heap s.heap [] := va_S.rf
  have hP : va_P (dC, dI) xCLs [] s.heap := fun k q h => by simp at h
  have hD : va_D (fun q : Nat => s.heap.size ≤ q) [] := ⟨fun i j p q h => by simp at h, fun k q h => by simp at h⟩
  have hl := lv_entry ([.ref b]) (n := 4) (Nat.le_of_ble_eq_true rfl)
  rw [lg_entry_eq]
  generalize (lg_sl ([.ref b]) ++ List.replicate (4 - (lg_sl ([.ref b])).length) Slot.unset).toArray = ls at hl ⊢
  have hl : lv_has ls 4 [(0, .ref b)] := hl
  refine va_new (ci := 4) (fs := [.null, .null, .null, .int 0, .null, .int 0, .null, .null, .null, .null, .int 0, .null, .null, .null, .int 0]) (C := RX4) (T := TX4) (N := 15) hx hb hts (hinX 4 rfl) tyX4 tyX4_ok hown (hts _ (xWS_in _ (xe_wd_mem (n := 71) (u := .classLink R_law 7 RX4) (by decide +kernel)))) (hts _ (xWS_in _ (xe_wd_mem (n := 72) (u := .instantiable RX4 15) (by decide +kernel)))) (hts _ (xWS_in _ (xe_wd_mem (n := 63) (u := .initialized RX4) (by decide +kernel)))) hK hP hD hS hA rfl (by decide +kernel) (Nat.le_of_ble_eq_true rfl) (Nat.le_of_ble_eq_true rfl) dL_law_0 (fun q0 H hP hD hS => ?_)
  refine W.widen (k := 1) (n := 15) (by omega) (by omega) ?_
  refine lv_dup hx hb dL_law_3 rfl ?_
  have hP : va_P (dC, dI) xCLs [(q0, .inr (4, [.null, .null, .null, .int 0, .null, .int 0, .null, .null, .null, .null, .int 0, .null, .null, .null, .int 0]))] H := hP
  have hD : va_D (fun q : Nat => s.heap.size ≤ q) [(q0, .inr (4, [.null, .null, .null, .int 0, .null, .int 0, .null, .null, .null, .null, .int 0, .null, .null, .null, .int 0]))] := hD
  have hPc := hP
  have hDc := hD
  have hFc : ∀ z : Nat, va_A [(q0, .inr (4, [.null, .null, .null, .int 0, .null, .int 0, .null, .null, .null, .null, .int 0, .null, .null, .null, .int 0]))] H.size z → s.heap.size ≤ z := xe_free hDc hS hA
  refine va_callv (S := Nat → Nat) (va_runI (As := []) (rest := [.ref q0]) ⟨hx, hb, hml, hown, hts⟩ (kX4_init l (dC, dI) cI cZ q0 H.size) (cwI 0 hts (lw_goodI (xe_wd_mem (n := 75) (u := .code yX4_init cX4_init 2 none) (by decide +kernel))) rfl rfl rfl (hts _ (xWS_in _ (xe_wd_mem (n := 63) (u := .initialized RX4) (by decide +kernel)))) (hts _ (xWS_in _ (xe_wd_mem (n := 73) (u := .methodLink R_law 9 yX4_init) (by decide +kernel)))) (hts _ (xWS_in _ (xe_wd_mem (n := 74) (u := .instanceMethod yX4_init) (by decide +kernel)))) rfl (by decide +kernel) ⟨Nat.le_of_ble_eq_true rfl, Nat.le_of_ble_eq_true rfl⟩) ⟨y_blind _ _ _ _ _ _, y_pre hPc hK hDc hns⟩ rfl rfl hl.1 rfl (lv_room (Nat.le_of_ble_eq_true rfl)) dL_law_4 ⟨Nat.le_of_ble_eq_true rfl, Nat.le_of_ble_eq_true rfl⟩) hS (fun z _ h => hFc z h) hFc (fun u t H1 locs ht hvm hw hB hz1 hk1 hS => ?_)
  obtain ⟨hP1, hD1⟩ := hB
  rw [ht] at hP1
  obtain ⟨hP, hD⟩ := va_join (wr := []) (w1 := xw cI cZ (y_r q0 u) Cx0) hP hD [0] [] rfl rfl (by decide) (by decide) hk1 hFc hP1 hD1
  have hP : va_P (dC, dI) xCLs (xw cI cZ (y_r q0 u) Cx0) H1 := hP
  have hD : va_D (fun q : Nat => s.heap.size ≤ q) (xw cI cZ (y_r q0 u) Cx0) := hD
  generalize H1 = H at hP hS ⊢
  generalize hρx : y_r q0 u = ρx at hP hD
  have hq0 : ρx 0 = q0 := by rw [← hρx]; rfl
  clear hρx hw hP1 hD1 hFc hPc hDc hk1
  refine W.widen (k := 49) (n := 3648) (by omega) (by omega) ?_
  refine lv_astore_n (lv' := [(1, .ref q0), (0, .ref b)]) hx hb dL_law_7 rfl hl (by decide) rfl (fun ls hl => ?_)
  refine va_new (ci := 5) (fs := [.null, .null, .null, .null, .int 0, .int 0, .null, .null, .null, .null, .int 0, .int 0, .int 0, .int 0, .int 0, .null, .int 0, .int 0, .int 0, .int 0, .int 0, .int 0, .null, .null, .int 0, .int 0, .int 0, .int 0, .int 0, .int 0, .null, .null, .null, .null, .null, .null, .null, .null, .null, .null, .int 0, .int 0, .int 0, .null, .null, .null, .int 0, .null, .null, .null, .null, .int 0, .int 0, .int 0, .null, .null]) (C := RX5) (T := TX5) (N := 56) hx hb hts (hinX 5 rfl) tyX5 tyX5_ok hown (hts _ (xWS_in _ (xe_wd_mem (n := 710) (u := .classLink R_law 10 RX5) (by decide +kernel)))) (hts _ (xWS_in _ (xe_wd_mem (n := 711) (u := .instantiable RX5 56) (by decide +kernel)))) (hts _ (xWS_in _ (xe_wd_mem (n := 68) (u := .initialized RX5) (by decide +kernel)))) hK hP hD hS hA rfl (by decide +kernel) (Nat.le_of_ble_eq_true rfl) (Nat.le_of_ble_eq_true rfl) dL_law_8 (fun q1 H hP hD hS => ?_)
  refine W.widen (k := 50) (n := 3704) (by omega) (by omega) ?_
  refine lv_dup hx hb dL_law_11 rfl ?_
  have hPc := lw_right hP
  have hDc := lw_dr hD
  have hFc : ∀ z : Nat, va_A [(q1, .inr (5, [.null, .null, .null, .null, .int 0, .int 0, .null, .null, .null, .null, .int 0, .int 0, .int 0, .int 0, .int 0, .null, .int 0, .int 0, .int 0, .int 0, .int 0, .int 0, .null, .null, .int 0, .int 0, .int 0, .int 0, .int 0, .int 0, .null, .null, .null, .null, .null, .null, .null, .null, .null, .null, .int 0, .int 0, .int 0, .null, .null, .null, .int 0, .null, .null, .null, .null, .int 0, .int 0, .int 0, .null, .null]))] H.size z → s.heap.size ≤ z := xe_free hDc hS hA
  refine va_callv (S := Nat → Nat) (va_runI (As := []) (rest := [.ref q1]) ⟨hx, hb, hml, hown, hts⟩ (kX5_init l (dC, dI) cI cZ q1 H.size) (cwI 0 hts (lw_goodI (xe_wd_mem (n := 714) (u := .code yX5_init cX5_init 1 none) (by decide +kernel))) rfl rfl rfl (hts _ (xWS_in _ (xe_wd_mem (n := 68) (u := .initialized RX5) (by decide +kernel)))) (hts _ (xWS_in _ (xe_wd_mem (n := 712) (u := .methodLink R_law 12 yX5_init) (by decide +kernel)))) (hts _ (xWS_in _ (xe_wd_mem (n := 713) (u := .instanceMethod yX5_init) (by decide +kernel)))) rfl (by decide +kernel) ⟨Nat.le_of_ble_eq_true rfl, Nat.le_of_ble_eq_true rfl⟩) ⟨y_blind _ _ _ _ _ _, y_pre hPc hK hDc hns⟩ rfl rfl hl.1 rfl (lv_room (Nat.le_of_ble_eq_true rfl)) dL_law_12 ⟨Nat.le_of_ble_eq_true rfl, Nat.le_of_ble_eq_true rfl⟩) hS (fun z _ h => hFc z h) hFc (fun u t H1 locs ht hvm hw hB hz1 hk1 hS => ?_)
  obtain ⟨hP1, hD1⟩ := hB
  rw [ht] at hP1
  obtain ⟨hP, hD⟩ := va_join (wr := xw cI cZ ρx Cx0) (w1 := xw cI cZ (y_r q1 u) Cm0) hP hD [49] (List.range 49) (lw_C (by rw [xw_len]; rfl)) (lw_R (by rw [xw_len]; rfl)) (by decide +kernel) (by decide +kernel) hk1 hFc hP1 hD1
  generalize H1 = H at hP hS ⊢
  generalize hρm : y_r q1 u = ρm at hP hD
  have hq1 : ρm 0 = q1 := by rw [← hρm]; rfl
  clear hρm hw hP1 hD1 hFc hPc hDc hk1
  refine W.widen (k := 80) (n := 5836) (by omega) (by omega) ?_
  have hPx : va_P (dC, dI) xCLs (xw cI cZ ρx Cx) H := lw_eqv (i := 8) rfl lw_six (lw_left hP)
  have hPm : va_P (dC, dI) xCLs (xw cI cZ ρm Cm) H := lw_eqv (i := 3) rfl lw_six (lw_right hP)
  have hDD : va_D (fun q : Nat => s.heap.size ≤ q) (xw cI cZ ρx Cx ++ xw cI cZ ρm Cm) := lw_Dc rfl rfl hD
  have hDx := lw_dl hDD
  have hDm := lw_dr hDD
  clear hP hD
  refine lv_astore_n (lv' := [(2, .ref q1), (1, .ref q0), (0, .ref b)]) hx hb dL_law_15 rfl hl (by decide) rfl (fun ls hl => ?_)
  refine lv_iconst (v := 0) hx hb dL_law_16 rfl ?_
  refine lv_istore_n (lv' := [(3, .int 0), (2, .ref q1), (1, .ref q0), (0, .ref b)]) hx hb dL_law_17 rfl hl (by decide) rfl (fun ls hl => ?_)
  subst hq0; subst hq1
  have fin : ∀ (H1 : Heap) (locs1 : List Loc) (ls1 : Array Slot), va_S (fun q : Nat => s.heap.size ≤ q) s.heap H1 locs1 → W p l e room_1 s m #[Value.ref b] below meth c H1 locs1 80 5836 (lw_Z below #[Value.ref b] s) (F0 m 740 ls1 []) := by
    intro H1 locs1 ls1 hS
    refine lv_iconst (v := 1) hx hb dL_law_740 rfl ?_
    refine va_forget (fun q hq => hS.2.2 q hq) ?_
    exact lw_ret hx hb hr hlocks dL_law_741
  refine lv_iload_n hx hb dL_law_18 rfl (lv_at hl 0 rfl) ?_
  refine lv_aload_n hx hb dL_law_19 rfl (lv_at hl 3 rfl) ?_
  refine va_slen hx hb hX hbl hbA hS dL_law_20 ?_
  refine lv_bipush (v := 8) hx hb dL_law_21 rfl ?_
  refine lv_isub hx hb dL_law_23 ?_
  rcases Nat.lt_or_ge L 8 with h8 | h8
  · refine lv_icmp_gt (tgt := 740) hx hb dL_law_24 rfl (fun _ => ?_) (fun hq => ?_)
    · exact fin _ _ _ hS
    · exact absurd (show nI L - 8 < 0 from pk_sneg (a := L) (b := 8) (by omega) h8) hq
  · obtain rfl : L = 8 := by omega
    refine lv_icmp_gt (tgt := 740) hx hb dL_law_24 rfl (fun hq => absurd hq (by decide)) (fun _ => ?_)
    have K : ∀ (H1 : Heap) (locs1 : List Loc), va_S (fun q : Nat => s.heap.size ≤ q) s.heap H1 locs1 → W p l e room_1 s m #[Value.ref b] below meth c H1 locs1 80 5836 (lw_Z below #[Value.ref b] s) (F0 m 734 ls []) := by
      intro H1 locs1 hS
      refine lv_iinc (v := 8) (lv' := [(3, .int 8), (2, .ref (ρm 0)), (1, .ref (ρx 0)), (0, .ref b)]) hx hb dL_law_734 hl (k := 0) rfl rfl (by decide) rfl (fun ls hl => ?_)
      refine lv_goto (tgt := 18) hx hb dL_law_737 rfl ?_
      refine lv_iload_n hx hb dL_law_18 rfl (lv_at hl 0 rfl) ?_
      refine lv_aload_n hx hb dL_law_19 rfl (lv_at hl 3 rfl) ?_
      refine va_slen hx hb hX hbl hbA hS dL_law_20 ?_
      refine lv_bipush (v := 8) hx hb dL_law_21 rfl ?_
      refine lv_isub hx hb dL_law_23 ?_
      exact lv_icmp_gt (tgt := 740) hx hb dL_law_24 rfl (fun _ => fin _ _ _ hS) (fun hq => absurd (by decide) hq)
    refine lv_aload_n hx hb dL_law_27 rfl (lv_at hl 3 rfl) ?_
    refine lv_iload_n hx hb dL_law_28 rfl (lv_at hl 0 rfl) ?_
    refine va_sld hx hb hX hbl hbA hS (by unfold vp_in; decide) dL_law_29 ?_
    refine lv_bipush (v := 31) hx hb dL_law_30 rfl ?_
    refine lv_iand hx hb dL_law_32 ?_
    refine lv_topi (fun t _ => ?_)
    rcases xi_20 t with rfl | rfl | rfl | rfl | rfl | rfl | rfl | rfl | rfl | rfl | rfl | rfl | rfl | rfl | rfl | rfl | rfl | rfl | rfl | rfl | ho
    · refine lv_tableIn (off := 95) (tgt := 128) hx hb dL_law_33 (by decide) (by decide) rfl rfl ?_
      exact lw_case_0 hx hb hml hown hts hns hK hX hbl hPx hPm hDx hDm hDD hS hl K
    · refine lv_tableIn (off := 170) (tgt := 203) hx hb dL_law_33 (by decide) (by decide) rfl rfl ?_
      exact lw_case_1 hx hb hml hown hts hns hK hX hbl hPx hPm hDx hDm hDD hS hl K
    · refine lv_tableIn (off := 257) (tgt := 290) hx hb dL_law_33 (by decide) (by decide) rfl rfl ?_
      exact lw_case_2 hx hb hml hown hts hns hK hX hbl hPx hPm hDx hDm hDD hS hl K
    · refine lv_tableIn (off := 280) (tgt := 313) hx hb dL_law_33 (by decide) (by decide) rfl rfl ?_
      exact lw_case_3 hx hb hml hown hts hns hK hX hbl hPx hPm hDx hDm hDD hS hl K
    · refine lv_tableIn (off := 303) (tgt := 336) hx hb dL_law_33 (by decide) (by decide) rfl rfl ?_
      exact lw_case_4 hx hb hml hown hts hns hK hX hbl hPx hPm hDx hDm hDD hS hl K
    · refine lv_tableIn (off := 316) (tgt := 349) hx hb dL_law_33 (by decide) (by decide) rfl rfl ?_
      exact lw_case_5 hx hb hml hown hts hns hK hX hbl hPx hPm hDx hDm hDD hS hl K
    · refine lv_tableIn (off := 329) (tgt := 362) hx hb dL_law_33 (by decide) (by decide) rfl rfl ?_
      exact lw_case_6 hx hb hml hown hts hns hK hX hbl hPx hPm hDx hDm hDD hS hl K
    · refine lv_tableIn (off := 352) (tgt := 385) hx hb dL_law_33 (by decide) (by decide) rfl rfl ?_
      exact lw_case_7 hx hb hml hown hts hns hK hX hbl hPx hPm hDx hDm hDD hS hl K
    · refine lv_tableIn (off := 375) (tgt := 408) hx hb dL_law_33 (by decide) (by decide) rfl rfl ?_
      exact lw_case_8 hx hb hml hown hts hns hK hX hbl hPx hPm hDx hDm hDD hS hl K
    · refine lv_tableIn (off := 408) (tgt := 441) hx hb dL_law_33 (by decide) (by decide) rfl rfl ?_
      exact lw_case_9 hx hb hml hown hts hns hK hX hbl hPx hPm hDx hDm hDD hS hl K
    · refine lv_tableIn (off := 421) (tgt := 454) hx hb dL_law_33 (by decide) (by decide) rfl rfl ?_
      exact lw_case_10 hx hb hml hown hts hns hK hX hbl hPx hPm hDx hDm hDD hS hl K
    · refine lv_tableIn (off := 454) (tgt := 487) hx hb dL_law_33 (by decide) (by decide) rfl rfl ?_
      exact lw_case_11 hx hb hml hown hts hns hK hX hbl hPx hPm hDx hDm hDD hS hl K
    · refine lv_tableIn (off := 497) (tgt := 530) hx hb dL_law_33 (by decide) (by decide) rfl rfl ?_
      exact lw_case_12 hx hb hml hown hts hns hK hX hbl hPx hPm hDx hDm hDD hS hl K
    · refine lv_tableIn (off := 540) (tgt := 573) hx hb dL_law_33 (by decide) (by decide) rfl rfl ?_
      exact lw_case_13 hx hb hml hown hts hns hK hX hbl hPx hPm hDx hDm hDD hS hl K
    · refine lv_tableIn (off := 563) (tgt := 596) hx hb dL_law_33 (by decide) (by decide) rfl rfl ?_
      exact lw_case_14 hx hb hml hown hts hns hK hX hbl hPx hPm hDx hDm hDD hS hl K
    · refine lv_tableIn (off := 586) (tgt := 619) hx hb dL_law_33 (by decide) (by decide) rfl rfl ?_
      exact lw_case_15 hx hb hml hown hts hns hK hX hbl hPx hPm hDx hDm hDD hS hl K
    · refine lv_tableIn (off := 619) (tgt := 652) hx hb dL_law_33 (by decide) (by decide) rfl rfl ?_
      exact lw_case_16 hx hb hml hown hts hns hK hX hbl hPx hPm hDx hDm hDD hS hl K
    · refine lv_tableIn (off := 632) (tgt := 665) hx hb dL_law_33 (by decide) (by decide) rfl rfl ?_
      exact lw_case_17 hx hb hml hown hts hns hK hX hbl hPx hPm hDx hDm hDD hS hl K
    · refine lv_tableIn (off := 665) (tgt := 698) hx hb dL_law_33 (by decide) (by decide) rfl rfl ?_
      exact lw_case_18 hx hb hml hown hts hns hK hX hbl hPx hPm hDx hDm hDD hS hl K
    · refine lv_tableIn (off := 678) (tgt := 711) hx hb dL_law_33 (by decide) (by decide) rfl rfl ?_
      exact lw_case_19 hx hb hml hown hts hns hK hX hbl hPx hPm hDx hDm hDD hS hl K
    · exact lv_tableOut (tgt := 734) hx hb dL_law_33 ho rfl (K _ _ hS)
