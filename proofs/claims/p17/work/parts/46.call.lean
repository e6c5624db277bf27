/-! THE LAW'S CALLS -/
theorem xWS_in : ∀ u ∈ xWS, u ∈ lw_tbl := fun _ h => (List.mem_filter.mp h).1
theorem lw_good {X : xM} {ps : List Cond} (hp : ∀ u ∈ ps, u ∈ xWS) (h : Cond.code (xm_y X) (xm_c X) (xm_n X) (xm_r X) ∈ xWS) : GoodIn lw_tbl (ps ++ xe_ws xWS X) := by
  intro u hu
  have h2 : u ∈ xWS := by
    rcases List.mem_append.mp hu with e | e
    · exact hp u e
    · rcases List.mem_cons.mp e with e | e
      · rw [e]; exact h
      · exact e
  exact ⟨xWS_in u h2, good_of_word (xWS_good u h2)⟩
theorem lw_tov {p : Program} {l : Launch} {e : Env} {R : Room} {s : State} {m : MethodId} {args : Array Value} {below : List Frame} {meth : Method} {c : Code} {H : Heap} {locs : List Loc} {cells slots : Nat} {Q : State → Prop} {pc : Nat} {ls : Array Slot} {rest : List Value} {x y : Int32} (h : x = y) (k : W p l e R s m args below meth c H locs cells slots Q (F0 m pc ls (.int y :: rest))) : W p l e R s m args below meth c H locs cells slots Q (F0 m pc ls (.int x :: rest)) := by
  rw [h]
  exact k
theorem lw_keep {D : va_G} {A : Nat → Prop} {wx wm : va_W} (hD : va_D A (wx ++ wm)) {H H1 : Heap} (hPm : va_P D xCLs wm H) (hk : ∀ q : Nat, q < H.size → ¬ va_A wx H.size q → H1[q]? = H[q]?) : va_P D xCLs wm H1 := by
  refine hPm.kept (fun k x hx => hk x.1 ((hPm k x hx).lt) (fun z => ?_))
  rcases z with ⟨i, e, hi⟩ | z
  · have hl : i < wx.length := (List.getElem?_eq_some_iff.mp hi).1
    have h1 : (wx ++ wm)[i]? = some (x.1, e) := by rw [List.getElem?_append_left hl]; exact hi
    have h2 : (wx ++ wm)[wx.length + k]? = some x := by rw [List.getElem?_append_right (by omega), show wx.length + k - wx.length = k by omega]; exact hx
    have := hD.1 i (wx.length + k) _ _ h1 h2 rfl
    omega
  · exact absurd ((hPm k x hx).lt) (by omega)
theorem lw_keep2 {D : va_G} {A : Nat → Prop} {wx wm : va_W} (hD : va_D A (wx ++ wm)) {H H1 : Heap} (hPx : va_P D xCLs wx H) (hk : ∀ q : Nat, q < H.size → ¬ va_A wm H.size q → H1[q]? = H[q]?) : va_P D xCLs wx H1 := by
  refine hPx.kept (fun k x hx => hk x.1 ((hPx k x hx).lt) (fun z => ?_))
  rcases z with ⟨i, e, hi⟩ | z
  · have hl : k < wx.length := (List.getElem?_eq_some_iff.mp hx).1
    have h1 : (wx ++ wm)[k]? = some x := by rw [List.getElem?_append_left hl]; exact hx
    have h2 : (wx ++ wm)[wx.length + i]? = some (x.1, e) := by rw [List.getElem?_append_right (by omega), show wx.length + i - wx.length = i by omega]; exact hi
    have := hD.1 k (wx.length + i) _ _ h1 h2 rfl
    omega
  · exact absurd ((hPx k x hx).lt) (by omega)
/-- how a call of the law's ends: an int, the invariant, and what is known of both -/
def lw_F (G : aG) (R : Int32 → aσ → Prop) (r : Option Value) (C' : xC) : Prop := ∃ (v : Int32) (τ : aσ), r = some (.int v) ∧ InvV G τ ∧ C' = cH τ G.2.2.2.2.2 ∧ R v τ
theorem cH_len (σ τ : aσ) (C : aH) : (cH σ C).length = (cH τ C).length := by unfold cH; rw [List.length_map, List.length_map]
set_option maxHeartbeats 4000000 in
/-- a call of the law's: what the executor answers comes back, nothing but the callee's cells changes -/
theorem lw_call {p : Program} {l : Launch} {e : Env} {s : State} {m : MethodId} {below : List Frame} {meth : Method} {c : Code} {D : va_G} {cI cZ : ClassId} {b : Nat} {Q : State → Prop} {H : Heap} {locs : List Loc} {A : Nat → Prop} {ls : Array Slot} {rest : List Value} {pc : Nat} (hx : p.tables.exec = Jvm.exec) (hb : c.code = code) (hml : c.maxLocals = 4) (hown : s.vm.findClass R_law = some m.cls) (hts : ∀ u ∈ lw_tbl, u.before #[Value.ref b] s = true) (hns : xe_ns xNS s) (hK : va_K D xCLs (xe_ty cI cZ) s) (hA : ∀ q : Nat, s.heap.size ≤ q → A q) (hls : ls.size = 4)
    (k : Nat) (G : aG) {C : xC} {R : Int32 → aσ → Prop} {ρ : Nat → Nat} {vs : List Value} {idx na ci n1 n2 n3 : Nat} (hrun : RP k C 0 (lv_args 0 (.ref 0 :: vs)) [] (lw_F G R)) (hc : xe_c1 (.ref 0 :: vs) = true) (hn : (Value.ref 0 :: vs).length ≤ xm_n (xMT k)) (hv : vs.map (xv ρ) = vs) (hna : vs.length = na) (hC0 : ∃ fs, C[0]? = some (.inr (ci, fs)))
    (w1 : xe_wd n1 (.methodLink R_law idx (xm_y (xMT k))) = true) (w2 : xe_wd n2 (.instanceMethod (xm_y (xMT k))) = true) (w3 : xe_wd n3 (.selects (xm_y (xMT k)).cls (xm_y (xMT k)) (xm_y (xMT k))) = true) {Tc : u_T} {Nc : Nat} (hci : xCLs[ci]? = some ((xm_y (xMT k)).cls, Tc, Nc)) (hd2 : (xm_y (xMT k)).cls = (xm_y (xMT k)).cls ∧ (xm_y (xMT k)).cls ≠ "java/lang/invoke/MethodHandle" ∧ (xm_y (xMT k)).cls ≠ "java/lang/invoke/VarHandle" ∧ (parseMethodDescriptor (xm_y (xMT k)).desc).map (fun d => d.parameters.length) = some na) (hR : xm_f (xMT k) + 1 ≤ 10 ∧ 8 + (xm_n (xMT k) + 11) + xm_l (xMT k) ≤ 380)
    (hsum : (rest.map fun v => v.category).sum ≤ 8) (hd : decode code pc = .ok (.invokevirtual idx, 3)) (hP : va_P D xCLs (xw cI cZ ρ C) H) (hD : va_D A (xw cI cZ ρ C)) (hS : va_S A s.heap H locs)
    (K : ∀ (v : Int32) (τ : aσ) (H1 : Heap) (locs1 : List Loc), R v τ → InvV G τ → va_P D xCLs (xw cI cZ ρ (cH τ G.2.2.2.2.2)) H1 → (∀ q : Nat, q < H.size → ¬ va_A (xw cI cZ ρ C) H.size q → H1[q]? = H[q]?) → va_S A s.heap H1 locs1 → W p l e room_1 s m #[Value.ref b] below meth c H1 locs1 80 5836 Q (F0 m (pc + 3) ls (.int v :: rest))) :
    W p l e room_1 s m #[Value.ref b] below meth c H locs 80 5836 Q (F0 m pc ls (vs.reverse ++ .ref (ρ 0) :: rest)) := by
  obtain ⟨n, r, C', hrun0, v, τ, hr, hIτ, hC', hRv⟩ := hrun
  subst hr
  have hrun : xe xMT xmac n k C 0 (lv_args 0 (.ref 0 :: vs)) [] = some (some (.int v), C') := by
    have h0 := hrun0 0
    rw [Nat.zero_add] at h0
    exact h0
  obtain ⟨fs, hC0⟩ := hC0
  have hV := xk_all k
  have hcw : CallW room_1 s #[Value.ref b] R_law (xm_y (xMT k)).cls idx (xm_y (xMT k)) (xm_c (xMT k)) (xm_n (xMT k)) (xm_r (xMT k)) (xe_ws xWS (xMT k)) (xe_rm (xMT k)) 0 0 na := cwV na hts (lw_good (ps := [.methodLink R_law idx (xm_y (xMT k)), .instanceMethod (xm_y (xMT k)), .selects (xm_y (xMT k)).cls (xm_y (xMT k)) (xm_y (xMT k)), .initialized (xm_y (xMT k)).cls]) (by
    intro u hu
    simp only [List.mem_cons, List.not_mem_nil, or_false] at hu
    rcases hu with rfl | rfl | rfl | rfl
    · exact xe_wd_mem w1
    · exact xe_wd_mem w2
    · exact xe_wd_mem w3
    · exact hV.2.2.2.2.1) hV.2.2.2.1) rfl rfl rfl hd2 hR
  have hrv := va_recv hK hP (ci := ci) (q0 := 0) hci (xw_get hC0)
  have hFr := xe_free hD hS hA
  have hM := xe_met xk_all xq_all xWS_good l D cI cZ ρ (xmac_ok l D cI cZ ρ) hrun hc hn H.size
  have hpre := xe_pre (av := .ref (ρ 0) :: vs) (ns := xNS) hP hK hD hns
  have hav : (Value.ref 0 :: vs).map (xv ρ) = .ref (ρ 0) :: vs := by
    show xv ρ (.ref 0) :: vs.map (xv ρ) = _
    rw [hv]
    rfl
  rw [hav] at hM
  refine va_calli (S := Unit) (post := fun (u : Int32) _ => u = v) (B := fun _ t => va_P D xCLs (xw cI cZ ρ C') t.heap ∧ C'.length = C.length) (va_runV (As := vs) (rest := rest) ⟨hx, hb, hml, hown, hts⟩ hM hcw ⟨xe_blind _ _ _ _ _ _ _ _ _, hrv, hpre⟩ rfl hna hls rfl (lv_room hsum) hd ⟨Nat.le_refl 80, Nat.le_refl 5836⟩) hS (fun q _ z => hFr q z) hFr (fun x u t H1 locs1 ht hvm hw hB hz1 hk1 hS1 => ?_)
  have hB1 := hB.1
  rw [ht, hC'] at hB1
  rw [hw]
  exact K v τ H1 locs1 hRv hIτ hB1 hk1 hS1
/-! what a contract gives the law -/
theorem con_use {G : aG} {k p id : Nat} {sm : aSm} {q : Int × Int} {lo hi : Int} (h : Con G k 0 sm) (hq : sm.2.1 = some q) (hid : G.2.2.2.2.1[id]? = some (3, p, 0, lo, hi)) (hm : aInM sm (3, p, 0, lo, hi) = false) {σ : aσ} (xs : List Int32) (hI : InvV G σ) (hx : rngP sm.1 (xs.map Int32.toInt)) : RP k (cH σ G.2.2.2.2.2) 0 (lv_args 0 (.ref 0 :: xs.map .int)) [] (lw_F G (fun _ τ => τ id = σ id)) := by
  refine RP_mono (h σ xs hI hx) (fun r C' hr => ?_)
  obtain ⟨τ, h1, h2, h3, h4⟩ := hr
  rw [hq] at h4
  obtain ⟨v, h5, _⟩ := h4
  exact ⟨v, τ, h5, h1, h2, (h3 id _ hid hm).1 rfl⟩
theorem use_cx {σ : aσ} {x y : Int32} (hI : InvV aGX_6 σ) : RP 68 (cH σ aHX) 0 (lv_args 0 [.ref 0, .int x, .int y]) [] (lw_F aGX_6 (fun u τ => cosP (σ 10) x y (some (.int u)) (τ 10))) := by
  refine RP_mono (cos_x hI) (fun r C' hr => ?_)
  obtain ⟨τ, h1, h2, h3, ⟨u, h4, _⟩, h5⟩ := hr
  subst h4
  exact ⟨u, τ, rfl, h1, h2, h5⟩
theorem use_cm {σ : aσ} {x y : Int32} (hI : InvV aGM_4 σ) : RP 130 (cH σ aHM) 0 (lv_args 0 [.ref 0, .int x, .int y]) [] (lw_F aGM_4 (fun u τ => cosP (σ 28) x y (some (.int u)) (τ 28))) := by
  refine RP_mono (cos_m hI) (fun r C' hr => ?_)
  obtain ⟨τ, h1, h2, h3, ⟨u, h4, _⟩, h5⟩ := hr
  subst h4
  exact ⟨u, τ, rfl, h1, h2, h5⟩
theorem hx_0 (σ : aσ) : ∃ fs, (cH σ aHX)[0]? = some (.inr (4, fs)) := ⟨_, rfl⟩
theorem hm_0 (σ : aσ) : ∃ fs, (cH σ aHM)[0]? = some (.inr (5, fs)) := ⟨_, rfl⟩
theorem isx_0 : aGX_6.2.2.2.2.1[10]? = some (3, 8, 0, (-2147483648), 2147483647) := rfl
theorem ism_0 : aGM_4.2.2.2.2.1[28]? = some (3, 3, 0, (-2147483648), 2147483647) := rfl
theorem lw_vin {i j L : Nat} (h : i + 8 ≤ L) (hL : L ≤ 4096) (hj : j < 8) : vp_in (nI (i + j)) L := nI_in (by omega) (by omega)
