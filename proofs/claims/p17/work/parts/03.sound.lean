/-! WHAT THE EXECUTOR ANSWERS THE MACHINE ANSWERS -/
def xv (ρ : Nat → Nat) (v : Value) : Value := match v with
  | .ref a => .ref (ρ a)
  | u => u
theorem xv_cat (ρ : Nat → Nat) (v : Value) : (xv ρ v).category = v.category := by cases v <;> rfl
def xcy (cI cZ : ClassId) (t : Nat) : ClassId := match t with
  | 0 => cI
  | _ => cZ
def xd (cI cZ : ClassId) (ρ : Nat → Nat) (e : va_E) : va_E := match e with
  | .inl a => .inl (xcy cI cZ a.1, a.2)
  | .inr b => .inr (b.1, b.2.map (xv ρ))
def xw (cI cZ : ClassId) (ρ : Nat → Nat) (C : xC) : va_W := C.mapIdx (fun i e => (ρ i, xd cI cZ ρ e))
def xl (ρ : Nat → Nat) (L : xL) : xL := L.map (fun q => (q.1, xv ρ q.2))
theorem xw_get {cI cZ : ClassId} {ρ : Nat → Nat} {C : xC} {a : Nat} {e : va_E} (h : C[a]? = some e) : (xw cI cZ ρ C)[a]? = some (ρ a, xd cI cZ ρ e) := by
  simp [xw, h]
theorem xw_set {cI cZ : ClassId} {ρ : Nat → Nat} {C : xC} {a : Nat} {e : va_E} : (xw cI cZ ρ C).set a (ρ a, xd cI cZ ρ e) = xw cI cZ ρ (C.set a e) := by
  apply List.ext_getElem?
  intro i
  simp only [xw, List.getElem?_set, List.getElem?_mapIdx, List.length_mapIdx]
  by_cases hi : a = i
  · subst hi
    by_cases hl : a < C.length
    · simp [hl]
    · simp [hl]
  · simp [hi]
theorem xw_at {cI cZ : ClassId} {ρ : Nat → Nat} {C : xC} {i : Nat} {p : Nat × va_E} (h : (xw cI cZ ρ C)[i]? = some p) : i < C.length ∧ p.1 = ρ i := by
  simp only [xw, List.getElem?_mapIdx, Option.map_eq_some_iff] at h
  obtain ⟨e, h1, h2⟩ := h
  exact ⟨(List.getElem?_eq_some_iff.mp h1).1, by rw [← h2]⟩
theorem xw_ex {cI cZ : ClassId} {ρ : Nat → Nat} {C : xC} {i : Nat} (h : i < C.length) : ∃ e, (xw cI cZ ρ C)[i]? = some (ρ i, e) := ⟨_, xw_get (List.getElem?_eq_getElem h)⟩
theorem xw_D {A : Nat → Prop} {cI cZ : ClassId} {ρ : Nat → Nat} {C C1 : xC} (hN : C1.length = C.length) (h : va_D A (xw cI cZ ρ C)) : va_D A (xw cI cZ ρ C1) := by
  refine ⟨fun i j p q hi hj e => ?_, fun k q hk => ?_⟩
  · obtain ⟨a1, a2⟩ := xw_at hi
    obtain ⟨b1, b2⟩ := xw_at hj
    obtain ⟨e1, h1⟩ := xw_ex (cI := cI) (cZ := cZ) (ρ := ρ) (C := C) (i := i) (by omega)
    obtain ⟨e2, h2⟩ := xw_ex (cI := cI) (cZ := cZ) (ρ := ρ) (C := C) (i := j) (by omega)
    exact h.1 i j _ _ h1 h2 (by show ρ i = ρ j; rw [← a2, ← b2]; exact e)
  · obtain ⟨a1, a2⟩ := xw_at hk
    obtain ⟨e1, h1⟩ := xw_ex (cI := cI) (cZ := cZ) (ρ := ρ) (C := C) (i := k) (by omega)
    rw [a2]
    exact h.2 k _ h1
theorem xl_mem {ρ : Nat → Nat} {L : xL} {i : Nat} {v : Value} (h : (i, v) ∈ L) : (i, xv ρ v) ∈ xl ρ L := List.mem_map.mpr ⟨_, h, rfl⟩
theorem xl_st (ρ : Nat → Nat) (L : xL) (i : Nat) (v : Value) : (i, xv ρ v) :: (xl ρ L).filter (fun q => !(q.1 == i) && !(q.1 + 1 == i && q.2.category == 2)) = xl ρ (xe_st L i v) := by
  unfold xe_st xl
  rw [List.map_cons, List.filter_map]
  congr 2
  refine List.filter_congr (fun q _ => ?_)
  simp [xv_cat]
theorem xl_args (ρ : Nat → Nat) (vs : List Value) (i : Nat) : lv_args i (vs.map (xv ρ)) = xl ρ (lv_args i vs) := by
  induction vs generalizing i with
  | nil => rfl
  | cons v t ih =>
    show (i, xv ρ v) :: lv_args (if (xv ρ v).category = 2 then i + 2 else i + 1) (t.map (xv ρ)) = (i, xv ρ v) :: xl ρ (lv_args (if v.category = 2 then i + 2 else i + 1) t)
    rw [xv_cat, ih]
theorem xe_len {ρ : Nat → Nat} {vs : List Value} (h : xe_c1 vs = true) : (lg_sl (vs.map (xv ρ))).length = vs.length := by
  induction vs with
  | nil => rfl
  | cons v t ih =>
    simp only [xe_c1, List.all_cons, Bool.and_eq_true] at h
    have e := Nat.eq_of_beq_eq_true h.1
    have i2 := ih h.2
    simp only [lg_sl, List.map_cons, List.flatMap_cons, xv_cat, e] at i2 ⊢
    simpa using i2
theorem xe_has {ls : Array Slot} {nL : Nat} {ρ : Nat → Nat} {L : xL} (h : lv_has ls nL (xl ρ L)) {i : Nat} {v : Value} (hm : (i, v) ∈ L) : ls[i]? = some (.val (xv ρ v)) := h.2.2 (i, xv ρ v) (xl_mem hm)
abbrev xN : Type := List (String × Nat × MethodName × String)
def xe_ws (WS : List Cond) (X : xM) : List Cond := .code (xm_y X) (xm_c X) (xm_n X) (xm_r X) :: WS
def xe_rm (X : xM) : Room := { frames := xm_f X, cells := 0, slots := 0, locals := xm_l X }
def xe_ns (ns : xN) (U : State) : Prop := ∀ q ∈ ns, va_Nw (.methodLinkNest q.1 q.2.1 q.2.2.1 q.2.2.2) U
abbrev xe_ty (cI cZ : ClassId) : List (ClassId × FieldType) := [(cI, .int), (cZ, .boolean)]
def xe_Pc (D : va_G) (CL : List vw_C) (ns : xN) (cI cZ : ClassId) (ρ : Nat → Nat) (C : xC) (av : List Value) (sz : Nat) : Array Value → State → Prop := va_Pc av (fun U => U.heap.size = sz ∧ va_P D CL (xw cI cZ ρ C) U.heap ∧ va_K D CL (xe_ty cI cZ) U ∧ va_D (fun _ => True) (xw cI cZ ρ C) ∧ xe_ns ns U)
theorem xe_blind (D : va_G) (CL : List vw_C) (ns : xN) (cI cZ : ClassId) (ρ : Nat → Nat) (C : xC) (av : List Value) (sz : Nat) : FrameBlind (xe_Pc D CL ns cI cZ ρ C av sz) := fun a U g mk q => by
  obtain ⟨q0, q1, qP, qK, qD, qN⟩ := q
  exact ⟨q0, q1, qP, va_K.moved (u := U) (U := U.calling g mk a) (Vm.Alike.refl U.vm) qK, qD, fun w hw => va_Nw.same rfl rfl (qN w hw)⟩
def xe_Q (D : va_G) (CL : List vw_C) (cI cZ : ClassId) (ρ : Nat → Nat) (A : Nat → Prop) (N : Nat) (r : Option Value) (C' : xC) : Array Value → State → Outcome → State → Prop := match r with
  | none => va_Qv (fun _ : Unit => True) (fun _ t => va_P D CL (xw cI cZ ρ C') t.heap ∧ C'.length = N) A
  | some (.int v) => va_Qi (fun (u : Int32) (_ : Unit) => u = v) (fun _ t => va_P D CL (xw cI cZ ρ C') t.heap ∧ C'.length = N) A
  | _ => fun _ _ _ _ => False
def xOK (M : Nat → xM) (CL : List vw_C) (WS : List Cond) (ns : xN) (k : Nat) : Prop :=
  (∀ (pc : Nat) (i : Instr) (len : Nat), xe_lk (xm_t (M k)) pc = some (i, len) → decode (xm_c (M k)) pc = .ok (i, len) ∧ xe_okl i len = true) ∧
  plainName (xm_y (M k)).cls = true ∧ (xm_y (M k)).cls = xm_o (M k) ∧ Cond.code (xm_y (M k)) (xm_c (M k)) (xm_n (M k)) (xm_r (M k)) ∈ WS ∧ Cond.initialized (xm_y (M k)).cls ∈ WS ∧
  (∀ q ∈ xm_F (M k), ∃ (C : String) (T : u_T) (N : Nat), CL[q.2.1]? = some (C, T, N) ∧ q.2.2.1 < N ∧ Cond.fieldLink (xm_o (M k)) q.1 (T q.2.2.1).1 (T q.2.2.1).2.1 (T q.2.2.1).2.2.1 ∈ WS ∧ (q.2.2.2 = 0 → (T q.2.2.1).2.2.2 = false ∧ parseFieldDescriptor (T q.2.2.1).2.2.1 = some .int) ∧ (q.2.2.2 = 1 → (T q.2.2.1).2.2.2 = false ∧ parseFieldDescriptor (T q.2.2.1).2.2.1 = some .boolean)) ∧
  (∀ q ∈ xm_K (M k), Cond.constant (xm_o (M k)) q.1 q.2 ∈ WS) ∧
  (∀ q ∈ xm_I (M k), xm_f (M q.2.1) + 1 ≤ xm_f (M k) ∧ 8 + (xm_n (M q.2.1) + 11) + xm_l (M q.2.1) ≤ xm_l (M k) ∧ ((xm_y (M q.2.1)).cls ≠ "java/lang/invoke/MethodHandle" ∧ (xm_y (M q.2.1)).cls ≠ "java/lang/invoke/VarHandle" ∧ (parseMethodDescriptor (xm_y (M q.2.1)).desc).map (fun d => d.parameters.length) = some q.2.2.1) ∧
    (q.2.2.2.1 = 0 → Cond.methodLink (xm_o (M k)) q.1 (xm_y (M q.2.1)) ∈ WS ∧ Cond.instanceMethod (xm_y (M q.2.1)) ∈ WS ∧ Cond.selects (xm_y (M q.2.1)).cls (xm_y (M q.2.1)) (xm_y (M q.2.1)) ∈ WS ∧ ∃ (T : u_T) (N : Nat), CL[q.2.2.2.2]? = some ((xm_y (M q.2.1)).cls, T, N)) ∧
    (q.2.2.2.1 = 1 → Cond.methodLink (xm_o (M k)) q.1 (xm_y (M q.2.1)) ∈ WS ∧ Cond.static (xm_y (M q.2.1)) ∈ WS) ∧
    (q.2.2.2.1 ≠ 0 → q.2.2.2.1 ≠ 1 → Cond.static (xm_y (M q.2.1)) ∈ WS ∧ ∃ host : String, (xm_o (M k), q.1, xm_y (M q.2.1), host) ∈ ns))
def xCL (CL : List vw_C) (WS : List Cond) : Prop := ∀ (ci : Nat) (C : String) (T : u_T) (N : Nat), CL[ci]? = some (C, T, N) → (∀ u ∈ u_ws C T N, u ∈ WS) ∧ ∃ ty0 : Nat → FieldType, (∀ k, k < N → parseFieldDescriptor (T k).2.2.1 = some (ty0 k)) ∧ ∀ a, a < N → ∀ b, b < N → a ≠ b → (T a).2.1 ≠ (T b).2.1
def xe_At (M : Nat → xM) (CL : List vw_C) (WS : List Cond) (ns : xN) (D : va_G) (cI cZ : ClassId) (k : Nat) (A : Nat → Prop) (p : Program) (s : State) (m : MethodId) (args : Array Value) (meth : Method) (c : Code) : Prop :=
  p.tables.exec = Jvm.exec ∧ c.code = xm_c (M k) ∧ meth.sig.returnType = xm_r (M k) ∧ meth.locks = false ∧ c.maxLocals = xm_n (M k) ∧ s.vm.findClass (xm_o (M k)) = some m.cls ∧ (∀ u ∈ xe_ws WS (M k), u.before args s = true) ∧ xe_ns ns s ∧ va_K D CL (xe_ty cI cZ) s ∧ ∀ q : Nat, s.heap.size ≤ q → A q
def xe_WS (M : Nat → xM) (mac : xMac) (CL : List vw_C) (WS : List Cond) (ns : xN) (l : Launch) (D : va_G) (cI cZ : ClassId) (ρ : Nat → Nat) (n : Nat) : Prop :=
  ∀ (k : Nat) (C : xC) (pc : Nat) (L : xL) (S : List Value) (r : Option Value) (C' : xC) (A : Nat → Prop) (N : Nat) (p : Program) (e : Env) (s : State) (m : MethodId) (args : Array Value) (below : List Frame) (meth : Method) (c : Code) (H : Heap) (locs : List Loc) (ls : Array Slot),
    xe M mac n k C pc L S = some (r, C') → xe_At M CL WS ns D cI cZ k A p s m args meth c → va_P D CL (xw cI cZ ρ C) H → va_D A (xw cI cZ ρ C) → va_S A s.heap H locs → lv_has ls (xm_n (M k)) (xl ρ L) → C.length = N →
    W p l e (xe_rm (M k)) s m args below meth c H locs 0 0 (MQ below (xe_Q D CL cI cZ ρ A N r C') args s 0 0 A) (F0 m pc ls (S.map (xv ρ)))
def xe_MacOK (M : Nat → xM) (mac : xMac) (CL : List vw_C) (WS : List Cond) (ns : xN) (l : Launch) (D : va_G) (cI cZ : ClassId) (ρ : Nat → Nat) : Prop :=
  ∀ (k : Nat) (C : xC) (pc : Nat) (L : xL) (S : List Value) (C1 : xC) (pc1 : Nat) (L1 : xL) (S1 : List Value), mac k C pc L S = some (C1, pc1, L1, S1) →
    ∀ (A : Nat → Prop) (N : Nat) (p : Program) (e : Env) (s : State) (m : MethodId) (args : Array Value) (below : List Frame) (meth : Method) (c : Code) (H : Heap) (locs : List Loc) (ls : Array Slot) (Q : State → Prop),
    xe_At M CL WS ns D cI cZ k A p s m args meth c → va_P D CL (xw cI cZ ρ C) H → va_D A (xw cI cZ ρ C) → va_S A s.heap H locs → lv_has ls (xm_n (M k)) (xl ρ L) → C.length = N →
    (∀ (H1 : Heap) (locs1 : List Loc) (ls1 : Array Slot), va_P D CL (xw cI cZ ρ C1) H1 → va_D A (xw cI cZ ρ C1) → va_S A s.heap H1 locs1 → lv_has ls1 (xm_n (M k)) (xl ρ L1) → C1.length = N → W p l e (xe_rm (M k)) s m args below meth c H1 locs1 0 0 Q (F0 m pc1 ls1 (S1.map (xv ρ)))) →
    W p l e (xe_rm (M k)) s m args below meth c H locs 0 0 Q (F0 m pc ls (S.map (xv ρ)))
theorem xe_goodIn {M : Nat → xM} {WS : List Cond} (hG : ∀ u ∈ WS, goodWord u = true) {k k' : Nat} (h : Cond.code (xm_y (M k')) (xm_c (M k')) (xm_n (M k')) (xm_r (M k')) ∈ WS) : GoodIn (xe_ws WS (M k)) (xe_ws WS (M k')) := by
  intro u hu
  rcases List.mem_cons.mp hu with e | e
  · rw [e]
    exact ⟨List.mem_cons_of_mem _ h, good_of_word (hG _ h)⟩
  · exact ⟨List.mem_cons_of_mem _ e, good_of_word (hG _ e)⟩
theorem xe_goodV {M : Nat → xM} {WS : List Cond} (hG : ∀ u ∈ WS, goodWord u = true) {k k' : Nat} {ps : List Cond} (hp : ∀ u ∈ ps, u ∈ WS) (h : Cond.code (xm_y (M k')) (xm_c (M k')) (xm_n (M k')) (xm_r (M k')) ∈ WS) : GoodIn (xe_ws WS (M k)) (ps ++ xe_ws WS (M k')) := by
  intro u hu
  rcases List.mem_append.mp hu with e | e
  · exact ⟨List.mem_cons_of_mem _ (hp u e), good_of_word (hG _ (hp u e))⟩
  · exact xe_goodIn hG h u e
set_option maxHeartbeats 4000000 in
theorem xe_m {M : Nat → xM} {mac : xMac} {CL : List vw_C} {WS : List Cond} {ns : xN} (hV : ∀ k, xOK M CL WS ns k) {l : Launch} {D : va_G} {cI cZ : ClassId} {ρ : Nat → Nat} {n : Nat} (hW : xe_WS M mac CL WS ns l D cI cZ ρ n) {k : Nat} {C : xC} {vs : List Value} {r : Option Value} {C' : xC} (h : xe M mac n k C 0 (lv_args 0 vs) [] = some (r, C')) (hc : xe_c1 vs = true) (hn : vs.length ≤ xm_n (M k)) (sz : Nat) :
    Met l (xm_y (M k)) (xe_ws WS (M k)) (xe_rm (M k)) (xe_Pc D CL ns cI cZ ρ C (vs.map (xv ρ)) sz) (xe_Q D CL cI cZ ρ (va_A (xw cI cZ ρ C) sz) C.length r C') 0 0 (va_A (xw cI cZ ρ C) sz) := by
  refine Met.ofW (cc := xm_c (M k)) (maxL := xm_n (M k)) (ret := xm_r (M k)) (hV k).2.1 rfl ?_
  intro p e s m args below meth c s₁ B hml hv
  obtain ⟨rfl, hsz, hP, hK, hD0, hns⟩ := hv
  have hts := atoms_spec (ws := xe_ws WS (M k)) B.pre
  have hown : s.vm.findClass (xm_o (M k)) = some m.cls := by rw [← (hV k).2.2.1]; exact findClass_of_methodNamed B.named
  subst hsz
  have hD := hD0.self (sz := s.heap.size)
  have hl := lv_entry (vs.map (xv ρ)) (n := xm_n (M k)) (by rw [xe_len hc]; exact hn)
  rw [lg_entry_eq]
  rw [xl_args] at hl
  exact hW k C 0 (lv_args 0 vs) [] r C' _ C.length p e s m _ below meth c s.heap [] _ h ⟨B.exec, B.bytes, B.returns, B.notSynchronized, hml, hown, hts, hns, hK, fun q h => Or.inr h⟩ hP hD va_S.rf hl rfl
theorem xe_free {A : Nat → Prop} {s : State} {H : Heap} {locs : List Loc} {ws : va_W} (hD : va_D A ws) (hS : va_S A s.heap H locs) (hA : ∀ q : Nat, s.heap.size ≤ q → A q) : ∀ q : Nat, va_A ws H.size q → A q := by
  intro q h
  rcases h with ⟨k, e, h⟩ | h
  · exact hD.2 k _ h
  · exact hA q (Nat.le_trans hS.1 h)
theorem xe_pre {D : va_G} {CL : List vw_C} {ns : xN} {cI cZ : ClassId} {ρ : Nat → Nat} {C : xC} {av : List Value} {A : Nat → Prop} {s : State} {H : Heap} (hP : va_P D CL (xw cI cZ ρ C) H) (hK : va_K D CL (xe_ty cI cZ) s) (hD : va_D A (xw cI cZ ρ C)) (hns : xe_ns ns s) : ∀ U : State, U.heap = H → s.WarmedH U.vm → xe_Pc D CL ns cI cZ ρ C av H.size av.toArray U := fun U hU hW =>
  ⟨rfl, by rw [hU], by rw [hU]; exact hP, va_K.moved hW.alike hK, hD.weaken (fun _ _ _ _ => trivial), fun q hq => va_Nw.warmM hW (hns q hq)⟩

section XW
set_option maxHeartbeats 4000000 in
theorem xe_w {M : Nat → xM} {mac : xMac} {CL : List vw_C} {WS : List Cond} {ns : xN} (hV : ∀ k, xOK M CL WS ns k) (hC : xCL CL WS) (hG : ∀ u ∈ WS, goodWord u = true) (l : Launch) (D : va_G) (cI cZ : ClassId) (ρ : Nat → Nat) (hM : xe_MacOK M mac CL WS ns l D cI cZ ρ) : ∀ n : Nat, xe_WS M mac CL WS ns l D cI cZ ρ n := by
  intro n
  induction n with
  | zero =>
    intro k C pc L S r C' A N p e s m args below meth c H locs ls h
    cases h
  | succ n IH =>
    intro k C pc L S r C' A N p e s m args below meth c H locs ls h B hP hD hS hl hN
    obtain ⟨hx, hb, hr, hlk, hml, hown, hts, hns, hK, hA⟩ := id B
    replace h : xe_b M mac (xe M mac n) k C pc L S = some (r, C') := h
    unfold xe_b at h
    rw [xe_fn_eq] at h
    split at h
    · rename_i C1 pc1 L1 S1 hmac
      exact hM k C pc L S C1 pc1 L1 S1 hmac A N p e s m args below meth c H locs ls _ B hP hD hS hl hN (fun H1 locs1 ls1 h1 h2 h3 h4 h5 => IH k C1 pc1 L1 S1 r C' A N p e s m args below meth c H1 locs1 ls1 h B h1 h2 h3 h4 h5)
    split at h
    · cases h
    rename_i i len hlk2
    obtain ⟨hd, ho⟩ := (hV k).1 pc i len hlk2
    have go : ∀ {C1 : xC} {pc1 : Nat} {L1 : xL} {S1 : List Value} {H1 : Heap} {locs1 : List Loc} {ls1 : Array Slot}, xe M mac n k C1 pc1 L1 S1 = some (r, C') → va_P D CL (xw cI cZ ρ C1) H1 → va_D A (xw cI cZ ρ C1) → va_S A s.heap H1 locs1 → lv_has ls1 (xm_n (M k)) (xl ρ L1) → C1.length = N → W p l e (xe_rm (M k)) s m args below meth c H1 locs1 0 0 (MQ below (xe_Q D CL cI cZ ρ A N r C') args s 0 0 A) (F0 m pc1 ls1 (S1.map (xv ρ))) := fun {C1 pc1 L1 S1 H1 locs1 ls1} h1 h2 h3 h4 h5 h6 => IH k C1 pc1 L1 S1 r C' A N p e s m args below meth c H1 locs1 ls1 h1 B h2 h3 h4 h5 h6
    have hin : ∀ {u : Cond}, u ∈ WS → u.before args s = true := fun hu => hts _ (List.mem_cons_of_mem _ hu)
    cases i with
    | iconst v =>
      obtain rfl : len = 1 := Nat.eq_of_beq_eq_true ho
      replace h : xe_push (Int32.ofInt v) S ((xe M mac n) k C (pc + 1) L) = some (r, C') := h
      have h := (xe_push_eq _ _ _).symm.trans h
      exact lv_iconst hx hb hd rfl (go h hP hD hS hl hN)
    | bipush v =>
      obtain rfl : len = 2 := Nat.eq_of_beq_eq_true ho
      replace h : xe_push (Int8.ofInt v).toInt32 S ((xe M mac n) k C (pc + 2) L) = some (r, C') := h
      have h := (xe_push_eq _ _ _).symm.trans h
      exact lv_bipush hx hb hd rfl (go h hP hD hS hl hN)
    | sipush v =>
      obtain rfl : len = 3 := Nat.eq_of_beq_eq_true ho
      replace h : xe_push (Int16.ofInt v).toInt32 S ((xe M mac n) k C (pc + 3) L) = some (r, C') := h
      have h := (xe_push_eq _ _ _).symm.trans h
      exact lv_sipush hx hb hd rfl (go h hP hD hS hl hN)
    | ldc idx =>
      obtain rfl : len = 2 := Nat.eq_of_beq_eq_true ho
      replace h : xe_ldc (xm_K (M k)) idx S ((xe M mac n) k C (pc + 2) L) = some (r, C') := h
      have h0 := xe_ldc_inv h
      clear h
      obtain ⟨v, hk, h⟩ := h0
      exact lv_ldc hx hb hown (hin ((hV k).2.2.2.2.2.2.1 _ hk)) hd (go h hP hD hS hl hN)
    | ldc_w idx =>
      obtain rfl : len = 3 := Nat.eq_of_beq_eq_true ho
      replace h : xe_ldc (xm_K (M k)) idx S ((xe M mac n) k C (pc + 3) L) = some (r, C') := h
      have h0 := xe_ldc_inv h
      clear h
      obtain ⟨v, hk, h⟩ := h0
      exact lv_ldcw hx hb hown (hin ((hV k).2.2.2.2.2.2.1 _ hk)) hd (go h hP hD hS hl hN)
    | iload_n j =>
      obtain rfl : len = 1 := Nat.eq_of_beq_eq_true ho
      replace h : xe_ldi L j.val S ((xe M mac n) k C (pc + 1) L) = some (r, C') := h
      have h0 := xe_ldi_inv h
      clear h
      obtain ⟨x, hk, h⟩ := h0
      exact lv_iload_n hx hb hd rfl (xe_has hl hk) (go h hP hD hS hl hN)
    | iload j =>
      obtain rfl : len = 2 := Nat.eq_of_beq_eq_true ho
      replace h : xe_ldi L j S ((xe M mac n) k C (pc + 2) L) = some (r, C') := h
      have h0 := xe_ldi_inv h
      clear h
      obtain ⟨x, hk, h⟩ := h0
      exact lv_iload hx hb hd (xe_has hl hk) (go h hP hD hS hl hN)
    | aload_n j =>
      obtain rfl : len = 1 := Nat.eq_of_beq_eq_true ho
      replace h : xe_lda L j.val S ((xe M mac n) k C (pc + 1) L) = some (r, C') := h
      have h0 := xe_lda_inv h
      clear h
      obtain ⟨x, hk, h⟩ := h0
      exact lv_aload_n hx hb hd rfl (xe_has hl hk) (go h hP hD hS hl hN)
    | aload j =>
      obtain rfl : len = 2 := Nat.eq_of_beq_eq_true ho
      replace h : xe_lda L j S ((xe M mac n) k C (pc + 2) L) = some (r, C') := h
      have h0 := xe_lda_inv h
      clear h
      obtain ⟨x, hk, h⟩ := h0
      exact lv_aload hx hb hd (xe_has hl hk) (go h hP hD hS hl hN)
    | istore_n j =>
      obtain rfl : len = 1 := Nat.eq_of_beq_eq_true ho
      replace h : xe_sti (xm_n (M k)) L j.val S ((xe M mac n) k C (pc + 1)) = some (r, C') := h
      have h0 := xe_sti_inv h
      clear h
      obtain ⟨x, T, rfl, hj, h⟩ := h0
      exact lv_istore_n hx hb hd rfl hl hj (xl_st ρ L j.val (.int x)) (fun ls' hl' => go h hP hD hS hl' hN)
    | istore j =>
      obtain rfl : len = 2 := Nat.eq_of_beq_eq_true ho
      replace h : xe_sti (xm_n (M k)) L j S ((xe M mac n) k C (pc + 2)) = some (r, C') := h
      have h0 := xe_sti_inv h
      clear h
      obtain ⟨x, T, rfl, hj, h⟩ := h0
      exact lv_istore hx hb hd hl hj (xl_st ρ L j (.int x)) (fun ls' hl' => go h hP hD hS hl' hN)
    | iinc j n0 =>
      obtain rfl : len = 3 := Nat.eq_of_beq_eq_true ho
      replace h : xe_inc (xm_n (M k)) L j n0 (fun L' => (xe M mac n) k C (pc + 3) L' S) = some (r, C') := h
      have h0 := xe_inc_inv h
      clear h
      obtain ⟨x, hk, hj, h⟩ := h0
      obtain ⟨a, ha⟩ := List.getElem?_of_mem (xl_mem (ρ := ρ) hk)
      exact lv_iinc hx hb hd hl ha rfl hj (xl_st ρ L j (.int (x + Int32.ofInt n0))) (fun ls' hl' => go h hP hD hS hl' hN)
    | iadd =>
      obtain rfl : len = 1 := Nat.eq_of_beq_eq_true ho
      replace h : xe_bin (fun x y => x + y) S ((xe M mac n) k C (pc + 1) L) = some (r, C') := h
      have h0 := xe_bin_inv h
      clear h
      obtain ⟨x, y, T, rfl, h⟩ := h0
      exact lv_iadd hx hb hd (go h hP hD hS hl hN)
    | isub =>
      obtain rfl : len = 1 := Nat.eq_of_beq_eq_true ho
      replace h : xe_bin (fun x y => x - y) S ((xe M mac n) k C (pc + 1) L) = some (r, C') := h
      have h0 := xe_bin_inv h
      clear h
      obtain ⟨x, y, T, rfl, h⟩ := h0
      exact lv_isub hx hb hd (go h hP hD hS hl hN)
    | imul =>
      obtain rfl : len = 1 := Nat.eq_of_beq_eq_true ho
      replace h : xe_bin (fun x y => x * y) S ((xe M mac n) k C (pc + 1) L) = some (r, C') := h
      have h0 := xe_bin_inv h
      clear h
      obtain ⟨x, y, T, rfl, h⟩ := h0
      exact lv_imul hx hb hd (go h hP hD hS hl hN)
    | iand =>
      obtain rfl : len = 1 := Nat.eq_of_beq_eq_true ho
      replace h : xe_bin (fun x y => x &&& y) S ((xe M mac n) k C (pc + 1) L) = some (r, C') := h
      have h0 := xe_bin_inv h
      clear h
      obtain ⟨x, y, T, rfl, h⟩ := h0
      exact lv_iand hx hb hd (go h hP hD hS hl hN)
    | ior =>
      obtain rfl : len = 1 := Nat.eq_of_beq_eq_true ho
      replace h : xe_bin (fun x y => x ||| y) S ((xe M mac n) k C (pc + 1) L) = some (r, C') := h
      have h0 := xe_bin_inv h
      clear h
      obtain ⟨x, y, T, rfl, h⟩ := h0
      exact lv_ior hx hb hd (go h hP hD hS hl hN)
    | ixor =>
      obtain rfl : len = 1 := Nat.eq_of_beq_eq_true ho
      replace h : xe_bin (fun x y => x ^^^ y) S ((xe M mac n) k C (pc + 1) L) = some (r, C') := h
      have h0 := xe_bin_inv h
      clear h
      obtain ⟨x, y, T, rfl, h⟩ := h0
      exact lv_ixor hx hb hd (go h hP hD hS hl hN)
    | ishl =>
      obtain rfl : len = 1 := Nat.eq_of_beq_eq_true ho
      replace h : xe_bin (fun x y => x <<< (y &&& 31)) S ((xe M mac n) k C (pc + 1) L) = some (r, C') := h
      have h0 := xe_bin_inv h
      clear h
      obtain ⟨x, y, T, rfl, h⟩ := h0
      exact lv_ishl hx hb hd (go h hP hD hS hl hN)
    | ishr =>
      obtain rfl : len = 1 := Nat.eq_of_beq_eq_true ho
      replace h : xe_bin (fun x y => x >>> (y &&& 31)) S ((xe M mac n) k C (pc + 1) L) = some (r, C') := h
      have h0 := xe_bin_inv h
      clear h
      obtain ⟨x, y, T, rfl, h⟩ := h0
      exact lv_ishr hx hb hd (go h hP hD hS hl hN)
    | iushr =>
      obtain rfl : len = 1 := Nat.eq_of_beq_eq_true ho
      replace h : xe_bin (fun x y => (x.toUInt32 >>> (y.toUInt32 &&& Int32.toUInt32 31)).toInt32) S ((xe M mac n) k C (pc + 1) L) = some (r, C') := h
      have h0 := xe_bin_inv h
      clear h
      obtain ⟨x, y, T, rfl, h⟩ := h0
      exact lv_iushr hx hb hd rfl (go h hP hD hS hl hN)
    | dup =>
      obtain rfl : len = 1 := Nat.eq_of_beq_eq_true ho
      replace h : xe_dup S ((xe M mac n) k C (pc + 1) L) = some (r, C') := h
      have h0 := xe_dup_inv h
      clear h
      obtain ⟨v, T, rfl, hv, h⟩ := h0
      exact lv_dup hx hb hd ((xv_cat ρ v).trans hv) (go h hP hD hS hl hN)
    | dup2 =>
      obtain rfl : len = 1 := Nat.eq_of_beq_eq_true ho
      replace h : xe_dup2 S ((xe M mac n) k C (pc + 1) L) = some (r, C') := h
      have h0 := xe_dup2_inv h
      clear h
      obtain ⟨v, u, T, rfl, hv, hu, h⟩ := h0
      exact lv_dup2_11 hx hb hd ((xv_cat ρ v).trans hv) ((xv_cat ρ u).trans hu) (go h hP hD hS hl hN)
    | pop =>
      obtain rfl : len = 1 := Nat.eq_of_beq_eq_true ho
      replace h : xe_pop1 S ((xe M mac n) k C (pc + 1) L) = some (r, C') := h
      have h0 := xe_pop1_inv h
      clear h
      obtain ⟨v, T, rfl, hv, h⟩ := h0
      exact lv_pop hx hb hd ((xv_cat ρ v).trans hv) (go h hP hD hS hl hN)
    | goto off =>
      obtain rfl : len = 3 := Nat.eq_of_beq_eq_true ho
      replace h : xe_jmp pc off (fun t => (xe M mac n) k C t L S) = some (r, C') := h
      have h0 := xe_jmp_inv h
      clear h
      obtain ⟨t, ht, h⟩ := h0
      exact lv_goto hx hb hd ht (go h hP hD hS hl hN)
    | ifCond q off =>
      obtain rfl : len = 3 := Nat.eq_of_beq_eq_true ho
      cases q with
      | eq =>
        replace h : (xe_jmp pc off fun t => xe_br1 (fun x => decide (x = 0)) S ((xe M mac n) k C t L) ((xe M mac n) k C (pc + 3) L)) = some (r, C') := h
        obtain ⟨t, ht, h3⟩ := xe_jmp_inv h
        clear h
        obtain ⟨x, T, rfl, h1, h2⟩ := xe_br1_inv h3
        exact lv_if_eq hx hb hd ht (fun g => go (h1 (decide_eq_true g)) hP hD hS hl hN) (fun g => go (h2 (decide_eq_false g)) hP hD hS hl hN)
      | ne =>
        replace h : (xe_jmp pc off fun t => xe_br1 (fun x => decide (x ≠ 0)) S ((xe M mac n) k C t L) ((xe M mac n) k C (pc + 3) L)) = some (r, C') := h
        obtain ⟨t, ht, h3⟩ := xe_jmp_inv h
        clear h
        obtain ⟨x, T, rfl, h1, h2⟩ := xe_br1_inv h3
        exact lv_if_ne hx hb hd ht (fun g => go (h1 (decide_eq_true g)) hP hD hS hl hN) (fun g => go (h2 (decide_eq_false (fun z => z g))) hP hD hS hl hN)
      | lt =>
        replace h : (xe_jmp pc off fun t => xe_br1 (fun x => decide (x < 0)) S ((xe M mac n) k C t L) ((xe M mac n) k C (pc + 3) L)) = some (r, C') := h
        obtain ⟨t, ht, h3⟩ := xe_jmp_inv h
        clear h
        obtain ⟨x, T, rfl, h1, h2⟩ := xe_br1_inv h3
        exact lv_if_lt hx hb hd ht (fun g => go (h1 (decide_eq_true g)) hP hD hS hl hN) (fun g => go (h2 (decide_eq_false g)) hP hD hS hl hN)
      | ge =>
        replace h : (xe_jmp pc off fun t => xe_br1 (fun x => decide (0 ≤ x)) S ((xe M mac n) k C t L) ((xe M mac n) k C (pc + 3) L)) = some (r, C') := h
        obtain ⟨t, ht, h3⟩ := xe_jmp_inv h
        clear h
        obtain ⟨x, T, rfl, h1, h2⟩ := xe_br1_inv h3
        exact lv_if_ge hx hb hd ht (fun g => go (h1 (decide_eq_true g)) hP hD hS hl hN) (fun g => go (h2 (decide_eq_false g)) hP hD hS hl hN)
      | gt =>
        replace h : (xe_jmp pc off fun t => xe_br1 (fun x => decide (0 < x)) S ((xe M mac n) k C t L) ((xe M mac n) k C (pc + 3) L)) = some (r, C') := h
        obtain ⟨t, ht, h3⟩ := xe_jmp_inv h
        clear h
        obtain ⟨x, T, rfl, h1, h2⟩ := xe_br1_inv h3
        exact lv_if_gt hx hb hd ht (fun g => go (h1 (decide_eq_true g)) hP hD hS hl hN) (fun g => go (h2 (decide_eq_false g)) hP hD hS hl hN)
      | le =>
        replace h : (xe_jmp pc off fun t => xe_br1 (fun x => decide (x ≤ 0)) S ((xe M mac n) k C t L) ((xe M mac n) k C (pc + 3) L)) = some (r, C') := h
        obtain ⟨t, ht, h3⟩ := xe_jmp_inv h
        clear h
        obtain ⟨x, T, rfl, h1, h2⟩ := xe_br1_inv h3
        exact lv_if_le hx hb hd ht (fun g => go (h1 (decide_eq_true g)) hP hD hS hl hN) (fun g => go (h2 (decide_eq_false g)) hP hD hS hl hN)
    | if_icmp q off =>
      obtain rfl : len = 3 := Nat.eq_of_beq_eq_true ho
      cases q with
      | eq =>
        replace h : (xe_jmp pc off fun t => xe_br2 (fun x y => decide (x = y)) S ((xe M mac n) k C t L) ((xe M mac n) k C (pc + 3) L)) = some (r, C') := h
        obtain ⟨t, ht, h3⟩ := xe_jmp_inv h
        clear h
        obtain ⟨x, y, T, rfl, h1, h2⟩ := xe_br2_inv h3
        exact lv_icmp_eq hx hb hd ht (fun g => go (h1 (decide_eq_true g)) hP hD hS hl hN) (fun g => go (h2 (decide_eq_false g)) hP hD hS hl hN)
      | ne =>
        replace h : (xe_jmp pc off fun t => xe_br2 (fun x y => decide (x ≠ y)) S ((xe M mac n) k C t L) ((xe M mac n) k C (pc + 3) L)) = some (r, C') := h
        obtain ⟨t, ht, h3⟩ := xe_jmp_inv h
        clear h
        obtain ⟨x, y, T, rfl, h1, h2⟩ := xe_br2_inv h3
        exact lv_icmp_ne hx hb hd ht (fun g => go (h1 (decide_eq_true g)) hP hD hS hl hN) (fun g => go (h2 (decide_eq_false (fun z => z g))) hP hD hS hl hN)
      | lt =>
        replace h : (xe_jmp pc off fun t => xe_br2 (fun x y => decide (x < y)) S ((xe M mac n) k C t L) ((xe M mac n) k C (pc + 3) L)) = some (r, C') := h
        obtain ⟨t, ht, h3⟩ := xe_jmp_inv h
        clear h
        obtain ⟨x, y, T, rfl, h1, h2⟩ := xe_br2_inv h3
        exact lv_icmp_lt hx hb hd ht (fun g => go (h1 (decide_eq_true g)) hP hD hS hl hN) (fun g => go (h2 (decide_eq_false g)) hP hD hS hl hN)
      | ge =>
        replace h : (xe_jmp pc off fun t => xe_br2 (fun x y => decide (y ≤ x)) S ((xe M mac n) k C t L) ((xe M mac n) k C (pc + 3) L)) = some (r, C') := h
        obtain ⟨t, ht, h3⟩ := xe_jmp_inv h
        clear h
        obtain ⟨x, y, T, rfl, h1, h2⟩ := xe_br2_inv h3
        exact lv_icmp_ge hx hb hd ht (fun g => go (h1 (decide_eq_true g)) hP hD hS hl hN) (fun g => go (h2 (decide_eq_false g)) hP hD hS hl hN)
      | gt =>
        replace h : (xe_jmp pc off fun t => xe_br2 (fun x y => decide (y < x)) S ((xe M mac n) k C t L) ((xe M mac n) k C (pc + 3) L)) = some (r, C') := h
        obtain ⟨t, ht, h3⟩ := xe_jmp_inv h
        clear h
        obtain ⟨x, y, T, rfl, h1, h2⟩ := xe_br2_inv h3
        exact lv_icmp_gt hx hb hd ht (fun g => go (h1 (decide_eq_true g)) hP hD hS hl hN) (fun g => go (h2 (decide_eq_false g)) hP hD hS hl hN)
      | le =>
        replace h : (xe_jmp pc off fun t => xe_br2 (fun x y => decide (x ≤ y)) S ((xe M mac n) k C t L) ((xe M mac n) k C (pc + 3) L)) = some (r, C') := h
        obtain ⟨t, ht, h3⟩ := xe_jmp_inv h
        clear h
        obtain ⟨x, y, T, rfl, h1, h2⟩ := xe_br2_inv h3
        exact lv_icmp_le hx hb hd ht (fun g => go (h1 (decide_eq_true g)) hP hD hS hl hN) (fun g => go (h2 (decide_eq_false g)) hP hD hS hl hN)
    | tableswitch dflt lo hi offs =>
      replace h : xe_swt pc dflt lo hi offs S (fun t T => (xe M mac n) k C t L T) = some (r, C') := h
      have h0 := xe_swt_inv h
      clear h
      obtain ⟨x, T, rfl, h⟩ := h0
      rcases h with ⟨g, t, ht, h⟩ | ⟨g1, g2, off, t, g3, ht, h⟩
      · exact lv_tableOut hx hb hd g ht (go h hP hD hS hl hN)
      · exact lv_tableIn hx hb hd g1 g2 g3 ht (go h hP hD hS hl hN)
    | lookupswitch dflt ps =>
      replace h : xe_swl pc dflt ps S (fun t T => (xe M mac n) k C t L T) = some (r, C') := h
      have h0 := xe_swl_inv h
      clear h
      obtain ⟨x, T, t, rfl, g, ht, h⟩ := h0
      exact lv_lookup hx hb hd g rfl ht (go h hP hD hS hl hN)
    | getfield idx =>
      obtain rfl : len = 3 := Nat.eq_of_beq_eq_true ho
      replace h : xe_get (xm_F (M k)) idx C S ((xe M mac n) k C (pc + 3) L) = some (r, C') := h
      have h0 := xe_get_inv h
      clear h
      obtain ⟨a, T, ci, j, t, fs, v, rfl, hF, hCa, hv, h⟩ := h0
      obtain ⟨Cn, Tn, Nn, g1, g2, g3, -, -⟩ := (hV k).2.2.2.2.2.1 _ hF
      exact va_get (D := D) (ci := ci) (v := xv ρ v) (C := Cn) (T := Tn) (N := Nn) hx hb hts (fun u hu => List.mem_cons_of_mem _ ((hC ci Cn Tn Nn g1).1 u hu)) hown hK hP a (xw_get hCa) g1 j g2 (hin g3) (fun _ h9 => h9) (by rw [List.getElem?_map, hv]; rfl) hd (go h hP hD hS hl hN)
    | putfield idx =>
      obtain rfl : len = 3 := Nat.eq_of_beq_eq_true ho
      replace h : xe_put (xm_F (M k)) idx C S (fun C' T => (xe M mac n) k C' (pc + 3) L T) = some (r, C') := h
      have h0 := xe_put_inv h
      clear h
      obtain ⟨a, T, ci, j, t, fs, v, rfl, hF, hCa, hft, hj, h⟩ := h0
      obtain ⟨Cn, Tn, Nn, g1, g2, g3, g4, g5⟩ := (hV k).2.2.2.2.2.1 _ hF
      obtain ⟨ty0, gt, gn⟩ := (hC ci Cn Tn Nn g1).2
      have key : ∀ ty : FieldType, (Tn j).2.2.2 = false → parseFieldDescriptor (Tn j).2.2.1 = some ty → narrow ty (.int v) = .int v → fits ty (.int v) = true → W p l e (xe_rm (M k)) s m args below meth c H locs 0 0 (MQ below (xe_Q D CL cI cZ ρ A N r C') args s 0 0 A) (F0 m pc ls (.int v :: .ref (ρ a) :: T.map (xv ρ))) := by
        intro ty e1 e2 e3 e4
        refine va_put (D := D) (ci := ci) (v := .int v) (ty := ty) (C := Cn) (T := Tn) (N := Nn) hx hb hts (fun u hu => List.mem_cons_of_mem _ ((hC ci Cn Tn Nn g1).1 u hu)) ty0 gt gn hown hK hP hD hS a (xw_get hCa) g1 j g2 (hin g3) (fun _ h9 => h9) e1 e2 e3 e4 (by rw [List.length_map]; exact hj) hd (fun H1 locs1 hP1 hD1 hS1 => ?_)
        have e9 : (Sum.inr (ci, (fs.map (xv ρ)).set j (.int v)) : va_E) = xd cI cZ ρ (.inr (ci, fs.set j (.int v))) := by
          show (Sum.inr (ci, (fs.map (xv ρ)).set j (.int v)) : va_E) = .inr (ci, (fs.set j (.int v)).map (xv ρ))
          rw [List.map_set]
          rfl
        rw [e9, xw_set] at hP1 hD1
        exact go h hP1 hD1 hS1 hl (by rw [List.length_set]; exact hN)
      unfold xe_fit at hft
      cases q0 : Nat.beq t 0 with
      | true =>
        have e0 := g4 (Nat.eq_of_beq_eq_true q0)
        exact key .int e0.1 e0.2 rfl rfl
      | false =>
        rw [q0] at hft
        cases q1 : Nat.beq t 1 with
        | true =>
          rw [q1] at hft
          have e0 := g5 (Nat.eq_of_beq_eq_true q1)
          simp only [cond_false, cond_true, Bool.or_eq_true, decide_eq_true_eq] at hft
          rcases hft with e5 | e5
          · subst e5
            exact key .boolean e0.1 e0.2 rfl rfl
          · subst e5
            exact key .boolean e0.1 e0.2 rfl rfl
        | false =>
          rw [q1] at hft
          cases hft
    | iaload =>
      obtain rfl : len = 1 := Nat.eq_of_beq_eq_true ho
      replace h : xe_ald 0 C S ((xe M mac n) k C (pc + 1) L) = some (r, C') := h
      have h0 := xe_ald_inv h
      clear h
      obtain ⟨i, a, T, sz, f, rfl, hCa, hi, h⟩ := h0
      exact va_iald hx hb hK hP a 0 (xw_get hCa) rfl hi hd (go h hP hD hS hl hN)
    | baload =>
      obtain rfl : len = 1 := Nat.eq_of_beq_eq_true ho
      replace h : xe_ald 1 C S ((xe M mac n) k C (pc + 1) L) = some (r, C') := h
      have h0 := xe_ald_inv h
      clear h
      obtain ⟨i, a, T, sz, f, rfl, hCa, hi, h⟩ := h0
      exact va_zald hx hb hK hP a 1 (xw_get hCa) rfl hi hd (go h hP hD hS hl hN)
    | iastore =>
      obtain rfl : len = 1 := Nat.eq_of_beq_eq_true ho
      replace h : xe_ast 0 (fun x => x) C S (fun C' T => (xe M mac n) k C' (pc + 1) L T) = some (r, C') := h
      have h0 := xe_ast_inv h
      clear h
      obtain ⟨x, i, a, T, sz, f, rfl, hCa, hi, h⟩ := h0
      refine va_iast hx hb hK hP hD hS a 0 (xw_get hCa) rfl hi hd (fun H1 locs1 hP1 hD1 hS1 => ?_)
      rw [show (Sum.inl (xcy cI cZ 0, sz, Sum.inl (upd f i.toNatClampNeg x)) : va_E) = xd cI cZ ρ (.inl (0, sz, .inl (upd f i.toNatClampNeg x))) from rfl, xw_set] at hP1 hD1
      exact go h hP1 hD1 hS1 hl (by rw [List.length_set]; exact hN)
    | bastore =>
      obtain rfl : len = 1 := Nat.eq_of_beq_eq_true ho
      replace h : xe_ast 1 (fun x => vp_nar .boolean x) C S (fun C' T => (xe M mac n) k C' (pc + 1) L T) = some (r, C') := h
      have h0 := xe_ast_inv h
      clear h
      obtain ⟨x, i, a, T, sz, f, rfl, hCa, hi, h⟩ := h0
      refine va_zast hx hb hK hP hD hS a 1 (xw_get hCa) rfl hi hd (fun H1 locs1 hP1 hD1 hS1 => ?_)
      rw [show (Sum.inl (xcy cI cZ 1, sz, Sum.inl (upd f i.toNatClampNeg (vp_nar .boolean x))) : va_E) = xd cI cZ ρ (.inl (1, sz, .inl (upd f i.toNatClampNeg (vp_nar .boolean x)))) from rfl, xw_set] at hP1 hD1
      exact go h hP1 hD1 hS1 hl (by rw [List.length_set]; exact hN)
    | arraylength =>
      obtain rfl : len = 1 := Nat.eq_of_beq_eq_true ho
      replace h : xe_aln C S ((xe M mac n) k C (pc + 1) L) = some (r, C') := h
      have h0 := xe_aln_inv h
      clear h
      obtain ⟨a, T, t, x, rfl, hCa, ht, h⟩ := h0
      rcases (show t = 0 ∨ t = 1 by omega) with rfl | rfl
      · exact va_alen hx hb hK hP a 0 (xw_get hCa) rfl rfl hd (go h hP hD hS hl hN)
      · exact va_alen hx hb hK hP a 1 (xw_get hCa) rfl rfl hd (go h hP hD hS hl hN)
    | invokevirtual idx =>
      obtain rfl : len = 3 := Nat.eq_of_beq_eq_true ho
      replace h : xe_inv M (xe M mac n) k C pc L S true idx = some (r, C') := h
      have h0 := xe_inv_v h
      clear h
      obtain ⟨k', na, ci, As, T, b, fs, hI, rfl, hna, hCb, h⟩ := h0
      obtain ⟨f1, f2, f3, f4, f5, f6⟩ := (hV k).2.2.2.2.2.2.2 _ hI
      have h0 := xe_call_inv h
      clear h
      obtain ⟨c1, c2, c3, C1, hc⟩ := h0
      have hcd := (hV k').2.2.2.1
      have hini := hin (hV k').2.2.2.2.1
      have hsum : ((T.map (xv ρ)).map fun v => v.category).sum ≤ 8 := by
        rw [List.map_map]
        rw [show ((fun v : Value => v.category) ∘ xv ρ) = fun v => v.category from funext (xv_cat ρ)]
        exact c1
      have hFr := xe_free hD hS hA
      obtain ⟨p1, p2, p3, Tn, Nn, p4⟩ := f4 rfl
      have hcw : CallW (xe_rm (M k)) s args (xm_o (M k)) (xm_y (M k')).cls idx (xm_y (M k')) (xm_c (M k')) (xm_n (M k')) (xm_r (M k')) (xe_ws WS (M k')) (xe_rm (M k')) 0 0 na := cwV na hts (xe_goodV hG (ps := [.methodLink (xm_o (M k)) idx (xm_y (M k')), .instanceMethod (xm_y (M k')), .selects (xm_y (M k')).cls (xm_y (M k')) (xm_y (M k')), .initialized (xm_y (M k')).cls]) (by
        intro u hu
        simp only [List.mem_cons, List.not_mem_nil, or_false] at hu
        rcases hu with rfl | rfl | rfl | rfl
        · exact p1
        · exact p2
        · exact p3
        · exact (hV k').2.2.2.2.1) hcd) rfl rfl rfl ⟨rfl, f3⟩ ⟨f1, f2⟩
      have hrv := va_recv hK hP (ci := ci) (q0 := b) p4 (xw_get hCb)
      have hstk : (F0 m pc ls ((As.reverse ++ .ref b :: T).map (xv ρ))).stack = (As.map (xv ρ)).reverse ++ .ref (ρ b) :: T.map (xv ρ) := by
        show (As.reverse ++ .ref b :: T).map (xv ρ) = _
        rw [List.map_append, List.map_reverse]
        rfl
      rcases hc with ⟨hc1, h⟩ | ⟨v, hc1, h⟩
      · refine va_callv (S := Unit) (post := fun _ => True) (B := fun _ t => va_P D CL (xw cI cZ ρ C1) t.heap ∧ C1.length = C.length) (va_runV (As := As.map (xv ρ)) (rest := T.map (xv ρ)) ⟨hx, hb, hml, hown, hts⟩ (xe_m hV IH hc1 c2 c3 H.size) hcw ⟨xe_blind _ _ _ _ _ _ _ _ _, hrv, xe_pre (av := .ref (ρ b) :: As.map (xv ρ)) hP hK hD hns⟩ rfl (by rw [List.length_map]; exact hna) hl.1 hstk (lv_room hsum) hd ⟨Nat.le_refl 0, Nat.le_refl 0⟩) hS (fun q _ z => hFr q z) hFr (fun u t H1 locs1 ht hvm hw hB hz1 hk1 hS1 => ?_)
        obtain ⟨hP1, hN1⟩ := hB
        rw [ht] at hP1
        exact go h hP1 (xw_D hN1 hD) hS1 hl (hN1.trans hN)
      · refine va_calli (S := Unit) (post := fun (u : Int32) _ => u = v) (B := fun _ t => va_P D CL (xw cI cZ ρ C1) t.heap ∧ C1.length = C.length) (va_runV (As := As.map (xv ρ)) (rest := T.map (xv ρ)) ⟨hx, hb, hml, hown, hts⟩ (xe_m hV IH hc1 c2 c3 H.size) hcw ⟨xe_blind _ _ _ _ _ _ _ _ _, hrv, xe_pre (av := .ref (ρ b) :: As.map (xv ρ)) hP hK hD hns⟩ rfl (by rw [List.length_map]; exact hna) hl.1 hstk (lv_room hsum) hd ⟨Nat.le_refl 0, Nat.le_refl 0⟩) hS (fun q _ z => hFr q z) hFr (fun x u t H1 locs1 ht hvm hw hB hz1 hk1 hS1 => ?_)
        obtain ⟨hP1, hN1⟩ := hB
        rw [ht] at hP1
        subst hw
        exact go (S1 := .int x :: T) h hP1 (xw_D hN1 hD) hS1 hl (hN1.trans hN)
    | invokestatic idx =>
      obtain rfl : len = 3 := Nat.eq_of_beq_eq_true ho
      replace h : xe_inv M (xe M mac n) k C pc L S false idx = some (r, C') := h
      have h0 := xe_inv_s h
      clear h
      obtain ⟨k', na, kd, ci, As, T, hI, hkd, rfl, hna, h⟩ := h0
      obtain ⟨f1, f2, f3, f4, f5, f6⟩ := (hV k).2.2.2.2.2.2.2 _ hI
      have h0 := xe_call_inv h
      clear h
      obtain ⟨c1, c2, c3, C1, hc⟩ := h0
      have hcd := (hV k').2.2.2.1
      have hini := hin (hV k').2.2.2.2.1
      have hsum : ((T.map (xv ρ)).map fun v => v.category).sum ≤ 8 := by
        rw [List.map_map]
        rw [show ((fun v : Value => v.category) ∘ xv ρ) = fun v => v.category from funext (xv_cat ρ)]
        exact c1
      have hFr := xe_free hD hS hA
      have hstk : (F0 m pc ls ((As.reverse ++ T).map (xv ρ))).stack = (As.map (xv ρ)).reverse ++ T.map (xv ρ) := by
        show (As.reverse ++ T).map (xv ρ) = _
        rw [List.map_append, List.map_reverse]
      by_cases hk1 : kd = 1
      · obtain ⟨p1, p2⟩ := f5 hk1
        have hcw : CallB (xe_rm (M k)) s args (xm_o (M k)) idx (xm_y (M k')) (xm_c (M k')) (xm_n (M k')) (xm_r (M k')) (xe_ws WS (M k')) (xe_rm (M k')) 0 0 na ∧ (Cond.static (xm_y (M k'))).before args s = true := va_cwS na hts (xe_goodV hG (ps := [.methodLink (xm_o (M k)) idx (xm_y (M k')), .static (xm_y (M k')), .initialized (xm_y (M k')).cls]) (by
          intro u hu
          simp only [List.mem_cons, List.not_mem_nil, or_false] at hu
          rcases hu with rfl | rfl | rfl
          · exact p1
          · exact p2
          · exact (hV k').2.2.2.2.1) hcd) rfl rfl rfl f3 ⟨f1, f2⟩
        rcases hc with ⟨hc1, h⟩ | ⟨v, hc1, h⟩
        · refine va_callv (S := Unit) (post := fun _ => True) (B := fun _ t => va_P D CL (xw cI cZ ρ C1) t.heap ∧ C1.length = C.length) (va_runS (As := As.map (xv ρ)) (rest := T.map (xv ρ)) ⟨hx, hb, hml, hown, hts⟩ (xe_m hV IH hc1 c2 c3 H.size) hcw ⟨xe_blind _ _ _ _ _ _ _ _ _, xe_pre (av := As.map (xv ρ)) hP hK hD hns⟩ rfl (by rw [List.length_map]; exact hna) hl.1 hstk (lv_room hsum) hd ⟨Nat.le_refl 0, Nat.le_refl 0⟩) hS (fun q _ z => hFr q z) hFr (fun u t H1 locs1 ht hvm hw hB hz1 hk1 hS1 => ?_)
          obtain ⟨hP1, hN1⟩ := hB
          rw [ht] at hP1
          exact go h hP1 (xw_D hN1 hD) hS1 hl (hN1.trans hN)
        · refine va_calli (S := Unit) (post := fun (u : Int32) _ => u = v) (B := fun _ t => va_P D CL (xw cI cZ ρ C1) t.heap ∧ C1.length = C.length) (va_runS (As := As.map (xv ρ)) (rest := T.map (xv ρ)) ⟨hx, hb, hml, hown, hts⟩ (xe_m hV IH hc1 c2 c3 H.size) hcw ⟨xe_blind _ _ _ _ _ _ _ _ _, xe_pre (av := As.map (xv ρ)) hP hK hD hns⟩ rfl (by rw [List.length_map]; exact hna) hl.1 hstk (lv_room hsum) hd ⟨Nat.le_refl 0, Nat.le_refl 0⟩) hS (fun q _ z => hFr q z) hFr (fun x u t H1 locs1 ht hvm hw hB hz1 hk1 hS1 => ?_)
          obtain ⟨hP1, hN1⟩ := hB
          rw [ht] at hP1
          subst hw
          exact go (S1 := .int x :: T) h hP1 (xw_D hN1 hD) hS1 hl (hN1.trans hN)
      · obtain ⟨p2, host, p1⟩ := f6 hkd hk1
        have hcw : va_CN (xe_rm (M k)) s args (xm_o (M k)) idx (xm_y (M k')) host (xm_c (M k')) (xm_n (M k')) (xm_r (M k')) (xe_ws WS (M k')) (xe_rm (M k')) 0 0 na := va_cnB na hts (xe_goodIn hG hcd) rfl rfl rfl (hns _ p1) hini f3 ⟨f1, f2⟩
        rcases hc with ⟨hc1, h⟩ | ⟨v, hc1, h⟩
        · refine va_callv (S := Unit) (post := fun _ => True) (B := fun _ t => va_P D CL (xw cI cZ ρ C1) t.heap ∧ C1.length = C.length) (va_runSN (As := As.map (xv ρ)) (rest := T.map (xv ρ)) ⟨hx, hb, hml, hown, hts⟩ (xe_m hV IH hc1 c2 c3 H.size) ⟨hcw, hin p2, trivial⟩ ⟨xe_blind _ _ _ _ _ _ _ _ _, xe_pre (av := As.map (xv ρ)) hP hK hD hns⟩ rfl (by rw [List.length_map]; exact hna) hl.1 hstk (lv_room hsum) hd ⟨Nat.le_refl 0, Nat.le_refl 0⟩) hS (fun q _ z => hFr q z) hFr (fun u t H1 locs1 ht hvm hw hB hz1 hk1 hS1 => ?_)
          obtain ⟨hP1, hN1⟩ := hB
          rw [ht] at hP1
          exact go h hP1 (xw_D hN1 hD) hS1 hl (hN1.trans hN)
        · refine va_calli (S := Unit) (post := fun (u : Int32) _ => u = v) (B := fun _ t => va_P D CL (xw cI cZ ρ C1) t.heap ∧ C1.length = C.length) (va_runSN (As := As.map (xv ρ)) (rest := T.map (xv ρ)) ⟨hx, hb, hml, hown, hts⟩ (xe_m hV IH hc1 c2 c3 H.size) ⟨hcw, hin p2, trivial⟩ ⟨xe_blind _ _ _ _ _ _ _ _ _, xe_pre (av := As.map (xv ρ)) hP hK hD hns⟩ rfl (by rw [List.length_map]; exact hna) hl.1 hstk (lv_room hsum) hd ⟨Nat.le_refl 0, Nat.le_refl 0⟩) hS (fun q _ z => hFr q z) hFr (fun x u t H1 locs1 ht hvm hw hB hz1 hk1 hS1 => ?_)
          obtain ⟨hP1, hN1⟩ := hB
          rw [ht] at hP1
          subst hw
          exact go (S1 := .int x :: T) h hP1 (xw_D hN1 hD) hS1 hl (hN1.trans hN)
    | ireturn =>
      obtain rfl : len = 1 := Nat.eq_of_beq_eq_true ho
      replace h : xe_irt (xm_r (M k)) C S = some (r, C') := h
      have h0 := xe_irt_inv h
      clear h
      obtain ⟨v, rfl, rfl, rfl, hret⟩ := h0
      rcases hret with e0 | ⟨e0, e1⟩
      · exact W.iret (v := v) hx hb (hr.trans e0) (fun t ht hW => ⟨⟨v, (), rfl, rfl, by rw [ht]; exact hP, hN⟩, hS.F ht⟩) hS.2.2 hd hlk
      · exact W.zret (v := v) (ty := .boolean) hx hb (hr.trans e0) (by rcases e1 with rfl | rfl <;> rfl) (fun t ht hW => ⟨⟨v, (), rfl, rfl, by rw [ht]; exact hP, hN⟩, hS.F ht⟩) hS.2.2 hd hlk
    | return_ =>
      obtain rfl : len = 1 := Nat.eq_of_beq_eq_true ho
      replace h : xe_vrt (xm_r (M k)) C S = some (r, C') := h
      have h0 := xe_vrt_inv h
      clear h
      obtain ⟨rfl, rfl, rfl, hret⟩ := h0
      exact W.vret hx hb (hr.trans hret) (fun t ht hW => ⟨⟨(), rfl, trivial, by rw [ht]; exact hP, hN⟩, hS.F ht⟩) hS.2.2 hd hlk
    | _ => cases (show (none : xR) = some (r, C') from h)
end XW
/-- the contract of a method out of one run of the executor -/
theorem xe_met {M : Nat → xM} {mac : xMac} {CL : List vw_C} {WS : List Cond} {ns : xN} (hV : ∀ k, xOK M CL WS ns k) (hC : xCL CL WS) (hG : ∀ u ∈ WS, goodWord u = true) (l : Launch) (D : va_G) (cI cZ : ClassId) (ρ : Nat → Nat) (hM : xe_MacOK M mac CL WS ns l D cI cZ ρ) {n k : Nat} {C : xC} {vs : List Value} {r : Option Value} {C' : xC} (h : xe M mac n k C 0 (lv_args 0 vs) [] = some (r, C')) (hc : xe_c1 vs = true) (hn : vs.length ≤ xm_n (M k)) (sz : Nat) :
    Met l (xm_y (M k)) (xe_ws WS (M k)) (xe_rm (M k)) (xe_Pc D CL ns cI cZ ρ C (vs.map (xv ρ)) sz) (xe_Q D CL cI cZ ρ (va_A (xw cI cZ ρ C) sz) C.length r C') 0 0 (va_A (xw cI cZ ρ C) sz) := xe_m hV (xe_w hV hC hG l D cI cZ ρ hM n) h hc hn sz
