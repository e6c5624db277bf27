/-! THE TABLES: the methods that the executor runs -/
abbrev xCLs : List vw_C := [(RX0, TX0, 14), (RX1, TX1, 13), (RX2, TX2, 6), (RX3, TX3, 18), (RX4, TX4, 15), (RX5, TX5, 56)]
def xWS : List Cond := lw_tbl.filter goodWord
def xNS : xN := [("WrittenBench", 9, ⟨"WrittenBench$Program", "<init>", "()V"⟩, "WrittenBench"), ("WrittenBench$Program", 34, ⟨"WrittenBench", "locate", "(II)I"⟩, "WrittenBench"), ("WrittenBench$Program", 30, ⟨"WrittenBench", "isFunction", "(I)Z"⟩, "WrittenBench"), ("WrittenBench$Run", 85, ⟨"WrittenBench", "locate", "(II)I"⟩, "WrittenBench"), ("WrittenBench$Run", 121, ⟨"WrittenBench", "hasBit", "(II)Z"⟩, "WrittenBench"), ("WrittenBench$Run", 151, ⟨"WrittenBench", "withRowCopied", "(IIII)I"⟩, "WrittenBench"), ("WrittenBench$Run", 141, ⟨"WrittenBench", "withBit", "(IIZ)I"⟩, "WrittenBench"), ("WrittenBench$Flow", 73, ⟨"WrittenBench", "locate", "(II)I"⟩, "WrittenBench"), ("WrittenBench$Flow", 136, ⟨"WrittenBench", "rowOf", "(II)I"⟩, "WrittenBench"), ("WrittenBench$Flow", 139, ⟨"WrittenBench", "withRowCopied", "(IIII)I"⟩, "WrittenBench"), ("WrittenBench$Flow", 69, ⟨"WrittenBench", "hasBit", "(II)Z"⟩, "WrittenBench"), ("WrittenBench$Flow", 143, ⟨"WrittenBench", "withBit", "(IIZ)I"⟩, "WrittenBench"), ("WrittenBench$Mender", 53, ⟨"WrittenBench", "hasBit", "(II)Z"⟩, "WrittenBench"), ("WrittenBench$Mender", 122, ⟨"WrittenBench", "withBit", "(IIZ)I"⟩, "WrittenBench")]
theorem xWS_good : ∀ u ∈ xWS, goodWord u = true := fun _ h => (List.mem_filter.mp h).2
def xe_wd (n : Nat) (u : Cond) : Bool := decide (lw_tbl[n]? = some u) && goodWord u
theorem xe_wd_mem {n : Nat} {u : Cond} (h : xe_wd n u = true) : u ∈ xWS := by
  simp only [xe_wd, Bool.and_eq_true, decide_eq_true_eq] at h
  exact List.mem_filter.mpr ⟨List.mem_of_getElem? h.1, h.2⟩
def xe_all2 {α β : Type} (g : α → β → Bool) : List α → List β → Bool
  | [], _ => true
  | _ :: _, [] => false
  | a :: as, n :: ns => g a n && xe_all2 g as ns
theorem xe_all2_mem {α β : Type} {g : α → β → Bool} {as : List α} {ns : List β} (h : xe_all2 g as ns = true) : ∀ a ∈ as, ∃ n, g a n = true := by
  induction as generalizing ns with
  | nil => exact fun _ h => absurd h List.not_mem_nil
  | cons a t ih =>
    cases ns with
    | nil => cases h
    | cons n ns =>
      simp only [xe_all2, Bool.and_eq_true] at h
      intro b hb
      rcases List.mem_cons.mp hb with e | e
      · exact ⟨n, by rw [e]; exact h.1⟩
      · exact ih h.2 b e
def xe_dck (code : ByteArray) : Nat → List (Option (Instr × Nat)) → Bool
  | _, [] => true
  | b, none :: t => xe_dck code (b + 1) t
  | b, some q :: t => decide (decode code b = .ok q) && (xe_okl q.1 q.2 && xe_dck code (b + 1) t)
theorem xe_dck_at {code : ByteArray} {b : Nat} {l : List (Option (Instr × Nat))} (h : xe_dck code b l = true) {p : Nat} {q : Instr × Nat} (hp : l[p]? = some (some q)) : decode code (b + p) = .ok q ∧ xe_okl q.1 q.2 = true := by
  induction l generalizing b p with
  | nil => simp at hp
  | cons a t ih =>
    cases p with
    | zero =>
      simp only [List.getElem?_cons_zero, Option.some.injEq] at hp
      subst hp
      simp only [xe_dck, Bool.and_eq_true, decide_eq_true_eq] at h
      exact ⟨h.1, h.2.1⟩
    | succ p =>
      simp only [List.getElem?_cons_succ] at hp
      have h2 : xe_dck code (b + 1) t = true := by
        cases a with
        | none => exact h
        | some a => simp only [xe_dck, Bool.and_eq_true, decide_eq_true_eq] at h; exact h.2.2
      have h3 := ih h2 hp
      rwa [show b + 1 + p = b + (p + 1) by omega] at h3
def xe_dcs (code : ByteArray) : Nat → List (List (Option (Instr × Nat))) → Prop
  | _, [] => True
  | b, l :: t => xe_dck code (16 * b) l = true ∧ xe_dcs code (b + 1) t
theorem xe_dcs_at {code : ByteArray} {b : Nat} {t : List (List (Option (Instr × Nat)))} (h : xe_dcs code b t) {c : Nat} {l : List (Option (Instr × Nat))} (hc : t[c]? = some l) : xe_dck code (16 * (b + c)) l = true := by
  induction t generalizing b c with
  | nil => simp at hc
  | cons a t ih =>
    cases c with
    | zero =>
      simp only [List.getElem?_cons_zero, Option.some.injEq] at hc
      subst hc
      exact h.1
    | succ c =>
      simp only [List.getElem?_cons_succ] at hc
      have h3 := ih h.2 hc
      rwa [show b + 1 + c = b + (c + 1) by omega] at h3
theorem xe_dcs_lk {code : ByteArray} {t : List (List (Option (Instr × Nat)))} (h : xe_dcs code 0 t) (pc : Nat) (i : Instr) (len : Nat) (hl : xe_lk t pc = some (i, len)) : decode code pc = .ok (i, len) ∧ xe_okl i len = true := by
  unfold xe_lk at hl
  split at hl
  · cases hl
  · rename_i l h1
    split at hl
    · cases hl
    · rename_i q h2
      subst hl
      rw [xe_nth_eq] at h1 h2
      have h3 := xe_dck_at (xe_dcs_at h h1) h2
      rwa [show 16 * (0 + pc / 16) + pc % 16 = pc by omega] at h3
def xe_fk (own : String) (q : Nat × Nat × Nat × Nat) (n : Nat) : Bool := match xCLs[q.2.1]? with
  | some (_, T, N) => Nat.blt q.2.2.1 N && (xe_wd n (.fieldLink own q.1 (T q.2.2.1).1 (T q.2.2.1).2.1 (T q.2.2.1).2.2.1) && ((!(Nat.beq q.2.2.2 0) || (!(T q.2.2.1).2.2.2 && decide (parseFieldDescriptor (T q.2.2.1).2.2.1 = some .int))) && (!(Nat.beq q.2.2.2 1) || (!(T q.2.2.1).2.2.2 && decide (parseFieldDescriptor (T q.2.2.1).2.2.1 = some .boolean)))))
  | none => false
theorem xe_fk_of {own : String} {q : Nat × Nat × Nat × Nat} {n : Nat} (h : xe_fk own q n = true) : ∃ (C : String) (T : u_T) (N : Nat), xCLs[q.2.1]? = some (C, T, N) ∧ q.2.2.1 < N ∧ Cond.fieldLink own q.1 (T q.2.2.1).1 (T q.2.2.1).2.1 (T q.2.2.1).2.2.1 ∈ xWS ∧ (q.2.2.2 = 0 → (T q.2.2.1).2.2.2 = false ∧ parseFieldDescriptor (T q.2.2.1).2.2.1 = some .int) ∧ (q.2.2.2 = 1 → (T q.2.2.1).2.2.2 = false ∧ parseFieldDescriptor (T q.2.2.1).2.2.1 = some .boolean) := by
  unfold xe_fk at h
  split at h
  · rename_i C T N hC
    simp only [Bool.and_eq_true] at h
    obtain ⟨h1, h2, h3, h4⟩ := h
    refine ⟨C, T, N, hC, Nat.blt_eq.mp h1, xe_wd_mem h2, fun e => ?_, fun e => ?_⟩
    · rw [e] at h3
      simpa using h3
    · rw [e] at h4
      simpa using h4
  · cases h
def xe_kk (own : String) (q : Nat × Int32) (n : Nat) : Bool := xe_wd n (.constant own q.1 q.2)
def xe_ik (M : Nat → xM) (k : Nat) (q : Nat × Nat × Nat × Nat × Nat) (ns : List Nat) : Bool :=
  (Nat.ble (xm_f (M q.2.1) + 1) (xm_f (M k)) && Nat.ble (8 + (xm_n (M q.2.1) + 11) + xm_l (M q.2.1)) (xm_l (M k))) && ((!(decide ((xm_y (M q.2.1)).cls = "java/lang/invoke/MethodHandle")) && !(decide ((xm_y (M q.2.1)).cls = "java/lang/invoke/VarHandle"))) && (decide ((parseMethodDescriptor (xm_y (M q.2.1)).desc).map (fun d => d.parameters.length) = some q.2.2.1) && match q.2.2.2.1, ns with
    | 0, [a, b, c] => xe_wd a (.methodLink (xm_o (M k)) q.1 (xm_y (M q.2.1))) && (xe_wd b (.instanceMethod (xm_y (M q.2.1))) && (xe_wd c (.selects (xm_y (M q.2.1)).cls (xm_y (M q.2.1)) (xm_y (M q.2.1))) && match xCLs[q.2.2.2.2]? with
      | some (C, _, _) => decide (C = (xm_y (M q.2.1)).cls)
      | none => false))
    | 1, [a, b] => xe_wd a (.methodLink (xm_o (M k)) q.1 (xm_y (M q.2.1))) && xe_wd b (.static (xm_y (M q.2.1)))
    | 2, [b] => xe_wd b (.static (xm_y (M q.2.1))) && xNS.any (fun z => decide (z.1 = xm_o (M k) ∧ z.2.1 = q.1 ∧ z.2.2.1 = xm_y (M q.2.1)))
    | _, _ => false))
theorem xe_ik_of {M : Nat → xM} {k : Nat} {q : Nat × Nat × Nat × Nat × Nat} {ns : List Nat} (h : xe_ik M k q ns = true) : xm_f (M q.2.1) + 1 ≤ xm_f (M k) ∧ 8 + (xm_n (M q.2.1) + 11) + xm_l (M q.2.1) ≤ xm_l (M k) ∧ ((xm_y (M q.2.1)).cls ≠ "java/lang/invoke/MethodHandle" ∧ (xm_y (M q.2.1)).cls ≠ "java/lang/invoke/VarHandle" ∧ (parseMethodDescriptor (xm_y (M q.2.1)).desc).map (fun d => d.parameters.length) = some q.2.2.1) ∧
    (q.2.2.2.1 = 0 → Cond.methodLink (xm_o (M k)) q.1 (xm_y (M q.2.1)) ∈ xWS ∧ Cond.instanceMethod (xm_y (M q.2.1)) ∈ xWS ∧ Cond.selects (xm_y (M q.2.1)).cls (xm_y (M q.2.1)) (xm_y (M q.2.1)) ∈ xWS ∧ ∃ (T : u_T) (N : Nat), xCLs[q.2.2.2.2]? = some ((xm_y (M q.2.1)).cls, T, N)) ∧
    (q.2.2.2.1 = 1 → Cond.methodLink (xm_o (M k)) q.1 (xm_y (M q.2.1)) ∈ xWS ∧ Cond.static (xm_y (M q.2.1)) ∈ xWS) ∧
    (q.2.2.2.1 ≠ 0 → q.2.2.2.1 ≠ 1 → Cond.static (xm_y (M q.2.1)) ∈ xWS ∧ ∃ host : String, (xm_o (M k), q.1, xm_y (M q.2.1), host) ∈ xNS) := by
  unfold xe_ik at h
  simp only [Bool.and_eq_true, Bool.not_eq_true', decide_eq_false_iff_not, decide_eq_true_eq] at h
  obtain ⟨⟨h1, h2⟩, ⟨h3, h4⟩, h5, h6⟩ := h
  refine ⟨Nat.le_of_ble_eq_true h1, Nat.le_of_ble_eq_true h2, ⟨h3, h4, h5⟩, ?_⟩
  split at h6
  · have e : q.2.2.2.1 = 0 := by assumption
    simp only [Bool.and_eq_true] at h6
    obtain ⟨a1, a2, a3, a4⟩ := h6
    refine ⟨fun _ => ⟨xe_wd_mem a1, xe_wd_mem a2, xe_wd_mem a3, ?_⟩, fun g => absurd (e.symm.trans g) (by decide), fun g _ => absurd e g⟩
    split at a4
    · rename_i C T N hC
      exact ⟨T, N, by rw [hC, of_decide_eq_true a4]⟩
    · cases a4
  · have e : q.2.2.2.1 = 1 := by assumption
    simp only [Bool.and_eq_true] at h6
    exact ⟨fun g => absurd (e.symm.trans g) (by decide), fun _ => ⟨xe_wd_mem h6.1, xe_wd_mem h6.2⟩, fun _ g => absurd e g⟩
  · have e : q.2.2.2.1 = 2 := by assumption
    simp only [Bool.and_eq_true, List.any_eq_true, decide_eq_true_eq] at h6
    obtain ⟨a1, z, z1, z2, z3, z4⟩ := h6
    refine ⟨fun g => absurd (e.symm.trans g) (by decide), fun g => absurd (e.symm.trans g) (by decide), fun _ _ => ⟨xe_wd_mem a1, z.2.2.2, ?_⟩⟩
    rw [← z2, ← z3, ← z4]
    exact z1
  · cases h6
theorem xOK_of {M : Nat → xM} {k : Nat} (fi : List Nat) (ki : List Nat) (ii : List (List Nat)) (nc ni : Nat) (h1 : xe_dcs (xm_c (M k)) 0 (xm_t (M k))) (h2 : plainName (xm_y (M k)).cls = true) (h3 : (xm_y (M k)).cls = xm_o (M k)) (h4 : xe_wd nc (.code (xm_y (M k)) (xm_c (M k)) (xm_n (M k)) (xm_r (M k))) = true) (h5 : xe_wd ni (.initialized (xm_y (M k)).cls) = true) (h6 : xe_all2 (xe_fk (xm_o (M k))) (xm_F (M k)) fi = true) (h7 : xe_all2 (xe_kk (xm_o (M k))) (xm_K (M k)) ki = true) (h8 : xe_all2 (xe_ik M k) (xm_I (M k)) ii = true) : xOK M xCLs xWS xNS k :=
  ⟨xe_dcs_lk h1, h2, h3, xe_wd_mem h4, xe_wd_mem h5, fun q hq => (xe_all2_mem h6 q hq).elim fun _ h => xe_fk_of h, fun q hq => (xe_all2_mem h7 q hq).elim fun _ h => xe_wd_mem h, fun q hq => (xe_all2_mem h8 q hq).elim fun _ h => xe_ik_of h⟩
def xt_0_0 : List (Option (Instr × Nat)) := [some (.iload_n 1, 1), some (.invokestatic 79, 3), none, none, some (.ifCond .eq 31, 3), none, none, some (.aload_n 0, 1), some (.getfield 10, 3), none, none, some (.getfield 83, 3), none, none, some (.iload_n 1, 1), some (.iaload, 1)]
def xt_0_1 : List (Option (Instr × Nat)) := [some (.bipush 30, 2), none, some (.if_icmp .ge 17, 3), none, none, some (.iload_n 2, 1), some (.iload_n 3, 1), some (.iload 4, 2), none, some (.iload 5, 2), none, some (.iload 6, 2), none, some (.invokestatic 86, 3), none, none]
def xt_0_2 : List (Option (Instr × Nat)) := [some (.ifCond .ne 5, 3), none, none, some (.iconst (-1), 1), some (.ireturn, 1), some (.aload_n 0, 1), some (.getfield 10, 3), none, none, some (.iload_n 1, 1), some (.aload_n 0, 1), some (.getfield 10, 3), none, none, some (.getfield 83, 3), none]
def xt_0_3 : List (Option (Instr × Nat)) := [none, some (.iload_n 1, 1), some (.iaload, 1), some (.iload_n 2, 1), some (.iload_n 3, 1), some (.iload 4, 2), none, some (.iload 5, 2), none, some (.iload 6, 2), none, some (.invokevirtual 90, 3), none, none, some (.aload_n 0, 1), some (.getfield 10, 3)]
def xt_0_4 : List (Option (Instr × Nat)) := [none, none, some (.getfield 83, 3), none, none, some (.iload_n 1, 1), some (.dup2, 1), some (.iaload, 1), some (.iconst 1, 1), some (.iadd, 1), some (.iastore, 1), some (.aload_n 0, 1), some (.invokevirtual 94, 3), none, none, some (.aload_n 0, 1)]
def xt_0_5 : List (Option (Instr × Nat)) := [some (.getfield 10, 3), none, none, some (.getfield 83, 3), none, none, some (.iload_n 1, 1), some (.iaload, 1), some (.ireturn, 1)]
/-- 0: X4_code -/
def xt_0 : xM := ((yX4_code, cX4_code, 7, some .int, RX4, 3, 65), [xt_0_0, xt_0_1, xt_0_2, xt_0_3, xt_0_4, xt_0_5], [(10, 4, 0, 2), (83, 2, 0, 2)], [(79, 22, 1, 1, 0), (86, 25, 5, 1, 0), (90, 29, 7, 0, 2), (94, 20, 0, 0, 4)], [])
def xt_1_0 : List (Option (Instr × Nat)) := [some (.aload_n 0, 1), some (.getfield 10, 3), none, none, some (.iload_n 1, 1), some (.iload_n 2, 1), some (.invokevirtual 97, 3), none, none, some (.ifCond .eq 18, 3), none, none, some (.iload_n 3, 1), some (.iload 4, 2), none, some (.iload 5, 2)]
def xt_1_1 : List (Option (Instr × Nat)) := [none, some (.iload 6, 2), none, some (.iload 7, 2), none, some (.invokestatic 86, 3), none, none, some (.ifCond .ne 5, 3), none, none, some (.iconst 0, 1), some (.ireturn, 1), some (.aload_n 0, 1), some (.getfield 10, 3), none]
def xt_1_2 : List (Option (Instr × Nat)) := [none, some (.iload_n 1, 1), some (.iload_n 2, 1), some (.iload_n 3, 1), some (.iload 4, 2), none, some (.iload 5, 2), none, some (.iload 6, 2), none, some (.iload 7, 2), none, some (.invokevirtual 90, 3), none, none, some (.aload_n 0, 1)]
def xt_1_3 : List (Option (Instr × Nat)) := [some (.invokevirtual 94, 3), none, none, some (.iconst 1, 1), some (.ireturn, 1)]
/-- 1: X4_change -/
def xt_1 : xM := ((yX4_change, cX4_change, 8, some .boolean, RX4, 3, 65), [xt_1_0, xt_1_1, xt_1_2, xt_1_3], [(10, 4, 0, 2)], [(97, 28, 2, 0, 2), (86, 25, 5, 1, 0), (90, 29, 7, 0, 2), (94, 20, 0, 0, 4)], [])
def xt_2_0 : List (Option (Instr × Nat)) := [some (.iload_n 1, 1), some (.invokestatic 79, 3), none, none, some (.ifCond .ne 5, 3), none, none, some (.iconst (-1), 1), some (.ireturn, 1), some (.aload_n 0, 1), some (.getfield 10, 3), none, none, some (.getfield 83, 3), none, none]
def xt_2_1 : List (Option (Instr × Nat)) := [some (.iload_n 1, 1), some (.iaload, 1), some (.istore_n 2, 1), some (.iload_n 2, 1), some (.ifCond .le 17, 3), none, none, some (.aload_n 0, 1), some (.getfield 10, 3), none, none, some (.getfield 83, 3), none, none, some (.iload_n 1, 1), some (.iconst 0, 1)]
def xt_2_2 : List (Option (Instr × Nat)) := [some (.iastore, 1), some (.aload_n 0, 1), some (.invokevirtual 94, 3), none, none, some (.iload_n 2, 1), some (.ireturn, 1)]
/-- 2: X4_clear -/
def xt_2 : xM := ((yX4_clear, cX4_clear, 3, some .int, RX4, 1, 20), [xt_2_0, xt_2_1, xt_2_2], [(10, 4, 0, 2), (83, 2, 0, 2)], [(79, 22, 1, 1, 0), (94, 20, 0, 0, 4)], [])
def xt_3_0 : List (Option (Instr × Nat)) := [some (.iload_n 1, 1), some (.ifCond .lt 19, 3), none, none, some (.iload_n 1, 1), some (.sipush 255, 3), none, none, some (.if_icmp .gt 12, 3), none, none, some (.aload_n 0, 1), some (.getfield 23, 3), none, none, some (.bipush 16, 2)]
def xt_3_1 : List (Option (Instr × Nat)) := [none, some (.if_icmp .lt 5, 3), none, none, some (.iconst (-1), 1), some (.ireturn, 1), some (.aload_n 0, 1), some (.getfield 20, 3), none, none, some (.aload_n 0, 1), some (.getfield 23, 3), none, none, some (.iload_n 1, 1), some (.iastore, 1)]
def xt_3_2 : List (Option (Instr × Nat)) := [some (.aload_n 0, 1), some (.dup, 1), some (.getfield 23, 3), none, none, some (.iconst 1, 1), some (.iadd, 1), some (.putfield 23, 3), none, none, some (.aload_n 0, 1), some (.getfield 23, 3), none, none, some (.ireturn, 1)]
/-- 3: X4_input -/
def xt_3 : xM := ((yX4_input, cX4_input, 2, some .int, RX4, 0, 0), [xt_3_0, xt_3_1, xt_3_2], [(23, 4, 3, 0), (20, 4, 2, 2)], [], [])
def xt_4_0 : List (Option (Instr × Nat)) := [some (.aload_n 0, 1), some (.getfield 23, 3), none, none, some (.istore_n 1, 1), some (.aload_n 0, 1), some (.iconst 0, 1), some (.putfield 23, 3), none, none, some (.iload_n 1, 1), some (.ireturn, 1)]
/-- 4: X4_empty -/
def xt_4 : xM := ((yX4_empty, cX4_empty, 2, some .int, RX4, 0, 0), [xt_4_0], [(23, 4, 3, 0)], [], [])
def xt_5_0 : List (Option (Instr × Nat)) := [some (.aload_n 0, 1), some (.iconst 1, 1), some (.putfield 36, 3), none, none, some (.aload_n 0, 1), some (.getfield 32, 3), none, none, some (.aload_n 0, 1), some (.getfield 23, 3), none, none, some (.invokevirtual 101, 3), none, none]
def xt_5_1 : List (Option (Instr × Nat)) := [some (.ireturn, 1)]
/-- 5: X4_run -/
def xt_5 : xM := ((yX4_run, cX4_run, 1, some .int, RX4, 3, 65), [xt_5_0, xt_5_1], [(36, 4, 5, 1), (32, 4, 4, 2), (23, 4, 3, 0)], [(101, 30, 1, 0, 3)], [])
def xt_6_0 : List (Option (Instr × Nat)) := [some (.aload_n 0, 1), some (.getfield 36, 3), none, none, some (.ifCond .ne 5, 3), none, none, some (.iconst (-1), 1), some (.ireturn, 1), some (.iload_n 1, 1), some (.tableswitch 125 0 5 #[38, 46, 54, 80, 106, 114], 38), none, none, none, none, none]
def xt_6_1 : List (Option (Instr × Nat)) := [none, none, none, none, none, none, none, none, none, none, none, none, none, none, none, none]
def xt_6_2 : List (Option (Instr × Nat)) := [none, none, none, none, none, none, none, none, none, none, none, none, none, none, none, none]
def xt_6_3 : List (Option (Instr × Nat)) := [some (.aload_n 0, 1), some (.getfield 32, 3), none, none, some (.getfield 105, 3), none, none, some (.ireturn, 1), some (.aload_n 0, 1), some (.getfield 32, 3), none, none, some (.getfield 108, 3), none, none, some (.ireturn, 1)]
def xt_6_4 : List (Option (Instr × Nat)) := [some (.aload_n 0, 1), some (.getfield 32, 3), none, none, some (.getfield 111, 3), none, none, some (.iconst (-1), 1), some (.if_icmp .ne 7, 3), none, none, some (.iconst (-1), 1), some (.goto 13, 3), none, none, some (.aload_n 0, 1)]
def xt_6_5 : List (Option (Instr × Nat)) := [some (.getfield 32, 3), none, none, some (.getfield 111, 3), none, none, some (.invokestatic 114, 3), none, none, some (.ireturn, 1), some (.aload_n 0, 1), some (.getfield 32, 3), none, none, some (.getfield 111, 3), none]
def xt_6_6 : List (Option (Instr × Nat)) := [none, some (.iconst (-1), 1), some (.if_icmp .ne 7, 3), none, none, some (.iconst (-1), 1), some (.goto 13, 3), none, none, some (.aload_n 0, 1), some (.getfield 32, 3), none, none, some (.getfield 111, 3), none, none]
def xt_6_7 : List (Option (Instr × Nat)) := [some (.invokestatic 117, 3), none, none, some (.ireturn, 1), some (.aload_n 0, 1), some (.getfield 32, 3), none, none, some (.getfield 120, 3), none, none, some (.ireturn, 1), some (.aload_n 0, 1), some (.getfield 32, 3), none, none]
def xt_6_8 : List (Option (Instr × Nat)) := [some (.getfield 123, 3), none, none, some (.invokestatic 126, 3), none, none, some (.ireturn, 1), some (.iconst (-1), 1), some (.ireturn, 1)]
/-- 6: X4_ran -/
def xt_6 : xM := ((yX4_ran, cX4_ran, 2, some .int, RX4, 0, 0), [xt_6_0, xt_6_1, xt_6_2, xt_6_3, xt_6_4, xt_6_5, xt_6_6, xt_6_7, xt_6_8], [(36, 4, 5, 1), (32, 4, 4, 2), (105, 3, 10, 0), (108, 3, 11, 0), (111, 3, 12, 0), (120, 3, 13, 0), (123, 3, 9, 0)], [], [])
def xt_7_0 : List (Option (Instr × Nat)) := [some (.aload_n 0, 1), some (.getfield 36, 3), none, none, some (.ifCond .eq 24, 3), none, none, some (.iload_n 1, 1), some (.ifCond .lt 20, 3), none, none, some (.iload_n 1, 1), some (.bipush 40, 2), none, some (.if_icmp .ge 14, 3), none]
def xt_7_1 : List (Option (Instr × Nat)) := [none, some (.iload_n 1, 1), some (.aload_n 0, 1), some (.getfield 32, 3), none, none, some (.getfield 120, 3), none, none, some (.if_icmp .lt 5, 3), none, none, some (.iconst (-1), 1), some (.ireturn, 1), some (.aload_n 0, 1), some (.getfield 32, 3)]
def xt_7_2 : List (Option (Instr × Nat)) := [none, none, some (.getfield 131, 3), none, none, some (.iload_n 1, 1), some (.iaload, 1), some (.ireturn, 1)]
/-- 7: X4_printed -/
def xt_7 : xM := ((yX4_printed, cX4_printed, 2, some .int, RX4, 0, 0), [xt_7_0, xt_7_1, xt_7_2], [(36, 4, 5, 1), (32, 4, 4, 2), (120, 3, 13, 0), (131, 3, 14, 2)], [], [])
def xt_8_0 : List (Option (Instr × Nat)) := [some (.aload_n 0, 1), some (.getfield 36, 3), none, none, some (.ifCond .eq 10, 3), none, none, some (.iload_n 1, 1), some (.invokestatic 134, 3), none, none, some (.ifCond .ne 5, 3), none, none, some (.iconst (-1), 1), some (.ireturn, 1)]
def xt_8_1 : List (Option (Instr × Nat)) := [some (.iload_n 2, 1), some (.lookupswitch 57 #[(0, 27), (1, 37)], 27), none, none, none, none, none, none, none, none, none, none, none, none, none, none]
def xt_8_2 : List (Option (Instr × Nat)) := [none, none, none, none, none, none, none, none, none, none, none, none, some (.aload_n 0, 1), some (.getfield 32, 3), none, none]
def xt_8_3 : List (Option (Instr × Nat)) := [some (.getfield 137, 3), none, none, some (.iload_n 1, 1), some (.iaload, 1), some (.ireturn, 1), some (.aload_n 0, 1), some (.getfield 32, 3), none, none, some (.getfield 123, 3), none, none, some (.iload_n 1, 1), some (.invokestatic 140, 3), none]
def xt_8_4 : List (Option (Instr × Nat)) := [none, some (.ifCond .eq 7, 3), none, none, some (.iconst 1, 1), some (.goto 4, 3), none, none, some (.iconst 0, 1), some (.ireturn, 1), some (.iconst (-1), 1), some (.ireturn, 1)]
/-- 8: X4_cell -/
def xt_8 : xM := ((yX4_cell, cX4_cell, 3, some .int, RX4, 1, 21), [xt_8_0, xt_8_1, xt_8_2, xt_8_3, xt_8_4], [(36, 4, 5, 1), (32, 4, 4, 2), (137, 3, 8, 2), (123, 3, 9, 0)], [(134, 23, 1, 1, 0), (140, 27, 2, 1, 0)], [])
def xt_9_0 : List (Option (Instr × Nat)) := [some (.aload_n 0, 1), some (.invokevirtual 143, 3), none, none, some (.aload_n 0, 1), some (.getfield 54, 3), none, none, some (.invokevirtual 146, 3), none, none, some (.ireturn, 1)]
/-- 9: X4_flow -/
def xt_9 : xM := ((yX4_flow, cX4_flow, 1, some .int, RX4, 5, 122), [xt_9_0], [(54, 4, 9, 2)], [(143, 21, 0, 0, 4), (146, 36, 0, 0, 0)], [])
def xt_10_0 : List (Option (Instr × Nat)) := [some (.aload_n 0, 1), some (.invokevirtual 143, 3), none, none, some (.aload_n 0, 1), some (.getfield 54, 3), none, none, some (.iload_n 1, 1), some (.invokevirtual 149, 3), none, none, some (.istore_n 3, 1), some (.iload_n 3, 1), some (.iconst (-1), 1), some (.if_icmp .ne 5, 3)]
def xt_10_1 : List (Option (Instr × Nat)) := [none, none, some (.iconst (-1), 1), some (.ireturn, 1), some (.iload_n 2, 1), some (.tableswitch 66 0 3 #[31, 36, 41, 50], 31), none, none, none, none, none, none, none, none, none, none]
def xt_10_2 : List (Option (Instr × Nat)) := [none, none, none, none, none, none, none, none, none, none, none, none, none, none, none, none]
def xt_10_3 : List (Option (Instr × Nat)) := [none, none, none, none, some (.iload_n 3, 1), some (.invokestatic 114, 3), none, none, some (.ireturn, 1), some (.iload_n 3, 1), some (.invokestatic 117, 3), none, none, some (.ireturn, 1), some (.aload_n 0, 1), some (.getfield 10, 3)]
def xt_10_4 : List (Option (Instr × Nat)) := [none, none, some (.iload_n 3, 1), some (.invokevirtual 152, 3), none, none, some (.ireturn, 1), some (.aload_n 0, 1), some (.getfield 54, 3), none, none, some (.iload_n 3, 1), some (.invokestatic 114, 3), none, none, some (.iload_n 3, 1)]
def xt_10_5 : List (Option (Instr × Nat)) := [some (.invokestatic 117, 3), none, none, some (.invokevirtual 155, 3), none, none, some (.ireturn, 1), some (.iconst (-1), 1), some (.ireturn, 1)]
/-- 10: X4_bad -/
def xt_10 : xM := ((yX4_bad, cX4_bad, 4, some .int, RX4, 5, 122), [xt_10_0, xt_10_1, xt_10_2, xt_10_3, xt_10_4, xt_10_5], [(54, 4, 9, 2), (10, 4, 0, 2)], [(143, 21, 0, 0, 4), (149, 37, 1, 0, 0)], [])
def xt_11_0 : List (Option (Instr × Nat)) := [some (.iload_n 1, 1), some (.invokestatic 79, 3), none, none, some (.ifCond .eq 27, 3), none, none, some (.iload_n 2, 1), some (.ifCond .lt 23, 3), none, none, some (.iload_n 2, 1), some (.aload_n 0, 1), some (.getfield 10, 3), none, none]
def xt_11_1 : List (Option (Instr × Nat)) := [some (.getfield 83, 3), none, none, some (.iload_n 1, 1), some (.iaload, 1), some (.if_icmp .gt 10, 3), none, none, some (.iload_n 3, 1), some (.invokestatic 134, 3), none, none, some (.ifCond .ne 5, 3), none, none, some (.iconst (-1), 1)]
def xt_11_2 : List (Option (Instr × Nat)) := [some (.ireturn, 1), some (.aload_n 0, 1), some (.invokevirtual 143, 3), none, none, some (.aload_n 0, 1), some (.getfield 54, 3), none, none, some (.iload_n 1, 1), some (.iload_n 2, 1), some (.iload_n 3, 1), some (.invokevirtual 159, 3), none, none, some (.ireturn, 1)]
/-- 11: X4_state -/
def xt_11 : xM := ((yX4_state, cX4_state, 4, some .int, RX4, 5, 122), [xt_11_0, xt_11_1, xt_11_2], [(10, 4, 0, 2), (83, 2, 0, 2), (54, 4, 9, 2)], [(79, 22, 1, 1, 0), (134, 23, 1, 1, 0), (143, 21, 0, 0, 4), (159, 35, 3, 0, 0)], [])
def xt_12_0 : List (Option (Instr × Nat)) := [some (.aload_n 0, 1), some (.getfield 10, 3), none, none, some (.iload_n 1, 1), some (.iload_n 2, 1), some (.invokevirtual 97, 3), none, none, some (.ifCond .eq 14, 3), none, none, some (.iload_n 3, 1), some (.iconst 1, 1), some (.if_icmp .lt 9, 3), none]
def xt_12_1 : List (Option (Instr × Nat)) := [none, some (.iload_n 3, 1), some (.bipush 10, 2), none, some (.if_icmp .le 6, 3), none, none, some (.bipush (-2), 2), none, some (.ireturn, 1), some (.aload_n 0, 1), some (.invokevirtual 143, 3), none, none, some (.aload_n 0, 1), some (.getfield 54, 3)]
def xt_12_2 : List (Option (Instr × Nat)) := [none, none, some (.iload_n 1, 1), some (.iload_n 2, 1), some (.invokevirtual 155, 3), none, none, some (.ifCond .ne 7, 3), none, none, some (.iconst (-1), 1), some (.goto 13, 3), none, none, some (.aload_n 0, 1), some (.iload_n 1, 1)]
def xt_12_3 : List (Option (Instr × Nat)) := [some (.iload_n 2, 1), some (.invokestatic 163, 3), none, none, some (.iload_n 3, 1), some (.invokevirtual 166, 3), none, none, some (.ireturn, 1)]
/-- 12: X4_witness -/
def xt_12 : xM := ((yX4_witness, cX4_witness, 4, some .int, RX4, 5, 122), [xt_12_0, xt_12_1, xt_12_2, xt_12_3], [(10, 4, 0, 2), (54, 4, 9, 2)], [(97, 28, 2, 0, 2), (143, 21, 0, 0, 4), (163, 26, 2, 1, 0)], [])
def xt_13_0 : List (Option (Instr × Nat)) := [some (.iload_n 1, 1), some (.invokestatic 79, 3), none, none, some (.ifCond .ne 5, 3), none, none, some (.iconst (-1), 1), some (.ireturn, 1), some (.aload_n 0, 1), some (.getfield 61, 3), none, none, some (.invokevirtual 169, 3), none, none]
def xt_13_1 : List (Option (Instr × Nat)) := [some (.aload_n 0, 1), some (.getfield 61, 3), none, none, some (.iload_n 1, 1), some (.iconst 0, 1), some (.invokevirtual 172, 3), none, none, some (.aload_n 0, 1), some (.getfield 61, 3), none, none, some (.aload_n 0, 1), some (.getfield 64, 3), none]
def xt_13_2 : List (Option (Instr × Nat)) := [none, some (.invokevirtual 176, 3), none, none, some (.iconst 0, 1), some (.istore_n 2, 1), some (.iconst 0, 1), some (.istore_n 3, 1), some (.iload_n 3, 1), some (.bipush 16, 2), none, some (.if_icmp .ge 40, 3), none, none, some (.aload_n 0, 1), some (.getfield 61, 3)]
def xt_13_3 : List (Option (Instr × Nat)) := [none, none, some (.iload_n 1, 1), some (.iconst 1, 1), some (.iload_n 3, 1), some (.ishl, 1), some (.invokevirtual 172, 3), none, none, some (.aload_n 0, 1), some (.getfield 61, 3), none, none, some (.aload_n 0, 1), some (.getfield 64, 3), none]
def xt_13_4 : List (Option (Instr × Nat)) := [none, some (.invokevirtual 180, 3), none, none, some (.ifCond .ne 9, 3), none, none, some (.iload_n 2, 1), some (.iconst 1, 1), some (.iload_n 3, 1), some (.ishl, 1), some (.ior, 1), some (.istore_n 2, 1), some (.iinc 3 1, 3), none, none]
def xt_13_5 : List (Option (Instr × Nat)) := [some (.goto (-40), 3), none, none, some (.iload_n 2, 1), some (.ireturn, 1)]
/-- 13: X4_needs -/
def xt_13 : xM := ((yX4_needs, cX4_needs, 4, some .int, RX4, 4, 102), [xt_13_0, xt_13_1, xt_13_2, xt_13_3, xt_13_4, xt_13_5], [(61, 4, 11, 2), (64, 4, 12, 2)], [(79, 22, 1, 1, 0), (169, 32, 0, 0, 0), (172, 34, 2, 0, 0), (176, 38, 1, 0, 0), (180, 39, 1, 0, 0)], [])
def xt_14_0 : List (Option (Instr × Nat)) := [some (.iload_n 1, 1), some (.invokestatic 79, 3), none, none, some (.ifCond .ne 5, 3), none, none, some (.iconst (-1), 1), some (.ireturn, 1), some (.aload_n 0, 1), some (.getfield 61, 3), none, none, some (.invokevirtual 169, 3), none, none]
def xt_14_1 : List (Option (Instr × Nat)) := [some (.aload_n 0, 1), some (.getfield 61, 3), none, none, some (.iload_n 1, 1), some (.ldc 184, 2), none, some (.invokevirtual 172, 3), none, none, some (.aload_n 0, 1), some (.getfield 61, 3), none, none, some (.getfield 185, 3), none]
def xt_14_2 : List (Option (Instr × Nat)) := [none, some (.iload_n 1, 1), some (.iaload, 1), some (.aload_n 0, 1), some (.getfield 61, 3), none, none, some (.getfield 188, 3), none, none, some (.iload_n 1, 1), some (.iaload, 1), some (.iconst (-1), 1), some (.ixor, 1), some (.iand, 1), some (.ireturn, 1)]
/-- 14: X4_writes -/
def xt_14 : xM := ((yX4_writes, cX4_writes, 2, some .int, RX4, 4, 102), [xt_14_0, xt_14_1, xt_14_2], [(61, 4, 11, 2), (185, 0, 9, 2), (188, 0, 10, 2)], [(79, 22, 1, 1, 0), (169, 32, 0, 0, 0), (172, 34, 2, 0, 0)], [(184, 65535)])
def xt_15_0 : List (Option (Instr × Nat)) := [some (.iload_n 1, 1), some (.invokestatic 79, 3), none, none, some (.ifCond .eq 14, 3), none, none, some (.iload_n 2, 1), some (.iconst 1, 1), some (.if_icmp .lt 9, 3), none, none, some (.iload_n 2, 1), some (.bipush 99, 2), none, some (.if_icmp .le 5, 3)]
def xt_15_1 : List (Option (Instr × Nat)) := [none, none, some (.iconst (-1), 1), some (.ireturn, 1), some (.aload_n 0, 1), some (.getfield 16, 3), none, none, some (.iload_n 1, 1), some (.iaload, 1), some (.istore_n 3, 1), some (.aload_n 0, 1), some (.getfield 16, 3), none, none, some (.iload_n 1, 1)]
def xt_15_2 : List (Option (Instr × Nat)) := [some (.iload_n 2, 1), some (.iastore, 1), some (.iload_n 3, 1), some (.ireturn, 1)]
/-- 15: X4_cost -/
def xt_15 : xM := ((yX4_cost, cX4_cost, 4, some .int, RX4, 1, 20), [xt_15_0, xt_15_1, xt_15_2], [(16, 4, 1, 2)], [(79, 22, 1, 1, 0)], [])
def xt_16_0 : List (Option (Instr × Nat)) := [some (.aload_n 0, 1), some (.invokevirtual 143, 3), none, none, some (.aload_n 0, 1), some (.getfield 72, 3), none, none, some (.invokevirtual 191, 3), none, none, some (.ifCond .ne 6, 3), none, none, some (.bipush (-2), 2), none]
def xt_16_1 : List (Option (Instr × Nat)) := [some (.ireturn, 1), some (.aload_n 0, 1), some (.getfield 72, 3), none, none, some (.aload_n 0, 1), some (.getfield 16, 3), none, none, some (.invokevirtual 195, 3), none, none, some (.istore_n 1, 1), some (.iload_n 1, 1), some (.iconst (-1), 1), some (.if_icmp .eq 8, 3)]
def xt_16_2 : List (Option (Instr × Nat)) := [none, none, some (.aload_n 0, 1), some (.iconst 1, 1), some (.putfield 76, 3), none, none, some (.iload_n 1, 1), some (.ireturn, 1)]
/-- 16: X4_mend -/
def xt_16 : xM := ((yX4_mend, cX4_mend, 2, some .int, RX4, 6, 147), [xt_16_0, xt_16_1, xt_16_2], [(72, 4, 13, 2), (16, 4, 1, 2), (76, 4, 14, 1)], [(143, 21, 0, 0, 4), (191, 45, 0, 0, 1), (195, 46, 1, 0, 1)], [])
def xt_17_0 : List (Option (Instr × Nat)) := [some (.iload_n 1, 1), some (.ifCond .lt 14, 3), none, none, some (.iload_n 1, 1), some (.aload_n 0, 1), some (.getfield 72, 3), none, none, some (.getfield 199, 3), none, none, some (.if_icmp .lt 5, 3), none, none, some (.iconst (-1), 1)]
def xt_17_1 : List (Option (Instr × Nat)) := [some (.ireturn, 1), some (.iload_n 2, 1), some (.lookupswitch 46 #[(0, 26), (1, 36)], 26), none, none, none, none, none, none, none, none, none, none, none, none, none]
def xt_17_2 : List (Option (Instr × Nat)) := [none, none, none, none, none, none, none, none, none, none, none, none, some (.aload_n 0, 1), some (.getfield 72, 3), none, none]
def xt_17_3 : List (Option (Instr × Nat)) := [some (.getfield 202, 3), none, none, some (.iload_n 1, 1), some (.iaload, 1), some (.ireturn, 1), some (.aload_n 0, 1), some (.getfield 72, 3), none, none, some (.getfield 205, 3), none, none, some (.iload_n 1, 1), some (.iaload, 1), some (.ireturn, 1)]
def xt_17_4 : List (Option (Instr × Nat)) := [some (.iconst (-1), 1), some (.ireturn, 1)]
/-- 17: X4_mended -/
def xt_17 : xM := ((yX4_mended, cX4_mended, 3, some .int, RX4, 0, 0), [xt_17_0, xt_17_1, xt_17_2, xt_17_3, xt_17_4], [(72, 4, 13, 2), (199, 1, 12, 0), (202, 1, 10, 2), (205, 1, 11, 2)], [], [])
def xt_18_0 : List (Option (Instr × Nat)) := [some (.aload_n 0, 1), some (.getfield 76, 3), none, none, some (.ifCond .eq 13, 3), none, none, some (.aload_n 0, 1), some (.getfield 72, 3), none, none, some (.invokevirtual 208, 3), none, none, some (.ifCond .ne 5, 3), none]
def xt_18_1 : List (Option (Instr × Nat)) := [none, some (.iconst 0, 1), some (.ireturn, 1), some (.aload_n 0, 1), some (.getfield 72, 3), none, none, some (.invokevirtual 211, 3), none, none, some (.aload_n 0, 1), some (.invokevirtual 94, 3), none, none, some (.iconst 1, 1), some (.ireturn, 1)]
/-- 18: X4_apply -/
def xt_18 : xM := ((yX4_apply, cX4_apply, 1, some .boolean, RX4, 1, 20), [xt_18_0, xt_18_1], [(76, 4, 14, 1), (72, 4, 13, 2)], [(94, 20, 0, 0, 4)], [])
def xt_19_0 : List (Option (Instr × Nat)) := [some (.iload_n 1, 1), some (.ifCond .ne 8, 3), none, none, some (.aload_n 0, 1), some (.getfield 23, 3), none, none, some (.ireturn, 1), some (.iload_n 1, 1), some (.bipush 10, 2), none, some (.if_icmp .lt 22, 3), none, none, some (.iload_n 1, 1)]
def xt_19_1 : List (Option (Instr × Nat)) := [some (.bipush 16, 2), none, some (.if_icmp .ge 16, 3), none, none, some (.aload_n 0, 1), some (.getfield 10, 3), none, none, some (.getfield 83, 3), none, none, some (.iload_n 1, 1), some (.bipush 10, 2), none, some (.isub, 1)]
def xt_19_2 : List (Option (Instr × Nat)) := [some (.iaload, 1), some (.ireturn, 1), some (.iload_n 1, 1), some (.bipush 20, 2), none, some (.if_icmp .lt 19, 3), none, none, some (.iload_n 1, 1), some (.bipush 26, 2), none, some (.if_icmp .ge 13, 3), none, none, some (.aload_n 0, 1), some (.getfield 16, 3)]
def xt_19_3 : List (Option (Instr × Nat)) := [none, none, some (.iload_n 1, 1), some (.bipush 20, 2), none, some (.isub, 1), some (.iaload, 1), some (.ireturn, 1), some (.iconst (-1), 1), some (.ireturn, 1)]
/-- 19: X4_count -/
def xt_19 : xM := ((yX4_count, cX4_count, 2, some .int, RX4, 0, 0), [xt_19_0, xt_19_1, xt_19_2, xt_19_3], [(23, 4, 3, 0), (10, 4, 0, 2), (83, 2, 0, 2), (16, 4, 1, 2)], [], [])
def xt_20_0 : List (Option (Instr × Nat)) := [some (.aload_n 0, 1), some (.iconst 0, 1), some (.putfield 58, 3), none, none, some (.aload_n 0, 1), some (.iconst 0, 1), some (.putfield 76, 3), none, none, some (.return_, 1)]
/-- 20: X4_programIsAnother -/
def xt_20 : xM := ((yX4_programIsAnother, cX4_programIsAnother, 1, none, RX4, 0, 0), [xt_20_0], [(58, 4, 10, 1), (76, 4, 14, 1)], [], [])
def xt_21_0 : List (Option (Instr × Nat)) := [some (.aload_n 0, 1), some (.getfield 58, 3), none, none, some (.ifCond .ne 18, 3), none, none, some (.aload_n 0, 1), some (.getfield 54, 3), none, none, some (.iconst 0, 1), some (.ldc 184, 2), none, some (.invokevirtual 172, 3), none]
def xt_21_1 : List (Option (Instr × Nat)) := [none, some (.aload_n 0, 1), some (.iconst 1, 1), some (.putfield 58, 3), none, none, some (.return_, 1)]
/-- 21: X4_freshen -/
def xt_21 : xM := ((yX4_freshen, cX4_freshen, 1, none, RX4, 4, 102), [xt_21_0, xt_21_1], [(58, 4, 10, 1), (54, 4, 9, 2)], [(172, 34, 2, 0, 0)], [(184, 65535)])
def xt_22_0 : List (Option (Instr × Nat)) := [some (.iload_n 0, 1), some (.ifCond .lt 13, 3), none, none, some (.iload_n 0, 1), some (.bipush 6, 2), none, some (.if_icmp .ge 7, 3), none, none, some (.iconst 1, 1), some (.goto 4, 3), none, none, some (.iconst 0, 1), some (.ireturn, 1)]
/-- 22: X4_isFunction -/
def xt_22 : xM := ((yX4_isFunction, cX4_isFunction, 1, some .boolean, RX4, 0, 0), [xt_22_0], [], [], [])
def xt_23_0 : List (Option (Instr × Nat)) := [some (.iload_n 0, 1), some (.ifCond .lt 13, 3), none, none, some (.iload_n 0, 1), some (.bipush 16, 2), none, some (.if_icmp .ge 7, 3), none, none, some (.iconst 1, 1), some (.goto 4, 3), none, none, some (.iconst 0, 1), some (.ireturn, 1)]
/-- 23: X4_isCell -/
def xt_23 : xM := ((yX4_isCell, cX4_isCell, 1, some .boolean, RX4, 0, 0), [xt_23_0], [], [], [])
def xt_24_0 : List (Option (Instr × Nat)) := [some (.iload_n 0, 1), some (.invokestatic 134, 3), none, none, some (.ifCond .eq 26, 3), none, none, some (.iload_n 1, 1), some (.iconst 1, 1), some (.if_icmp .lt 21, 3), none, none, some (.iload_n 1, 1), some (.bipush 8, 2), none, some (.if_icmp .gt 15, 3)]
def xt_24_1 : List (Option (Instr × Nat)) := [none, none, some (.iload_n 0, 1), some (.iload_n 1, 1), some (.iadd, 1), some (.bipush 16, 2), none, some (.if_icmp .gt 7, 3), none, none, some (.iconst 1, 1), some (.goto 4, 3), none, none, some (.iconst 0, 1), some (.ireturn, 1)]
/-- 24: X4_isRow -/
def xt_24 : xM := ((yX4_isRow, cX4_isRow, 2, some .boolean, RX4, 1, 20), [xt_24_0, xt_24_1], [], [(134, 23, 1, 1, 0)], [])
def xt_25_0 : List (Option (Instr × Nat)) := [some (.iload_n 0, 1), some (.tableswitch 342 0 11 #[63, 96, 123, 152, 152, 178, 212, 241, 270, 296, 319, 319], 63), none, none, none, none, none, none, none, none, none, none, none, none, none, none]
def xt_25_1 : List (Option (Instr × Nat)) := [none, none, none, none, none, none, none, none, none, none, none, none, none, none, none, none]
def xt_25_2 : List (Option (Instr × Nat)) := [none, none, none, none, none, none, none, none, none, none, none, none, none, none, none, none]
def xt_25_3 : List (Option (Instr × Nat)) := [none, none, none, none, none, none, none, none, none, none, none, none, none, none, none, none]
def xt_25_4 : List (Option (Instr × Nat)) := [some (.iload_n 1, 1), some (.invokestatic 134, 3), none, none, some (.ifCond .eq 27, 3), none, none, some (.iload_n 2, 1), some (.ifCond .lt 23, 3), none, none, some (.iload_n 2, 1), some (.sipush 255, 3), none, none, some (.if_icmp .gt 16, 3)]
def xt_25_5 : List (Option (Instr × Nat)) := [none, none, some (.iload_n 3, 1), some (.ifCond .ne 12, 3), none, none, some (.iload 4, 2), none, some (.ifCond .ne 7, 3), none, none, some (.iconst 1, 1), some (.goto 4, 3), none, none, some (.iconst 0, 1)]
def xt_25_6 : List (Option (Instr × Nat)) := [some (.ireturn, 1), some (.iload_n 1, 1), some (.iload_n 3, 1), some (.invokestatic 226, 3), none, none, some (.ifCond .eq 20, 3), none, none, some (.iload_n 2, 1), some (.iload_n 3, 1), some (.invokestatic 226, 3), none, none, some (.ifCond .eq 12, 3), none]
def xt_25_7 : List (Option (Instr × Nat)) := [none, some (.iload 4, 2), none, some (.ifCond .ne 7, 3), none, none, some (.iconst 1, 1), some (.goto 4, 3), none, none, some (.iconst 0, 1), some (.ireturn, 1), some (.iload_n 1, 1), some (.invokestatic 134, 3), none, none]
def xt_25_8 : List (Option (Instr × Nat)) := [some (.ifCond .eq 23, 3), none, none, some (.iload_n 2, 1), some (.invokestatic 134, 3), none, none, some (.ifCond .eq 16, 3), none, none, some (.iload_n 3, 1), some (.ifCond .ne 12, 3), none, none, some (.iload 4, 2), none]
def xt_25_9 : List (Option (Instr × Nat)) := [some (.ifCond .ne 7, 3), none, none, some (.iconst 1, 1), some (.goto 4, 3), none, none, some (.iconst 0, 1), some (.ireturn, 1), some (.iload_n 1, 1), some (.invokestatic 134, 3), none, none, some (.ifCond .eq 20, 3), none, none]
def xt_25_10 : List (Option (Instr × Nat)) := [some (.iload_n 2, 1), some (.ifCond .ne 16, 3), none, none, some (.iload_n 3, 1), some (.ifCond .ne 12, 3), none, none, some (.iload 4, 2), none, some (.ifCond .ne 7, 3), none, none, some (.iconst 1, 1), some (.goto 4, 3), none]
def xt_25_11 : List (Option (Instr × Nat)) := [none, some (.iconst 0, 1), some (.ireturn, 1), some (.iload_n 1, 1), some (.invokestatic 134, 3), none, none, some (.ifCond .eq 28, 3), none, none, some (.iload_n 2, 1), some (.bipush (-30), 2), none, some (.if_icmp .lt 22, 3), none, none]
def xt_25_12 : List (Option (Instr × Nat)) := [some (.iload_n 2, 1), some (.bipush 30, 2), none, some (.if_icmp .gt 16, 3), none, none, some (.iload_n 3, 1), some (.ifCond .ne 12, 3), none, none, some (.iload 4, 2), none, some (.ifCond .ne 7, 3), none, none, some (.iconst 1, 1)]
def xt_25_13 : List (Option (Instr × Nat)) := [some (.goto 4, 3), none, none, some (.iconst 0, 1), some (.ireturn, 1), some (.iload_n 1, 1), some (.iload_n 2, 1), some (.invokestatic 226, 3), none, none, some (.ifCond .eq 22, 3), none, none, some (.iload_n 3, 1), some (.invokestatic 134, 3), none]
def xt_25_14 : List (Option (Instr × Nat)) := [none, some (.ifCond .eq 15, 3), none, none, some (.iload 4, 2), none, some (.invokestatic 134, 3), none, none, some (.ifCond .eq 7, 3), none, none, some (.iconst 1, 1), some (.goto 4, 3), none, none]
def xt_25_15 : List (Option (Instr × Nat)) := [some (.iconst 0, 1), some (.ireturn, 1), some (.iload_n 1, 1), some (.invokestatic 134, 3), none, none, some (.ifCond .eq 23, 3), none, none, some (.iload_n 2, 1), some (.iload_n 3, 1), some (.invokestatic 226, 3), none, none, some (.ifCond .eq 15, 3), none]
def xt_25_16 : List (Option (Instr × Nat)) := [none, some (.iload 4, 2), none, some (.invokestatic 134, 3), none, none, some (.ifCond .eq 7, 3), none, none, some (.iconst 1, 1), some (.goto 4, 3), none, none, some (.iconst 0, 1), some (.ireturn, 1), some (.iload_n 1, 1)]
def xt_25_17 : List (Option (Instr × Nat)) := [some (.invokestatic 79, 3), none, none, some (.ifCond .eq 20, 3), none, none, some (.iload_n 2, 1), some (.ifCond .ne 16, 3), none, none, some (.iload_n 3, 1), some (.ifCond .ne 12, 3), none, none, some (.iload 4, 2), none]
def xt_25_18 : List (Option (Instr × Nat)) := [some (.ifCond .ne 7, 3), none, none, some (.iconst 1, 1), some (.goto 4, 3), none, none, some (.iconst 0, 1), some (.ireturn, 1), some (.iload_n 1, 1), some (.ifCond .ne 20, 3), none, none, some (.iload_n 2, 1), some (.ifCond .ne 16, 3), none]
def xt_25_19 : List (Option (Instr × Nat)) := [none, some (.iload_n 3, 1), some (.ifCond .ne 12, 3), none, none, some (.iload 4, 2), none, some (.ifCond .ne 7, 3), none, none, some (.iconst 1, 1), some (.goto 4, 3), none, none, some (.iconst 0, 1), some (.ireturn, 1)]
def xt_25_20 : List (Option (Instr × Nat)) := [some (.iload_n 1, 1), some (.iload_n 2, 1), some (.invokestatic 226, 3), none, none, some (.ifCond .eq 16, 3), none, none, some (.iload_n 3, 1), some (.ifCond .ne 12, 3), none, none, some (.iload 4, 2), none, some (.ifCond .ne 7, 3), none]
def xt_25_21 : List (Option (Instr × Nat)) := [none, some (.iconst 1, 1), some (.goto 4, 3), none, none, some (.iconst 0, 1), some (.ireturn, 1), some (.iconst 0, 1), some (.ireturn, 1)]
/-- 25: X4_isAsTold -/
def xt_25 : xM := ((yX4_isAsTold, cX4_isAsTold, 5, some .boolean, RX4, 2, 41), [xt_25_0, xt_25_1, xt_25_2, xt_25_3, xt_25_4, xt_25_5, xt_25_6, xt_25_7, xt_25_8, xt_25_9, xt_25_10, xt_25_11, xt_25_12, xt_25_13, xt_25_14, xt_25_15, xt_25_16, xt_25_17, xt_25_18, xt_25_19, xt_25_20, xt_25_21], [], [(134, 23, 1, 1, 0), (226, 24, 2, 1, 0), (79, 22, 1, 1, 0)], [])
def xt_26_0 : List (Option (Instr × Nat)) := [some (.iload_n 0, 1), some (.bipush 30, 2), none, some (.imul, 1), some (.iload_n 1, 1), some (.iadd, 1), some (.ireturn, 1)]
/-- 26: X4_locate -/
def xt_26 : xM := ((yX4_locate, cX4_locate, 2, some .int, RX4, 0, 0), [xt_26_0], [], [], [])
def xt_27_0 : List (Option (Instr × Nat)) := [some (.iload_n 0, 1), some (.iload_n 1, 1), some (.iushr, 1), some (.iconst 1, 1), some (.iand, 1), some (.ifCond .eq 7, 3), none, none, some (.iconst 1, 1), some (.goto 4, 3), none, none, some (.iconst 0, 1), some (.ireturn, 1)]
/-- 27: X4_hasBit -/
def xt_27 : xM := ((yX4_hasBit, cX4_hasBit, 2, some .boolean, RX4, 0, 0), [xt_27_0], [], [], [])
def xt_28_0 : List (Option (Instr × Nat)) := [some (.iload_n 1, 1), some (.invokestatic 30, 3), none, none, some (.ifCond .eq 21, 3), none, none, some (.iload_n 2, 1), some (.ifCond .lt 17, 3), none, none, some (.iload_n 2, 1), some (.aload_n 0, 1), some (.getfield 9, 3), none, none]
def xt_28_1 : List (Option (Instr × Nat)) := [some (.iload_n 1, 1), some (.iaload, 1), some (.if_icmp .ge 7, 3), none, none, some (.iconst 1, 1), some (.goto 4, 3), none, none, some (.iconst 0, 1), some (.ireturn, 1)]
/-- 28: X2_has -/
def xt_28 : xM := ((yX2_has, cX2_has, 3, some .boolean, RX2, 1, 20), [xt_28_0, xt_28_1], [(9, 2, 0, 2)], [(30, 22, 1, 2, 0)], [])
def xt_29_0 : List (Option (Instr × Nat)) := [some (.iload_n 1, 1), some (.iload_n 2, 1), some (.invokestatic 34, 3), none, none, some (.istore 8, 2), none, some (.aload_n 0, 1), some (.getfield 15, 3), none, none, some (.iload 8, 2), none, some (.iload_n 3, 1), some (.iastore, 1), some (.aload_n 0, 1)]
def xt_29_1 : List (Option (Instr × Nat)) := [some (.getfield 18, 3), none, none, some (.iload 8, 2), none, some (.iload 4, 2), none, some (.iastore, 1), some (.aload_n 0, 1), some (.getfield 21, 3), none, none, some (.iload 8, 2), none, some (.iload 5, 2), none]
def xt_29_2 : List (Option (Instr × Nat)) := [some (.iastore, 1), some (.aload_n 0, 1), some (.getfield 24, 3), none, none, some (.iload 8, 2), none, some (.iload 6, 2), none, some (.iastore, 1), some (.aload_n 0, 1), some (.getfield 27, 3), none, none, some (.iload 8, 2), none]
def xt_29_3 : List (Option (Instr × Nat)) := [some (.iload 7, 2), none, some (.iastore, 1), some (.return_, 1)]
/-- 29: X2_put -/
def xt_29 : xM := ((yX2_put, cX2_put, 9, none, RX2, 1, 21), [xt_29_0, xt_29_1, xt_29_2, xt_29_3], [(15, 2, 1, 2), (18, 2, 2, 2), (21, 2, 3, 2), (24, 2, 4, 2), (27, 2, 5, 2)], [(34, 26, 2, 2, 0)], [])
def xt_30_0 : List (Option (Instr × Nat)) := [some (.aload_n 0, 1), some (.iload_n 1, 1), some (.putfield 35, 3), none, none, some (.aload_n 0, 1), some (.invokevirtual 38, 3), none, none, some (.iconst 0, 1), some (.istore_n 2, 1), some (.iload_n 2, 1), some (.sipush 3000, 3), none, none, some (.if_icmp .ge 80, 3)]
def xt_30_1 : List (Option (Instr × Nat)) := [none, none, some (.aload_n 0, 1), some (.getfield 28, 3), none, none, some (.aload_n 0, 1), some (.getfield 41, 3), none, none, some (.aload_n 0, 1), some (.getfield 44, 3), none, none, some (.invokevirtual 47, 3), none]
def xt_30_2 : List (Option (Instr × Nat)) := [none, some (.ifCond .eq 42, 3), none, none, some (.aload_n 0, 1), some (.getfield 53, 3), none, none, some (.sipush 1000, 3), none, none, some (.if_icmp .lt 7, 3), none, none, some (.iconst 2, 1), some (.goto 7, 3)]
def xt_30_3 : List (Option (Instr × Nat)) := [none, none, some (.aload_n 0, 1), some (.invokevirtual 56, 3), none, none, some (.istore_n 3, 1), some (.iload_n 3, 1), some (.iconst 4, 1), some (.if_icmp .eq 5, 3), none, none, some (.iload_n 3, 1), some (.ireturn, 1), some (.aload_n 0, 1), some (.dup, 1)]
def xt_30_4 : List (Option (Instr × Nat)) := [some (.getfield 53, 3), none, none, some (.iconst 1, 1), some (.iadd, 1), some (.putfield 53, 3), none, none, some (.goto 17, 3), none, none, some (.aload_n 0, 1), some (.getfield 60, 3), none, none, some (.iconst 1, 1)]
def xt_30_5 : List (Option (Instr × Nat)) := [some (.if_icmp .gt 5, 3), none, none, some (.iconst 0, 1), some (.ireturn, 1), some (.aload_n 0, 1), some (.invokevirtual 63, 3), none, none, some (.iinc 2 1, 3), none, none, some (.goto (-81), 3), none, none, some (.iconst 2, 1)]
def xt_30_6 : List (Option (Instr × Nat)) := [some (.ireturn, 1)]
/-- 30: X3_go -/
def xt_30 : xM := ((yX3_go, cX3_go, 4, some .int, RX3, 2, 42), [xt_30_0, xt_30_1, xt_30_2, xt_30_3, xt_30_4, xt_30_5, xt_30_6], [(35, 3, 2, 0), (28, 3, 0, 2), (41, 3, 6, 0), (44, 3, 7, 0), (53, 3, 10, 0), (60, 3, 5, 0)], [(38, 31, 0, 0, 3), (47, 28, 2, 0, 2)], [])
def xt_31_0 : List (Option (Instr × Nat)) := [some (.iconst 0, 1), some (.istore_n 1, 1), some (.iload_n 1, 1), some (.bipush 16, 2), none, some (.if_icmp .ge 16, 3), none, none, some (.aload_n 0, 1), some (.getfield 18, 3), none, none, some (.iload_n 1, 1), some (.iconst 0, 1), some (.iastore, 1), some (.iinc 1 1, 3)]
def xt_31_1 : List (Option (Instr × Nat)) := [none, none, some (.goto (-16), 3), none, none, some (.aload_n 0, 1), some (.iconst 0, 1), some (.putfield 66, 3), none, none, some (.aload_n 0, 1), some (.iconst 1, 1), some (.putfield 60, 3), none, none, some (.aload_n 0, 1)]
def xt_31_2 : List (Option (Instr × Nat)) := [some (.iconst 0, 1), some (.putfield 41, 3), none, none, some (.aload_n 0, 1), some (.iconst 0, 1), some (.putfield 44, 3), none, none, some (.aload_n 0, 1), some (.iconst 0, 1), some (.putfield 53, 3), none, none, some (.aload_n 0, 1), some (.iconst 0, 1)]
def xt_31_3 : List (Option (Instr × Nat)) := [some (.putfield 69, 3), none, none, some (.aload_n 0, 1), some (.iconst (-1), 1), some (.putfield 72, 3), none, none, some (.aload_n 0, 1), some (.iconst 0, 1), some (.putfield 75, 3), none, none, some (.aload_n 0, 1), some (.iconst 0, 1), some (.putfield 78, 3)]
def xt_31_4 : List (Option (Instr × Nat)) := [none, none, some (.aload_n 0, 1), some (.iconst 0, 1), some (.putfield 81, 3), none, none, some (.return_, 1)]
/-- 31: X3_startAnew -/
def xt_31 : xM := ((yX3_startAnew, cX3_startAnew, 2, none, RX3, 0, 0), [xt_31_0, xt_31_1, xt_31_2, xt_31_3, xt_31_4], [(18, 3, 8, 2), (66, 3, 9, 0), (60, 3, 5, 0), (41, 3, 6, 0), (44, 3, 7, 0), (53, 3, 10, 0), (69, 3, 11, 0), (72, 3, 12, 0), (75, 3, 13, 0), (78, 3, 15, 0), (81, 3, 17, 1)], [], [])
def xt_32_0 : List (Option (Instr × Nat)) := [some (.aload_n 0, 1), some (.iconst 0, 1), some (.putfield 40, 3), none, none, some (.iconst 0, 1), some (.istore_n 1, 1), some (.iload_n 1, 1), some (.bipush 6, 2), none, some (.if_icmp .ge 23, 3), none, none, some (.aload_n 0, 1), some (.getfield 34, 3), none]
def xt_32_1 : List (Option (Instr × Nat)) := [none, some (.iload_n 1, 1), some (.iconst 0, 1), some (.iastore, 1), some (.aload_n 0, 1), some (.getfield 37, 3), none, none, some (.iload_n 1, 1), some (.iconst 0, 1), some (.iastore, 1), some (.iinc 1 1, 3), none, none, some (.goto (-23), 3), none]
def xt_32_2 : List (Option (Instr × Nat)) := [none, some (.return_, 1)]
/-- 32: X0_takePlain -/
def xt_32 : xM := ((yX0_takePlain, cX0_takePlain, 2, none, RX0, 0, 0), [xt_32_0, xt_32_1, xt_32_2], [(40, 0, 13, 1), (34, 0, 11, 2), (37, 0, 12, 2)], [], [])
def xt_33_0 : List (Option (Instr × Nat)) := [some (.aload_n 0, 1), some (.getfield 37, 3), none, none, some (.iload_n 1, 1), some (.dup2, 1), some (.iaload, 1), some (.iconst 1, 1), some (.iload_n 2, 1), some (.ishl, 1), some (.ior, 1), some (.iastore, 1), some (.aload_n 0, 1), some (.iconst 1, 1), some (.putfield 40, 3), none]
def xt_33_1 : List (Option (Instr × Nat)) := [none, some (.return_, 1)]
/-- 33: X0_unsetAtBegin -/
def xt_33 : xM := ((yX0_unsetAtBegin, cX0_unsetAtBegin, 3, none, RX0, 0, 0), [xt_33_0, xt_33_1], [(37, 0, 12, 2), (40, 0, 13, 1)], [], [])
def xt_34_0 : List (Option (Instr × Nat)) := [some (.aload_n 0, 1), some (.invokevirtual 48, 3), none, none, some (.aload_n 0, 1), some (.iload_n 1, 1), some (.ldc 51, 2), none, some (.iload_n 2, 1), some (.iconst (-1), 1), some (.ixor, 1), some (.iand, 1), some (.iload_n 2, 1), some (.invokevirtual 52, 3), none, none]
def xt_34_1 : List (Option (Instr × Nat)) := [some (.iconst 0, 1), some (.istore_n 3, 1), some (.iload_n 3, 1), some (.ldc 56, 2), none, some (.if_icmp .ge 85, 3), none, none, some (.aload_n 0, 1), some (.getfield 57, 3), none, none, some (.ifCond .eq 78, 3), none, none, some (.aload_n 0, 1)]
def xt_34_2 : List (Option (Instr × Nat)) := [some (.iconst 0, 1), some (.putfield 57, 3), none, none, some (.iconst 0, 1), some (.istore 4, 2), none, some (.iload 4, 2), none, some (.bipush 6, 2), none, some (.if_icmp .ge 57, 3), none, none, some (.iconst 0, 1), some (.istore 5, 2)]
def xt_34_3 : List (Option (Instr × Nat)) := [none, some (.iload 5, 2), none, some (.aload_n 0, 1), some (.getfield 44, 3), none, none, some (.getfield 60, 3), none, none, some (.iload 4, 2), none, some (.iaload, 1), some (.if_icmp .gt 33, 3), none, none]
def xt_34_4 : List (Option (Instr × Nat)) := [some (.aload_n 0, 1), some (.getfield 18, 3), none, none, some (.iload 4, 2), none, some (.bipush 31, 2), none, some (.imul, 1), some (.iload 5, 2), none, some (.iadd, 1), some (.baload, 1), some (.ifCond .eq 11, 3), none, none]
def xt_34_5 : List (Option (Instr × Nat)) := [some (.aload_n 0, 1), some (.iload 4, 2), none, some (.iload 5, 2), none, some (.invokevirtual 65, 3), none, none, some (.iinc 5 1, 3), none, none, some (.goto (-42), 3), none, none, some (.iinc 4 1, 3), none]
def xt_34_6 : List (Option (Instr × Nat)) := [none, some (.goto (-58), 3), none, none, some (.iinc 3 1, 3), none, none, some (.goto (-85), 3), none, none, some (.return_, 1)]
/-- 34: X0_follow -/
def xt_34 : xM := ((yX0_follow, cX0_follow, 6, none, RX0, 3, 77), [xt_34_0, xt_34_1, xt_34_2, xt_34_3, xt_34_4, xt_34_5, xt_34_6], [(57, 0, 4, 1), (44, 0, 0, 2), (60, 2, 0, 2), (18, 0, 3, 2)], [(48, 40, 0, 0, 0), (52, 41, 3, 0, 0), (65, 43, 2, 0, 0)], [(51, 65535), (56, 1000000)])
def xt_35_0 : List (Option (Instr × Nat)) := [some (.iload_n 1, 1), some (.bipush 31, 2), none, some (.imul, 1), some (.iload_n 2, 1), some (.iadd, 1), some (.istore 4, 2), none, some (.aload_n 0, 1), some (.getfield 11, 3), none, none, some (.iload 4, 2), none, some (.iaload, 1), some (.iload_n 3, 1)]
def xt_35_1 : List (Option (Instr × Nat)) := [some (.invokestatic 69, 3), none, none, some (.ifCond .eq 7, 3), none, none, some (.iconst 1, 1), some (.goto 4, 3), none, none, some (.iconst 0, 1), some (.aload_n 0, 1), some (.getfield 15, 3), none, none, some (.iload 4, 2)]
def xt_35_2 : List (Option (Instr × Nat)) := [none, some (.iaload, 1), some (.iload_n 3, 1), some (.invokestatic 69, 3), none, none, some (.ifCond .eq 7, 3), none, none, some (.iconst 2, 1), some (.goto 4, 3), none, none, some (.iconst 0, 1), some (.iadd, 1), some (.ireturn, 1)]
/-- 35: X0_mayBe -/
def xt_35 : xM := ((yX0_mayBe, cX0_mayBe, 5, some .int, RX0, 1, 21), [xt_35_0, xt_35_1, xt_35_2], [(11, 0, 1, 2), (15, 0, 2, 2)], [(69, 27, 2, 2, 0)], [])
def xt_36_0 : List (Option (Instr × Nat)) := [some (.iconst 0, 1), some (.istore_n 1, 1), some (.iconst 0, 1), some (.istore_n 2, 1), some (.iload_n 2, 1), some (.bipush 6, 2), none, some (.if_icmp .ge 42, 3), none, none, some (.iconst 0, 1), some (.istore_n 3, 1), some (.iload_n 3, 1), some (.aload_n 0, 1), some (.getfield 44, 3), none]
def xt_36_1 : List (Option (Instr × Nat)) := [none, some (.getfield 60, 3), none, none, some (.iload_n 2, 1), some (.iaload, 1), some (.if_icmp .ge 21, 3), none, none, some (.aload_n 0, 1), some (.iload_n 2, 1), some (.iload_n 3, 1), some (.invokevirtual 81, 3), none, none, some (.ifCond .eq 6, 3)]
def xt_36_2 : List (Option (Instr × Nat)) := [none, none, some (.iinc 1 1, 3), none, none, some (.iinc 3 1, 3), none, none, some (.goto (-28), 3), none, none, some (.iinc 2 1, 3), none, none, some (.goto (-42), 3), none]
def xt_36_3 : List (Option (Instr × Nat)) := [none, some (.iload_n 1, 1), some (.ireturn, 1)]
/-- 36: X0_badUses -/
def xt_36 : xM := ((yX0_badUses, cX0_badUses, 4, some .int, RX0, 0, 0), [xt_36_0, xt_36_1, xt_36_2, xt_36_3], [(44, 0, 0, 2), (60, 2, 0, 2)], [], [])
def xt_37_0 : List (Option (Instr × Nat)) := [some (.iconst 0, 1), some (.istore_n 2, 1), some (.iconst 0, 1), some (.istore_n 3, 1), some (.iload_n 3, 1), some (.bipush 6, 2), none, some (.if_icmp .ge 57, 3), none, none, some (.iconst 0, 1), some (.istore 4, 2), none, some (.iload 4, 2), none, some (.aload_n 0, 1)]
def xt_37_1 : List (Option (Instr × Nat)) := [some (.getfield 44, 3), none, none, some (.getfield 60, 3), none, none, some (.iload_n 3, 1), some (.iaload, 1), some (.if_icmp .ge 34, 3), none, none, some (.aload_n 0, 1), some (.iload_n 3, 1), some (.iload 4, 2), none, some (.invokevirtual 81, 3)]
def xt_37_2 : List (Option (Instr × Nat)) := [none, none, some (.ifCond .eq 18, 3), none, none, some (.iload_n 2, 1), some (.iload_n 1, 1), some (.if_icmp .ne 10, 3), none, none, some (.iload_n 3, 1), some (.iload 4, 2), none, some (.invokestatic 73, 3), none, none]
def xt_37_3 : List (Option (Instr × Nat)) := [some (.ireturn, 1), some (.iinc 2 1, 3), none, none, some (.iinc 4 1, 3), none, none, some (.goto (-42), 3), none, none, some (.iinc 3 1, 3), none, none, some (.goto (-57), 3), none, none]
def xt_37_4 : List (Option (Instr × Nat)) := [some (.iconst (-1), 1), some (.ireturn, 1)]
/-- 37: X0_badUseAt -/
def xt_37 : xM := ((yX0_badUseAt, cX0_badUseAt, 5, some .int, RX0, 1, 21), [xt_37_0, xt_37_1, xt_37_2, xt_37_3, xt_37_4], [(44, 0, 0, 2), (60, 2, 0, 2)], [(73, 26, 2, 2, 0)], [])
def xt_38_0 : List (Option (Instr × Nat)) := [some (.iconst 0, 1), some (.istore_n 2, 1), some (.iload_n 2, 1), some (.bipush 6, 2), none, some (.if_icmp .ge 43, 3), none, none, some (.iconst 0, 1), some (.istore_n 3, 1), some (.iload_n 3, 1), some (.aload_n 0, 1), some (.getfield 44, 3), none, none, some (.getfield 60, 3)]
def xt_38_1 : List (Option (Instr × Nat)) := [none, none, some (.iload_n 2, 1), some (.iaload, 1), some (.if_icmp .ge 22, 3), none, none, some (.aload_n 1, 1), some (.iload_n 2, 1), some (.iload_n 3, 1), some (.invokestatic 73, 3), none, none, some (.aload_n 0, 1), some (.iload_n 2, 1), some (.iload_n 3, 1)]
def xt_38_2 : List (Option (Instr × Nat)) := [some (.invokevirtual 81, 3), none, none, some (.iastore, 1), some (.iinc 3 1, 3), none, none, some (.goto (-29), 3), none, none, some (.iinc 2 1, 3), none, none, some (.goto (-43), 3), none, none]
def xt_38_3 : List (Option (Instr × Nat)) := [some (.return_, 1)]
/-- 38: X0_tellKinds -/
def xt_38 : xM := ((yX0_tellKinds, cX0_tellKinds, 4, none, RX0, 1, 21), [xt_38_0, xt_38_1, xt_38_2, xt_38_3], [(44, 0, 0, 2), (60, 2, 0, 2)], [(73, 26, 2, 2, 0)], [])
def xt_39_0 : List (Option (Instr × Nat)) := [some (.iconst 0, 1), some (.istore_n 2, 1), some (.iload_n 2, 1), some (.bipush 6, 2), none, some (.if_icmp .ge 48, 3), none, none, some (.iconst 0, 1), some (.istore_n 3, 1), some (.iload_n 3, 1), some (.aload_n 0, 1), some (.getfield 44, 3), none, none, some (.getfield 60, 3)]
def xt_39_1 : List (Option (Instr × Nat)) := [none, none, some (.iload_n 2, 1), some (.iaload, 1), some (.if_icmp .ge 27, 3), none, none, some (.aload_n 1, 1), some (.iload_n 2, 1), some (.iload_n 3, 1), some (.invokestatic 73, 3), none, none, some (.iaload, 1), some (.aload_n 0, 1), some (.iload_n 2, 1)]
def xt_39_2 : List (Option (Instr × Nat)) := [some (.iload_n 3, 1), some (.invokevirtual 81, 3), none, none, some (.if_icmp .eq 5, 3), none, none, some (.iconst 0, 1), some (.ireturn, 1), some (.iinc 3 1, 3), none, none, some (.goto (-34), 3), none, none, some (.iinc 2 1, 3)]
def xt_39_3 : List (Option (Instr × Nat)) := [none, none, some (.goto (-48), 3), none, none, some (.iconst 1, 1), some (.ireturn, 1)]
/-- 39: X0_hasKinds -/
def xt_39 : xM := ((yX0_hasKinds, cX0_hasKinds, 4, some .boolean, RX0, 1, 21), [xt_39_0, xt_39_1, xt_39_2, xt_39_3], [(44, 0, 0, 2), (60, 2, 0, 2)], [(73, 26, 2, 2, 0)], [])
def xt_40_0 : List (Option (Instr × Nat)) := [some (.iconst 0, 1), some (.istore_n 1, 1), some (.iload_n 1, 1), some (.sipush 186, 3), none, none, some (.if_icmp .ge 30, 3), none, none, some (.aload_n 0, 1), some (.getfield 11, 3), none, none, some (.iload_n 1, 1), some (.iconst 0, 1), some (.iastore, 1)]
def xt_40_1 : List (Option (Instr × Nat)) := [some (.aload_n 0, 1), some (.getfield 15, 3), none, none, some (.iload_n 1, 1), some (.iconst 0, 1), some (.iastore, 1), some (.aload_n 0, 1), some (.getfield 18, 3), none, none, some (.iload_n 1, 1), some (.iconst 0, 1), some (.bastore, 1), some (.iinc 1 1, 3), none]
def xt_40_2 : List (Option (Instr × Nat)) := [none, some (.goto (-31), 3), none, none, some (.iconst 0, 1), some (.istore_n 1, 1), some (.iload_n 1, 1), some (.bipush 6, 2), none, some (.if_icmp .ge 37, 3), none, none, some (.aload_n 0, 1), some (.getfield 22, 3), none, none]
def xt_40_3 : List (Option (Instr × Nat)) := [some (.iload_n 1, 1), some (.iconst 0, 1), some (.iastore, 1), some (.aload_n 0, 1), some (.getfield 25, 3), none, none, some (.iload_n 1, 1), some (.iconst 0, 1), some (.iastore, 1), some (.aload_n 0, 1), some (.getfield 28, 3), none, none, some (.iload_n 1, 1), some (.iconst 0, 1)]
def xt_40_4 : List (Option (Instr × Nat)) := [some (.iastore, 1), some (.aload_n 0, 1), some (.getfield 31, 3), none, none, some (.iload_n 1, 1), some (.iconst 0, 1), some (.iastore, 1), some (.iinc 1 1, 3), none, none, some (.goto (-37), 3), none, none, some (.aload_n 0, 1), some (.iconst 0, 1)]
def xt_40_5 : List (Option (Instr × Nat)) := [some (.putfield 57, 3), none, none, some (.return_, 1)]
/-- 40: X0_forget -/
def xt_40 : xM := ((yX0_forget, cX0_forget, 2, none, RX0, 0, 0), [xt_40_0, xt_40_1, xt_40_2, xt_40_3, xt_40_4, xt_40_5], [(11, 0, 1, 2), (15, 0, 2, 2), (18, 0, 3, 2), (22, 0, 7, 2), (25, 0, 8, 2), (28, 0, 9, 2), (31, 0, 10, 2), (57, 0, 4, 1)], [], [])
def xt_41_0 : List (Option (Instr × Nat)) := [some (.aload_n 0, 1), some (.getfield 22, 3), none, none, some (.iload_n 1, 1), some (.dup2, 1), some (.iaload, 1), some (.iload_n 2, 1), some (.ior, 1), some (.iastore, 1), some (.aload_n 0, 1), some (.getfield 25, 3), none, none, some (.iload_n 1, 1), some (.dup2, 1)]
def xt_41_1 : List (Option (Instr × Nat)) := [some (.iaload, 1), some (.iload_n 3, 1), some (.ior, 1), some (.iastore, 1), some (.aload_n 0, 1), some (.getfield 34, 3), none, none, some (.iload_n 1, 1), some (.iaload, 1), some (.istore 4, 2), none, some (.aload_n 0, 1), some (.getfield 37, 3), none, none]
def xt_41_2 : List (Option (Instr × Nat)) := [some (.iload_n 1, 1), some (.iaload, 1), some (.istore 5, 2), none, some (.aload_n 0, 1), some (.iload_n 1, 1), some (.iconst 0, 1), some (.iload_n 2, 1), some (.iload 4, 2), none, some (.ior, 1), some (.iload 5, 2), none, some (.iconst (-1), 1), some (.ixor, 1), some (.iand, 1)]
def xt_41_3 : List (Option (Instr × Nat)) := [some (.iload_n 3, 1), some (.iload 4, 2), none, some (.iconst (-1), 1), some (.ixor, 1), some (.iand, 1), some (.iload 5, 2), none, some (.ior, 1), some (.invokevirtual 84, 3), none, none, some (.return_, 1)]
/-- 41: X0_come -/
def xt_41 : xM := ((yX0_come, cX0_come, 6, none, RX0, 1, 26), [xt_41_0, xt_41_1, xt_41_2, xt_41_3], [(22, 0, 7, 2), (25, 0, 8, 2), (34, 0, 11, 2), (37, 0, 12, 2)], [(84, 42, 4, 0, 0)], [])
def xt_42_0 : List (Option (Instr × Nat)) := [some (.iload_n 2, 1), some (.ifCond .lt 16, 3), none, none, some (.iload_n 2, 1), some (.aload_n 0, 1), some (.getfield 44, 3), none, none, some (.getfield 60, 3), none, none, some (.iload_n 1, 1), some (.iaload, 1), some (.if_icmp .le 15, 3), none]
def xt_42_1 : List (Option (Instr × Nat)) := [none, some (.aload_n 0, 1), some (.getfield 44, 3), none, none, some (.getfield 60, 3), none, none, some (.iload_n 1, 1), some (.iaload, 1), some (.goto 4, 3), none, none, some (.iload_n 2, 1), some (.istore 5, 2), none]
def xt_42_2 : List (Option (Instr × Nat)) := [some (.iload_n 1, 1), some (.bipush 31, 2), none, some (.imul, 1), some (.iload 5, 2), none, some (.iadd, 1), some (.istore 6, 2), none, some (.iload_n 3, 1), some (.aload_n 0, 1), some (.getfield 11, 3), none, none, some (.iload 6, 2), none]
def xt_42_3 : List (Option (Instr × Nat)) := [some (.iaload, 1), some (.iconst (-1), 1), some (.ixor, 1), some (.iand, 1), some (.ifCond .ne 18, 3), none, none, some (.iload 4, 2), none, some (.aload_n 0, 1), some (.getfield 15, 3), none, none, some (.iload 6, 2), none, some (.iaload, 1)]
def xt_42_4 : List (Option (Instr × Nat)) := [some (.iconst (-1), 1), some (.ixor, 1), some (.iand, 1), some (.ifCond .eq 39, 3), none, none, some (.aload_n 0, 1), some (.getfield 11, 3), none, none, some (.iload 6, 2), none, some (.dup2, 1), some (.iaload, 1), some (.iload_n 3, 1), some (.ior, 1)]
def xt_42_5 : List (Option (Instr × Nat)) := [some (.iastore, 1), some (.aload_n 0, 1), some (.getfield 15, 3), none, none, some (.iload 6, 2), none, some (.dup2, 1), some (.iaload, 1), some (.iload 4, 2), none, some (.ior, 1), some (.iastore, 1), some (.aload_n 0, 1), some (.getfield 18, 3), none]
def xt_42_6 : List (Option (Instr × Nat)) := [none, some (.iload 6, 2), none, some (.iconst 1, 1), some (.bastore, 1), some (.aload_n 0, 1), some (.iconst 1, 1), some (.putfield 57, 3), none, none, some (.return_, 1)]
/-- 42: X0_join -/
def xt_42 : xM := ((yX0_join, cX0_join, 7, none, RX0, 0, 0), [xt_42_0, xt_42_1, xt_42_2, xt_42_3, xt_42_4, xt_42_5, xt_42_6], [(44, 0, 0, 2), (60, 2, 0, 2), (11, 0, 1, 2), (15, 0, 2, 2), (18, 0, 3, 2), (57, 0, 4, 1)], [], [])
def xt_43_0 : List (Option (Instr × Nat)) := [some (.iload_n 1, 1), some (.bipush 31, 2), none, some (.imul, 1), some (.iload_n 2, 1), some (.iadd, 1), some (.istore_n 3, 1), some (.aload_n 0, 1), some (.getfield 18, 3), none, none, some (.iload_n 3, 1), some (.iconst 0, 1), some (.bastore, 1), some (.aload_n 0, 1), some (.getfield 11, 3)]
def xt_43_1 : List (Option (Instr × Nat)) := [none, none, some (.iload_n 3, 1), some (.iaload, 1), some (.istore 4, 2), none, some (.aload_n 0, 1), some (.getfield 15, 3), none, none, some (.iload_n 3, 1), some (.iaload, 1), some (.istore 5, 2), none, some (.iload_n 1, 1), some (.iload_n 2, 1)]
def xt_43_2 : List (Option (Instr × Nat)) := [some (.invokestatic 73, 3), none, none, some (.istore 6, 2), none, some (.iload_n 2, 1), some (.aload_n 0, 1), some (.getfield 44, 3), none, none, some (.getfield 60, 3), none, none, some (.iload_n 1, 1), some (.iaload, 1), some (.if_icmp .ge 18, 3)]
def xt_43_3 : List (Option (Instr × Nat)) := [none, none, some (.aload_n 0, 1), some (.getfield 44, 3), none, none, some (.getfield 88, 3), none, none, some (.iload 6, 2), none, some (.iaload, 1), some (.bipush 9, 2), none, some (.if_icmp .ne 13, 3), none]
def xt_43_4 : List (Option (Instr × Nat)) := [none, some (.aload_n 0, 1), some (.iload_n 1, 1), some (.iload 4, 2), none, some (.iload 5, 2), none, some (.invokevirtual 91, 3), none, none, some (.return_, 1), some (.aload_n 0, 1), some (.getfield 44, 3), none, none, some (.getfield 88, 3)]
def xt_43_5 : List (Option (Instr × Nat)) := [none, none, some (.iload 6, 2), none, some (.iaload, 1), some (.lookupswitch 124 #[(5, 27), (8, 65)], 27), none, none, none, none, none, none, none, none, none, none]
def xt_43_6 : List (Option (Instr × Nat)) := [none, none, none, none, none, none, none, none, none, none, none, none, none, none, none, none]
def xt_43_7 : List (Option (Instr × Nat)) := [some (.aload_n 0, 1), some (.iload_n 1, 1), some (.iload_n 2, 1), some (.iconst 1, 1), some (.iadd, 1), some (.iload 4, 2), none, some (.iload 5, 2), none, some (.invokevirtual 84, 3), none, none, some (.aload_n 0, 1), some (.iload_n 1, 1), some (.iload_n 2, 1), some (.iconst 1, 1)]
def xt_43_8 : List (Option (Instr × Nat)) := [some (.iadd, 1), some (.aload_n 0, 1), some (.getfield 44, 3), none, none, some (.getfield 94, 3), none, none, some (.iload 6, 2), none, some (.iaload, 1), some (.iadd, 1), some (.iload 4, 2), none, some (.iload 5, 2), none]
def xt_43_9 : List (Option (Instr × Nat)) := [some (.invokevirtual 84, 3), none, none, some (.goto 96, 3), none, none, some (.aload_n 0, 1), some (.aload_n 0, 1), some (.getfield 44, 3), none, none, some (.getfield 97, 3), none, none, some (.iload 6, 2), none]
def xt_43_10 : List (Option (Instr × Nat)) := [some (.iaload, 1), some (.iload 4, 2), none, some (.iload 5, 2), none, some (.invokevirtual 52, 3), none, none, some (.aload_n 0, 1), some (.iload_n 1, 1), some (.iload_n 2, 1), some (.iconst 1, 1), some (.iadd, 1), some (.aload_n 0, 1), some (.getfield 28, 3), none]
def xt_43_11 : List (Option (Instr × Nat)) := [none, some (.aload_n 0, 1), some (.getfield 44, 3), none, none, some (.getfield 97, 3), none, none, some (.iload 6, 2), none, some (.iaload, 1), some (.iaload, 1), some (.aload_n 0, 1), some (.getfield 31, 3), none, none]
def xt_43_12 : List (Option (Instr × Nat)) := [some (.aload_n 0, 1), some (.getfield 44, 3), none, none, some (.getfield 97, 3), none, none, some (.iload 6, 2), none, some (.iaload, 1), some (.iaload, 1), some (.invokevirtual 84, 3), none, none, some (.goto 37, 3), none]
def xt_43_13 : List (Option (Instr × Nat)) := [none, some (.aload_n 0, 1), some (.iload 4, 2), none, some (.putfield 100, 3), none, none, some (.aload_n 0, 1), some (.iload 5, 2), none, some (.putfield 104, 3), none, none, some (.aload_n 0, 1), some (.iload 6, 2), none]
def xt_43_14 : List (Option (Instr × Nat)) := [some (.invokevirtual 107, 3), none, none, some (.aload_n 0, 1), some (.iload_n 1, 1), some (.iload_n 2, 1), some (.iconst 1, 1), some (.iadd, 1), some (.aload_n 0, 1), some (.getfield 100, 3), none, none, some (.aload_n 0, 1), some (.getfield 104, 3), none, none]
def xt_43_15 : List (Option (Instr × Nat)) := [some (.invokevirtual 84, 3), none, none, some (.return_, 1)]
/-- 43: X0_takeOn -/
def xt_43 : xM := ((yX0_takeOn, cX0_takeOn, 7, none, RX0, 2, 51), [xt_43_0, xt_43_1, xt_43_2, xt_43_3, xt_43_4, xt_43_5, xt_43_6, xt_43_7, xt_43_8, xt_43_9, xt_43_10, xt_43_11, xt_43_12, xt_43_13, xt_43_14, xt_43_15], [(18, 0, 3, 2), (11, 0, 1, 2), (15, 0, 2, 2), (44, 0, 0, 2), (60, 2, 0, 2), (88, 2, 1, 2), (94, 2, 3, 2), (97, 2, 2, 2), (28, 0, 9, 2), (31, 0, 10, 2), (100, 0, 5, 0), (104, 0, 6, 0)], [(73, 26, 2, 2, 0), (91, 44, 3, 0, 0), (84, 42, 4, 0, 0), (52, 41, 3, 0, 0)], [])
def xt_44_0 : List (Option (Instr × Nat)) := [some (.iload_n 2, 1), some (.aload_n 0, 1), some (.getfield 28, 3), none, none, some (.iload_n 1, 1), some (.iaload, 1), some (.iconst (-1), 1), some (.ixor, 1), some (.iand, 1), some (.ifCond .ne 17, 3), none, none, some (.iload_n 3, 1), some (.aload_n 0, 1), some (.getfield 31, 3)]
def xt_44_1 : List (Option (Instr × Nat)) := [none, none, some (.iload_n 1, 1), some (.iaload, 1), some (.iconst (-1), 1), some (.ixor, 1), some (.iand, 1), some (.ifCond .ne 4, 3), none, none, some (.return_, 1), some (.aload_n 0, 1), some (.getfield 28, 3), none, none, some (.iload_n 1, 1)]
def xt_44_2 : List (Option (Instr × Nat)) := [some (.dup2, 1), some (.iaload, 1), some (.iload_n 2, 1), some (.ior, 1), some (.iastore, 1), some (.aload_n 0, 1), some (.getfield 31, 3), none, none, some (.iload_n 1, 1), some (.dup2, 1), some (.iaload, 1), some (.iload_n 3, 1), some (.ior, 1), some (.iastore, 1), some (.iconst 0, 1)]
def xt_44_3 : List (Option (Instr × Nat)) := [some (.istore 4, 2), none, some (.iload 4, 2), none, some (.bipush 6, 2), none, some (.if_icmp .ge 101, 3), none, none, some (.iconst 0, 1), some (.istore 5, 2), none, some (.iload 5, 2), none, some (.aload_n 0, 1), some (.getfield 44, 3)]
def xt_44_4 : List (Option (Instr × Nat)) := [none, none, some (.getfield 60, 3), none, none, some (.iload 4, 2), none, some (.iaload, 1), some (.if_icmp .ge 77, 3), none, none, some (.iload 4, 2), none, some (.iload 5, 2), none, some (.invokestatic 73, 3)]
def xt_44_5 : List (Option (Instr × Nat)) := [none, none, some (.istore 6, 2), none, some (.aload_n 0, 1), some (.getfield 44, 3), none, none, some (.getfield 88, 3), none, none, some (.iload 6, 2), none, some (.iaload, 1), some (.bipush 8, 2), none]
def xt_44_6 : List (Option (Instr × Nat)) := [some (.if_icmp .ne 47, 3), none, none, some (.aload_n 0, 1), some (.getfield 44, 3), none, none, some (.getfield 97, 3), none, none, some (.iload 6, 2), none, some (.iaload, 1), some (.iload_n 1, 1), some (.if_icmp .ne 33, 3), none]
def xt_44_7 : List (Option (Instr × Nat)) := [none, some (.aload_n 0, 1), some (.iload 4, 2), none, some (.iload 5, 2), none, some (.invokevirtual 111, 3), none, none, some (.ifCond .eq 22, 3), none, none, some (.aload_n 0, 1), some (.getfield 18, 3), none, none]
def xt_44_8 : List (Option (Instr × Nat)) := [some (.iload 4, 2), none, some (.bipush 31, 2), none, some (.imul, 1), some (.iload 5, 2), none, some (.iadd, 1), some (.iconst 1, 1), some (.bastore, 1), some (.aload_n 0, 1), some (.iconst 1, 1), some (.putfield 57, 3), none, none, some (.iinc 5 1, 3)]
def xt_44_9 : List (Option (Instr × Nat)) := [none, none, some (.goto (-86), 3), none, none, some (.iinc 4 1, 3), none, none, some (.goto (-102), 3), none, none, some (.return_, 1)]
/-- 44: X0_leave -/
def xt_44 : xM := ((yX0_leave, cX0_leave, 7, none, RX0, 1, 21), [xt_44_0, xt_44_1, xt_44_2, xt_44_3, xt_44_4, xt_44_5, xt_44_6, xt_44_7, xt_44_8, xt_44_9], [(28, 0, 9, 2), (31, 0, 10, 2), (44, 0, 0, 2), (60, 2, 0, 2), (88, 2, 1, 2), (97, 2, 2, 2), (18, 0, 3, 2), (57, 0, 4, 1)], [(73, 26, 2, 2, 0)], [])
def xt_45_0 : List (Option (Instr × Nat)) := [some (.aload_n 0, 1), some (.iconst 0, 1), some (.putfield 42, 3), none, none, some (.iconst 0, 1), some (.istore_n 1, 1), some (.iload_n 1, 1), some (.bipush 6, 2), none, some (.if_icmp .ge 103, 3), none, none, some (.aload_n 0, 1), some (.getfield 35, 3), none]
def xt_45_1 : List (Option (Instr × Nat)) := [none, some (.getfield 45, 3), none, none, some (.iload_n 1, 1), some (.iaload, 1), some (.aload_n 0, 1), some (.getfield 35, 3), none, none, some (.getfield 50, 3), none, none, some (.iload_n 1, 1), some (.iaload, 1), some (.iconst (-1), 1)]
def xt_45_2 : List (Option (Instr × Nat)) := [some (.ixor, 1), some (.iand, 1), some (.istore_n 2, 1), some (.iconst 0, 1), some (.istore_n 3, 1), some (.iload_n 3, 1), some (.bipush 16, 2), none, some (.if_icmp .ge 67, 3), none, none, some (.iload_n 2, 1), some (.iload_n 3, 1), some (.invokestatic 53, 3), none, none]
def xt_45_3 : List (Option (Instr × Nat)) := [some (.ifCond .eq 53, 3), none, none, some (.aload_n 0, 1), some (.iload_n 1, 1), some (.iload_n 3, 1), some (.invokevirtual 57, 3), none, none, some (.ifCond .eq 44, 3), none, none, some (.aload_n 0, 1), some (.getfield 42, 3), none, none]
def xt_45_4 : List (Option (Instr × Nat)) := [some (.bipush 12, 2), none, some (.if_icmp .lt 5, 3), none, none, some (.iconst 0, 1), some (.ireturn, 1), some (.aload_n 0, 1), some (.getfield 9, 3), none, none, some (.aload_n 0, 1), some (.getfield 42, 3), none, none, some (.iload_n 1, 1)]
def xt_45_5 : List (Option (Instr × Nat)) := [some (.iastore, 1), some (.aload_n 0, 1), some (.getfield 15, 3), none, none, some (.aload_n 0, 1), some (.getfield 42, 3), none, none, some (.iload_n 3, 1), some (.iastore, 1), some (.aload_n 0, 1), some (.dup, 1), some (.getfield 42, 3), none, none]
def xt_45_6 : List (Option (Instr × Nat)) := [some (.iconst 1, 1), some (.iadd, 1), some (.putfield 42, 3), none, none, some (.iinc 3 1, 3), none, none, some (.goto (-67), 3), none, none, some (.iinc 1 1, 3), none, none, some (.goto (-103), 3), none]
def xt_45_7 : List (Option (Instr × Nat)) := [none, some (.iconst 1, 1), some (.ireturn, 1)]
/-- 45: X1_gather -/
def xt_45 : xM := ((yX1_gather, cX1_gather, 4, some .boolean, RX1, 5, 124), [xt_45_0, xt_45_1, xt_45_2, xt_45_3, xt_45_4, xt_45_5, xt_45_6, xt_45_7], [(42, 1, 6, 0), (35, 1, 1, 2), (45, 0, 8, 2), (50, 0, 7, 2), (9, 1, 3, 2), (15, 1, 4, 2)], [(53, 27, 2, 2, 0), (57, 47, 2, 0, 1)], [])
def xt_46_0 : List (Option (Instr × Nat)) := [some (.aload_n 0, 1), some (.invokevirtual 60, 3), none, none, some (.aload_n 0, 1), some (.aload_n 1, 1), some (.invokevirtual 63, 3), none, none, some (.istore_n 2, 1), some (.iload_n 2, 1), some (.iconst (-1), 1), some (.if_icmp .ne 5, 3), none, none, some (.iconst (-1), 1)]
def xt_46_1 : List (Option (Instr × Nat)) := [some (.ireturn, 1), some (.aload_n 0, 1), some (.iload_n 2, 1), some (.invokevirtual 67, 3), none, none, some (.aload_n 0, 1), some (.iload_n 2, 1), some (.aload_n 1, 1), some (.invokevirtual 71, 3), none, none, some (.ireturn, 1)]
/-- 46: X1_find -/
def xt_46 : xM := ((yX1_find, cX1_find, 3, some .int, RX1, 5, 123), [xt_46_0, xt_46_1], [], [(60, 48, 0, 0, 1), (63, 51, 1, 0, 1), (67, 54, 1, 0, 1), (71, 52, 2, 0, 1)], [])
def xt_47_0 : List (Option (Instr × Nat)) := [some (.aload_n 0, 1), some (.getfield 39, 3), none, none, some (.invokevirtual 92, 3), none, none, some (.aload_n 0, 1), some (.getfield 39, 3), none, none, some (.iload_n 1, 1), some (.iload_n 2, 1), some (.invokevirtual 95, 3), none, none]
def xt_47_1 : List (Option (Instr × Nat)) := [some (.aload_n 0, 1), some (.getfield 39, 3), none, none, some (.iconst 0, 1), some (.iconst 0, 1), some (.invokevirtual 98, 3), none, none, some (.aload_n 0, 1), some (.getfield 39, 3), none, none, some (.invokevirtual 101, 3), none, none]
def xt_47_2 : List (Option (Instr × Nat)) := [some (.ifCond .le 7, 3), none, none, some (.iconst 1, 1), some (.goto 4, 3), none, none, some (.iconst 0, 1), some (.ireturn, 1)]
/-- 47: X1_leads -/
def xt_47 : xM := ((yX1_leads, cX1_leads, 3, some .boolean, RX1, 4, 102), [xt_47_0, xt_47_1, xt_47_2], [(39, 1, 2, 2)], [(92, 32, 0, 0, 0), (95, 33, 2, 0, 0), (98, 34, 2, 0, 0), (101, 36, 0, 0, 0)], [])
def xt_48_0 : List (Option (Instr × Nat)) := [some (.aload_n 0, 1), some (.invokevirtual 105, 3), none, none, some (.aload_n 0, 1), some (.getfield 39, 3), none, none, some (.iconst 0, 1), some (.ldc 108, 2), none, some (.invokevirtual 98, 3), none, none, some (.aload_n 0, 1), some (.aload_n 0, 1)]
def xt_48_1 : List (Option (Instr × Nat)) := [some (.invokevirtual 109, 3), none, none, some (.putfield 112, 3), none, none, some (.aload_n 0, 1), some (.aload_n 0, 1), some (.getfield 39, 3), none, none, some (.invokevirtual 101, 3), none, none, some (.ifCond .le 7, 3), none]
def xt_48_2 : List (Option (Instr × Nat)) := [none, some (.iconst 1, 1), some (.goto 4, 3), none, none, some (.iconst 0, 1), some (.putfield 115, 3), none, none, some (.aload_n 0, 1), some (.iconst 0, 1), some (.putfield 119, 3), none, none, some (.iconst 0, 1), some (.istore_n 1, 1)]
def xt_48_3 : List (Option (Instr × Nat)) := [some (.iload_n 1, 1), some (.aload_n 0, 1), some (.getfield 42, 3), none, none, some (.if_icmp .ge 78, 3), none, none, some (.aload_n 0, 1), some (.invokevirtual 105, 3), none, none, some (.aload_n 0, 1), some (.getfield 39, 3), none, none]
def xt_48_4 : List (Option (Instr × Nat)) := [some (.aload_n 0, 1), some (.getfield 9, 3), none, none, some (.iload_n 1, 1), some (.iaload, 1), some (.aload_n 0, 1), some (.getfield 15, 3), none, none, some (.iload_n 1, 1), some (.iaload, 1), some (.invokevirtual 95, 3), none, none, some (.aload_n 0, 1)]
def xt_48_5 : List (Option (Instr × Nat)) := [some (.getfield 39, 3), none, none, some (.iconst 0, 1), some (.iconst 0, 1), some (.invokevirtual 98, 3), none, none, some (.aload_n 0, 1), some (.getfield 18, 3), none, none, some (.iload_n 1, 1), some (.aload_n 0, 1), some (.invokevirtual 109, 3), none]
def xt_48_6 : List (Option (Instr × Nat)) := [none, some (.iastore, 1), some (.aload_n 0, 1), some (.aload_n 0, 1), some (.getfield 119, 3), none, none, some (.iload_n 1, 1), some (.aload_n 0, 1), some (.getfield 39, 3), none, none, some (.invokevirtual 101, 3), none, none, some (.ifCond .le 7, 3)]
def xt_48_7 : List (Option (Instr × Nat)) := [none, none, some (.iconst 1, 1), some (.goto 4, 3), none, none, some (.iconst 0, 1), some (.invokestatic 122, 3), none, none, some (.putfield 119, 3), none, none, some (.iinc 1 1, 3), none, none]
def xt_48_8 : List (Option (Instr × Nat)) := [some (.goto (-80), 3), none, none, some (.return_, 1)]
/-- 48: X1_followWays -/
def xt_48 : xM := ((yX1_followWays, cX1_followWays, 2, none, RX1, 4, 102), [xt_48_0, xt_48_1, xt_48_2, xt_48_3, xt_48_4, xt_48_5, xt_48_6, xt_48_7, xt_48_8], [(39, 1, 2, 2), (112, 1, 8, 0), (115, 1, 9, 1), (119, 1, 7, 0), (42, 1, 6, 0), (9, 1, 3, 2), (15, 1, 4, 2), (18, 1, 5, 2)], [(105, 49, 0, 0, 1), (98, 34, 2, 0, 0), (109, 50, 0, 0, 1), (101, 36, 0, 0, 0), (95, 33, 2, 0, 0)], [(108, 65535)])
def xt_49_0 : List (Option (Instr × Nat)) := [some (.aload_n 0, 1), some (.getfield 39, 3), none, none, some (.invokevirtual 92, 3), none, none, some (.iconst 0, 1), some (.istore_n 1, 1), some (.iload_n 1, 1), some (.aload_n 0, 1), some (.getfield 42, 3), none, none, some (.if_icmp .ge 28, 3), none]
def xt_49_1 : List (Option (Instr × Nat)) := [none, some (.aload_n 0, 1), some (.getfield 39, 3), none, none, some (.aload_n 0, 1), some (.getfield 9, 3), none, none, some (.iload_n 1, 1), some (.iaload, 1), some (.aload_n 0, 1), some (.getfield 15, 3), none, none, some (.iload_n 1, 1)]
def xt_49_2 : List (Option (Instr × Nat)) := [some (.iaload, 1), some (.invokevirtual 126, 3), none, none, some (.iinc 1 1, 3), none, none, some (.goto (-30), 3), none, none, some (.return_, 1)]
/-- 49: X1_doAllMends -/
def xt_49 : xM := ((yX1_doAllMends, cX1_doAllMends, 2, none, RX1, 1, 21), [xt_49_0, xt_49_1, xt_49_2], [(39, 1, 2, 2), (42, 1, 6, 0), (9, 1, 3, 2), (15, 1, 4, 2)], [(92, 32, 0, 0, 0)], [])
def xt_50_0 : List (Option (Instr × Nat)) := [some (.iconst 0, 1), some (.istore_n 1, 1), some (.iconst 0, 1), some (.istore_n 2, 1), some (.iload_n 2, 1), some (.aload_n 0, 1), some (.getfield 42, 3), none, none, some (.if_icmp .ge 38, 3), none, none, some (.iload_n 1, 1), some (.iload_n 2, 1), some (.aload_n 0, 1), some (.getfield 39, 3)]
def xt_50_1 : List (Option (Instr × Nat)) := [none, none, some (.getfield 45, 3), none, none, some (.aload_n 0, 1), some (.getfield 9, 3), none, none, some (.iload_n 2, 1), some (.iaload, 1), some (.iaload, 1), some (.aload_n 0, 1), some (.getfield 15, 3), none, none]
def xt_50_2 : List (Option (Instr × Nat)) := [some (.iload_n 2, 1), some (.iaload, 1), some (.invokestatic 53, 3), none, none, some (.invokestatic 122, 3), none, none, some (.istore_n 1, 1), some (.iinc 2 1, 3), none, none, some (.goto (-40), 3), none, none, some (.iload_n 1, 1)]
def xt_50_3 : List (Option (Instr × Nat)) := [some (.ireturn, 1)]
/-- 50: X1_mendsComeTo -/
def xt_50 : xM := ((yX1_mendsComeTo, cX1_mendsComeTo, 3, some .int, RX1, 1, 21), [xt_50_0, xt_50_1, xt_50_2, xt_50_3], [(42, 1, 6, 0), (39, 1, 2, 2), (45, 0, 8, 2), (9, 1, 3, 2), (15, 1, 4, 2)], [(53, 27, 2, 2, 0)], [])
def xt_51_0 : List (Option (Instr × Nat)) := [some (.aload_n 0, 1), some (.getfield 115, 3), none, none, some (.ifCond .eq 5, 3), none, none, some (.iconst (-1), 1), some (.ireturn, 1), some (.iconst (-1), 1), some (.istore_n 2, 1), some (.sipush 1189, 3), none, none, some (.istore_n 3, 1), some (.iconst 0, 1)]
def xt_51_1 : List (Option (Instr × Nat)) := [some (.istore 4, 2), none, some (.iload 4, 2), none, some (.iconst 1, 1), some (.aload_n 0, 1), some (.getfield 42, 3), none, none, some (.ishl, 1), some (.if_icmp .ge 39, 3), none, none, some (.aload_n 0, 1), some (.iload 4, 2), none]
def xt_51_2 : List (Option (Instr × Nat)) := [some (.aload_n 1, 1), some (.invokevirtual 71, 3), none, none, some (.istore 5, 2), none, some (.iload 5, 2), none, some (.iload_n 3, 1), some (.if_icmp .ge 18, 3), none, none, some (.aload_n 0, 1), some (.iload 4, 2), none, some (.invokevirtual 129, 3)]
def xt_51_3 : List (Option (Instr × Nat)) := [none, none, some (.ifCond .eq 9, 3), none, none, some (.iload 4, 2), none, some (.istore_n 2, 1), some (.iload 5, 2), none, some (.istore_n 3, 1), some (.iinc 4 1, 3), none, none, some (.goto (-44), 3), none]
def xt_51_4 : List (Option (Instr × Nat)) := [none, some (.iload_n 2, 1), some (.ireturn, 1)]
/-- 51: X1_cheapest -/
def xt_51 : xM := ((yX1_cheapest, cX1_cheapest, 6, some .int, RX1, 2, 45), [xt_51_0, xt_51_1, xt_51_2, xt_51_3, xt_51_4], [(115, 1, 9, 1), (42, 1, 6, 0)], [(71, 52, 2, 0, 1), (129, 53, 1, 0, 1)], [])
def xt_52_0 : List (Option (Instr × Nat)) := [some (.iconst 0, 1), some (.istore_n 3, 1), some (.iconst 0, 1), some (.istore 4, 2), none, some (.iload 4, 2), none, some (.aload_n 0, 1), some (.getfield 42, 3), none, none, some (.if_icmp .ge 30, 3), none, none, some (.iload_n 1, 1), some (.iload 4, 2)]
def xt_52_1 : List (Option (Instr × Nat)) := [none, some (.invokestatic 53, 3), none, none, some (.ifCond .eq 15, 3), none, none, some (.iload_n 3, 1), some (.aload_n 2, 1), some (.aload_n 0, 1), some (.getfield 9, 3), none, none, some (.iload 4, 2), none, some (.iaload, 1)]
def xt_52_2 : List (Option (Instr × Nat)) := [some (.iaload, 1), some (.iadd, 1), some (.istore_n 3, 1), some (.iinc 4 1, 3), none, none, some (.goto (-33), 3), none, none, some (.iload_n 3, 1), some (.ireturn, 1)]
/-- 52: X1_costOf -/
def xt_52 : xM := ((yX1_costOf, cX1_costOf, 5, some .int, RX1, 1, 21), [xt_52_0, xt_52_1, xt_52_2], [(42, 1, 6, 0), (9, 1, 3, 2)], [(53, 27, 2, 2, 0)], [])
def xt_53_0 : List (Option (Instr × Nat)) := [some (.aload_n 0, 1), some (.getfield 112, 3), none, none, some (.iload_n 1, 1), some (.iconst (-1), 1), some (.ixor, 1), some (.iand, 1), some (.istore_n 2, 1), some (.iconst 0, 1), some (.istore_n 3, 1), some (.iload_n 3, 1), some (.aload_n 0, 1), some (.getfield 42, 3), none, none]
def xt_53_1 : List (Option (Instr × Nat)) := [some (.if_icmp .ge 50, 3), none, none, some (.iconst 0, 1), some (.istore 4, 2), none, some (.iload 4, 2), none, some (.aload_n 0, 1), some (.getfield 42, 3), none, none, some (.if_icmp .ge 32, 3), none, none, some (.iload_n 2, 1)]
def xt_53_2 : List (Option (Instr × Nat)) := [some (.iload 4, 2), none, some (.invokestatic 53, 3), none, none, some (.ifCond .eq 17, 3), none, none, some (.iload_n 2, 1), some (.aload_n 0, 1), some (.getfield 18, 3), none, none, some (.iload 4, 2), none, some (.iaload, 1)]
def xt_53_3 : List (Option (Instr × Nat)) := [some (.iload_n 1, 1), some (.iconst (-1), 1), some (.ixor, 1), some (.iand, 1), some (.ior, 1), some (.istore_n 2, 1), some (.iinc 4 1, 3), none, none, some (.goto (-35), 3), none, none, some (.iinc 3 1, 3), none, none, some (.goto (-52), 3)]
def xt_53_4 : List (Option (Instr × Nat)) := [none, none, some (.iload_n 2, 1), some (.aload_n 0, 1), some (.getfield 119, 3), none, none, some (.iand, 1), some (.ifCond .ne 7, 3), none, none, some (.iconst 1, 1), some (.goto 4, 3), none, none, some (.iconst 0, 1)]
def xt_53_5 : List (Option (Instr × Nat)) := [some (.ireturn, 1)]
/-- 53: X1_cutsAllWays -/
def xt_53 : xM := ((yX1_cutsAllWays, cX1_cutsAllWays, 5, some .boolean, RX1, 1, 21), [xt_53_0, xt_53_1, xt_53_2, xt_53_3, xt_53_4, xt_53_5], [(112, 1, 8, 0), (42, 1, 6, 0), (18, 1, 5, 2), (119, 1, 7, 0)], [(53, 27, 2, 2, 0)], [])
def xt_54_0 : List (Option (Instr × Nat)) := [some (.aload_n 0, 1), some (.iconst 0, 1), some (.putfield 27, 3), none, none, some (.iconst 0, 1), some (.istore_n 2, 1), some (.iload_n 2, 1), some (.aload_n 0, 1), some (.getfield 42, 3), none, none, some (.if_icmp .ge 57, 3), none, none, some (.iload_n 1, 1)]
def xt_54_1 : List (Option (Instr × Nat)) := [some (.iload_n 2, 1), some (.invokestatic 53, 3), none, none, some (.ifCond .eq 43, 3), none, none, some (.aload_n 0, 1), some (.getfield 21, 3), none, none, some (.aload_n 0, 1), some (.getfield 27, 3), none, none, some (.aload_n 0, 1)]
def xt_54_2 : List (Option (Instr × Nat)) := [some (.getfield 9, 3), none, none, some (.iload_n 2, 1), some (.iaload, 1), some (.iastore, 1), some (.aload_n 0, 1), some (.getfield 24, 3), none, none, some (.aload_n 0, 1), some (.getfield 27, 3), none, none, some (.aload_n 0, 1), some (.getfield 15, 3)]
def xt_54_3 : List (Option (Instr × Nat)) := [none, none, some (.iload_n 2, 1), some (.iaload, 1), some (.iastore, 1), some (.aload_n 0, 1), some (.dup, 1), some (.getfield 27, 3), none, none, some (.iconst 1, 1), some (.iadd, 1), some (.putfield 27, 3), none, none, some (.iinc 2 1, 3)]
def xt_54_4 : List (Option (Instr × Nat)) := [none, none, some (.goto (-59), 3), none, none, some (.return_, 1)]
/-- 54: X1_keep -/
def xt_54 : xM := ((yX1_keep, cX1_keep, 3, none, RX1, 1, 21), [xt_54_0, xt_54_1, xt_54_2, xt_54_3, xt_54_4], [(27, 1, 12, 0), (42, 1, 6, 0), (21, 1, 10, 2), (9, 1, 3, 2), (24, 1, 11, 2), (15, 1, 4, 2)], [(53, 27, 2, 2, 0)], [])
def xt_55_0 : List (Option (Instr × Nat)) := [some (.iload_n 0, 1), some (.iload_n 1, 1), some (.if_icmp .lt 12, 3), none, none, some (.iload_n 0, 1), some (.iload_n 2, 1), some (.if_icmp .gt 7, 3), none, none, some (.iconst 1, 1), some (.goto 4, 3), none, none, some (.iconst 0, 1), some (.ireturn, 1)]
/-- 55: X5_in -/
def xt_55 : xM := ((yX5_in, cX5_in, 3, some .boolean, RX5, 0, 0), [xt_55_0], [], [], [])
def xt_56_0 : List (Option (Instr × Nat)) := [some (.iload_n 0, 1), some (.iconst 0, 1), some (.iconst 5, 1), some (.invokestatic 101, 3), none, none, some (.ireturn, 1)]
/-- 56: X5_isFunction -/
def xt_56 : xM := ((yX5_isFunction, cX5_isFunction, 1, some .boolean, RX5, 1, 22), [xt_56_0], [], [(101, 55, 3, 1, 0)], [])
def xt_57_0 : List (Option (Instr × Nat)) := [some (.iload_n 0, 1), some (.iconst 0, 1), some (.bipush 15, 2), none, some (.invokestatic 101, 3), none, none, some (.ireturn, 1)]
/-- 57: X5_isCell -/
def xt_57 : xM := ((yX5_isCell, cX5_isCell, 1, some .boolean, RX5, 1, 22), [xt_57_0], [], [(101, 55, 3, 1, 0)], [])
def xt_58_0 : List (Option (Instr × Nat)) := [some (.iload_n 0, 1), some (.invokestatic 105, 3), none, none, some (.ifCond .eq 25, 3), none, none, some (.iload_n 1, 1), some (.iconst 1, 1), some (.bipush 8, 2), none, some (.invokestatic 101, 3), none, none, some (.ifCond .eq 15, 3), none]
def xt_58_1 : List (Option (Instr × Nat)) := [none, some (.iload_n 0, 1), some (.iload_n 1, 1), some (.iadd, 1), some (.bipush 16, 2), none, some (.if_icmp .gt 7, 3), none, none, some (.iconst 1, 1), some (.goto 4, 3), none, none, some (.iconst 0, 1), some (.ireturn, 1)]
/-- 58: X5_isRow -/
def xt_58 : xM := ((yX5_isRow, cX5_isRow, 2, some .boolean, RX5, 2, 42), [xt_58_0, xt_58_1], [], [(105, 57, 1, 1, 0), (101, 55, 3, 1, 0)], [])
def xt_59_0 : List (Option (Instr × Nat)) := [some (.iload_n 0, 1), some (.tableswitch 341 0 11 #[63, 96, 123, 152, 152, 178, 211, 240, 269, 295, 318, 318], 63), none, none, none, none, none, none, none, none, none, none, none, none, none, none]
def xt_59_1 : List (Option (Instr × Nat)) := [none, none, none, none, none, none, none, none, none, none, none, none, none, none, none, none]
def xt_59_2 : List (Option (Instr × Nat)) := [none, none, none, none, none, none, none, none, none, none, none, none, none, none, none, none]
def xt_59_3 : List (Option (Instr × Nat)) := [none, none, none, none, none, none, none, none, none, none, none, none, none, none, none, none]
def xt_59_4 : List (Option (Instr × Nat)) := [some (.iload_n 1, 1), some (.invokestatic 105, 3), none, none, some (.ifCond .eq 27, 3), none, none, some (.iload_n 2, 1), some (.iconst 0, 1), some (.sipush 255, 3), none, none, some (.invokestatic 101, 3), none, none, some (.ifCond .eq 16, 3)]
def xt_59_5 : List (Option (Instr × Nat)) := [none, none, some (.iload_n 3, 1), some (.ifCond .ne 12, 3), none, none, some (.iload 4, 2), none, some (.ifCond .ne 7, 3), none, none, some (.iconst 1, 1), some (.goto 4, 3), none, none, some (.iconst 0, 1)]
def xt_59_6 : List (Option (Instr × Nat)) := [some (.ireturn, 1), some (.iload_n 1, 1), some (.iload_n 3, 1), some (.invokestatic 109, 3), none, none, some (.ifCond .eq 20, 3), none, none, some (.iload_n 2, 1), some (.iload_n 3, 1), some (.invokestatic 109, 3), none, none, some (.ifCond .eq 12, 3), none]
def xt_59_7 : List (Option (Instr × Nat)) := [none, some (.iload 4, 2), none, some (.ifCond .ne 7, 3), none, none, some (.iconst 1, 1), some (.goto 4, 3), none, none, some (.iconst 0, 1), some (.ireturn, 1), some (.iload_n 1, 1), some (.invokestatic 105, 3), none, none]
def xt_59_8 : List (Option (Instr × Nat)) := [some (.ifCond .eq 23, 3), none, none, some (.iload_n 2, 1), some (.invokestatic 105, 3), none, none, some (.ifCond .eq 16, 3), none, none, some (.iload_n 3, 1), some (.ifCond .ne 12, 3), none, none, some (.iload 4, 2), none]
def xt_59_9 : List (Option (Instr × Nat)) := [some (.ifCond .ne 7, 3), none, none, some (.iconst 1, 1), some (.goto 4, 3), none, none, some (.iconst 0, 1), some (.ireturn, 1), some (.iload_n 1, 1), some (.invokestatic 105, 3), none, none, some (.ifCond .eq 20, 3), none, none]
def xt_59_10 : List (Option (Instr × Nat)) := [some (.iload_n 2, 1), some (.ifCond .ne 16, 3), none, none, some (.iload_n 3, 1), some (.ifCond .ne 12, 3), none, none, some (.iload 4, 2), none, some (.ifCond .ne 7, 3), none, none, some (.iconst 1, 1), some (.goto 4, 3), none]
def xt_59_11 : List (Option (Instr × Nat)) := [none, some (.iconst 0, 1), some (.ireturn, 1), some (.iload_n 1, 1), some (.invokestatic 105, 3), none, none, some (.ifCond .eq 27, 3), none, none, some (.iload_n 2, 1), some (.bipush (-30), 2), none, some (.bipush 30, 2), none, some (.invokestatic 101, 3)]
def xt_59_12 : List (Option (Instr × Nat)) := [none, none, some (.ifCond .eq 16, 3), none, none, some (.iload_n 3, 1), some (.ifCond .ne 12, 3), none, none, some (.iload 4, 2), none, some (.ifCond .ne 7, 3), none, none, some (.iconst 1, 1), some (.goto 4, 3)]
def xt_59_13 : List (Option (Instr × Nat)) := [none, none, some (.iconst 0, 1), some (.ireturn, 1), some (.iload_n 1, 1), some (.iload_n 2, 1), some (.invokestatic 109, 3), none, none, some (.ifCond .eq 22, 3), none, none, some (.iload_n 3, 1), some (.invokestatic 105, 3), none, none]
def xt_59_14 : List (Option (Instr × Nat)) := [some (.ifCond .eq 15, 3), none, none, some (.iload 4, 2), none, some (.invokestatic 105, 3), none, none, some (.ifCond .eq 7, 3), none, none, some (.iconst 1, 1), some (.goto 4, 3), none, none, some (.iconst 0, 1)]
def xt_59_15 : List (Option (Instr × Nat)) := [some (.ireturn, 1), some (.iload_n 1, 1), some (.invokestatic 105, 3), none, none, some (.ifCond .eq 23, 3), none, none, some (.iload_n 2, 1), some (.iload_n 3, 1), some (.invokestatic 109, 3), none, none, some (.ifCond .eq 15, 3), none, none]
def xt_59_16 : List (Option (Instr × Nat)) := [some (.iload 4, 2), none, some (.invokestatic 105, 3), none, none, some (.ifCond .eq 7, 3), none, none, some (.iconst 1, 1), some (.goto 4, 3), none, none, some (.iconst 0, 1), some (.ireturn, 1), some (.iload_n 1, 1), some (.invokestatic 113, 3)]
def xt_59_17 : List (Option (Instr × Nat)) := [none, none, some (.ifCond .eq 20, 3), none, none, some (.iload_n 2, 1), some (.ifCond .ne 16, 3), none, none, some (.iload_n 3, 1), some (.ifCond .ne 12, 3), none, none, some (.iload 4, 2), none, some (.ifCond .ne 7, 3)]
def xt_59_18 : List (Option (Instr × Nat)) := [none, none, some (.iconst 1, 1), some (.goto 4, 3), none, none, some (.iconst 0, 1), some (.ireturn, 1), some (.iload_n 1, 1), some (.ifCond .ne 20, 3), none, none, some (.iload_n 2, 1), some (.ifCond .ne 16, 3), none, none]
def xt_59_19 : List (Option (Instr × Nat)) := [some (.iload_n 3, 1), some (.ifCond .ne 12, 3), none, none, some (.iload 4, 2), none, some (.ifCond .ne 7, 3), none, none, some (.iconst 1, 1), some (.goto 4, 3), none, none, some (.iconst 0, 1), some (.ireturn, 1), some (.iload_n 1, 1)]
def xt_59_20 : List (Option (Instr × Nat)) := [some (.iload_n 2, 1), some (.invokestatic 109, 3), none, none, some (.ifCond .eq 16, 3), none, none, some (.iload_n 3, 1), some (.ifCond .ne 12, 3), none, none, some (.iload 4, 2), none, some (.ifCond .ne 7, 3), none, none]
def xt_59_21 : List (Option (Instr × Nat)) := [some (.iconst 1, 1), some (.goto 4, 3), none, none, some (.iconst 0, 1), some (.ireturn, 1), some (.iconst 0, 1), some (.ireturn, 1)]
/-- 59: X5_isGood -/
def xt_59 : xM := ((yX5_isGood, cX5_isGood, 5, some .boolean, RX5, 3, 63), [xt_59_0, xt_59_1, xt_59_2, xt_59_3, xt_59_4, xt_59_5, xt_59_6, xt_59_7, xt_59_8, xt_59_9, xt_59_10, xt_59_11, xt_59_12, xt_59_13, xt_59_14, xt_59_15, xt_59_16, xt_59_17, xt_59_18, xt_59_19, xt_59_20, xt_59_21], [], [(105, 57, 1, 1, 0), (101, 55, 3, 1, 0), (109, 58, 2, 1, 0), (113, 56, 1, 1, 0)], [])
def xt_60_0 : List (Option (Instr × Nat)) := [some (.iconst 5, 1), some (.bipush 30, 2), none, some (.iload_n 1, 1), some (.imul, 1), some (.iload_n 2, 1), some (.iadd, 1), some (.imul, 1), some (.istore 8, 2), none, some (.aload_n 0, 1), some (.getfield 7, 3), none, none, some (.iload 8, 2), none]
def xt_60_1 : List (Option (Instr × Nat)) := [some (.iload_n 3, 1), some (.iastore, 1), some (.aload_n 0, 1), some (.getfield 7, 3), none, none, some (.iload 8, 2), none, some (.iconst 1, 1), some (.iadd, 1), some (.iload 4, 2), none, some (.iastore, 1), some (.aload_n 0, 1), some (.getfield 7, 3), none]
def xt_60_2 : List (Option (Instr × Nat)) := [none, some (.iload 8, 2), none, some (.iconst 2, 1), some (.iadd, 1), some (.iload 5, 2), none, some (.iastore, 1), some (.aload_n 0, 1), some (.getfield 7, 3), none, none, some (.iload 8, 2), none, some (.iconst 3, 1), some (.iadd, 1)]
def xt_60_3 : List (Option (Instr × Nat)) := [some (.iload 6, 2), none, some (.iastore, 1), some (.aload_n 0, 1), some (.getfield 7, 3), none, none, some (.iload 8, 2), none, some (.iconst 4, 1), some (.iadd, 1), some (.iload 7, 2), none, some (.iastore, 1), some (.aload_n 0, 1), some (.iconst 1, 1)]
def xt_60_4 : List (Option (Instr × Nat)) := [some (.putfield 116, 3), none, none, some (.return_, 1)]
/-- 60: X5_puts -/
def xt_60 : xM := ((yX5_puts, cX5_puts, 9, none, RX5, 0, 0), [xt_60_0, xt_60_1, xt_60_2, xt_60_3, xt_60_4], [(7, 5, 0, 2), (116, 5, 5, 1)], [], [])
def xt_61_0 : List (Option (Instr × Nat)) := [some (.iload_n 1, 1), some (.invokestatic 113, 3), none, none, some (.ifCond .eq 28, 3), none, none, some (.aload_n 0, 1), some (.getfield 13, 3), none, none, some (.iload_n 1, 1), some (.iaload, 1), some (.bipush 30, 2), none, some (.if_icmp .eq 17, 3)]
def xt_61_1 : List (Option (Instr × Nat)) := [none, none, some (.iload_n 2, 1), some (.iload_n 3, 1), some (.iload 4, 2), none, some (.iload 5, 2), none, some (.iload 6, 2), none, some (.invokestatic 120, 3), none, none, some (.ifCond .ne 5, 3), none, none]
def xt_61_2 : List (Option (Instr × Nat)) := [some (.iconst (-1), 1), some (.ireturn, 1), some (.aload_n 0, 1), some (.iload_n 1, 1), some (.aload_n 0, 1), some (.getfield 13, 3), none, none, some (.iload_n 1, 1), some (.iaload, 1), some (.iload_n 2, 1), some (.iload_n 3, 1), some (.iload 4, 2), none, some (.iload 5, 2), none]
def xt_61_3 : List (Option (Instr × Nat)) := [some (.iload 6, 2), none, some (.invokevirtual 124, 3), none, none, some (.aload_n 0, 1), some (.getfield 13, 3), none, none, some (.iload_n 1, 1), some (.dup2, 1), some (.iaload, 1), some (.iconst 1, 1), some (.iadd, 1), some (.iastore, 1), some (.aload_n 0, 1)]
def xt_61_4 : List (Option (Instr × Nat)) := [some (.getfield 13, 3), none, none, some (.iload_n 1, 1), some (.iaload, 1), some (.ireturn, 1)]
/-- 61: X5_code -/
def xt_61 : xM := ((yX5_code, cX5_code, 7, some .int, RX5, 4, 87), [xt_61_0, xt_61_1, xt_61_2, xt_61_3, xt_61_4], [(13, 5, 1, 2)], [(113, 56, 1, 1, 0), (120, 59, 5, 1, 0), (124, 60, 7, 0, 5)], [])
def xt_62_0 : List (Option (Instr × Nat)) := [some (.iload_n 1, 1), some (.invokestatic 113, 3), none, none, some (.ifCond .eq 34, 3), none, none, some (.iload_n 2, 1), some (.iconst 0, 1), some (.aload_n 0, 1), some (.getfield 13, 3), none, none, some (.iload_n 1, 1), some (.iaload, 1), some (.iconst 1, 1)]
def xt_62_1 : List (Option (Instr × Nat)) := [some (.isub, 1), some (.invokestatic 101, 3), none, none, some (.ifCond .eq 18, 3), none, none, some (.iload_n 3, 1), some (.iload 4, 2), none, some (.iload 5, 2), none, some (.iload 6, 2), none, some (.iload 7, 2), none]
def xt_62_2 : List (Option (Instr × Nat)) := [some (.invokestatic 120, 3), none, none, some (.ifCond .ne 5, 3), none, none, some (.iconst 0, 1), some (.ireturn, 1), some (.aload_n 0, 1), some (.iload_n 1, 1), some (.iload_n 2, 1), some (.iload_n 3, 1), some (.iload 4, 2), none, some (.iload 5, 2), none]
def xt_62_3 : List (Option (Instr × Nat)) := [some (.iload 6, 2), none, some (.iload 7, 2), none, some (.invokevirtual 124, 3), none, none, some (.iconst 1, 1), some (.ireturn, 1)]
/-- 62: X5_change -/
def xt_62 : xM := ((yX5_change, cX5_change, 8, some .boolean, RX5, 4, 87), [xt_62_0, xt_62_1, xt_62_2, xt_62_3], [(13, 5, 1, 2)], [(113, 56, 1, 1, 0), (101, 55, 3, 1, 0), (120, 59, 5, 1, 0), (124, 60, 7, 0, 5)], [])
def xt_63_0 : List (Option (Instr × Nat)) := [some (.iload_n 1, 1), some (.invokestatic 113, 3), none, none, some (.ifCond .ne 5, 3), none, none, some (.iconst (-1), 1), some (.ireturn, 1), some (.aload_n 0, 1), some (.getfield 13, 3), none, none, some (.iload_n 1, 1), some (.iaload, 1), some (.istore_n 2, 1)]
def xt_63_1 : List (Option (Instr × Nat)) := [some (.aload_n 0, 1), some (.getfield 13, 3), none, none, some (.iload_n 1, 1), some (.iconst 0, 1), some (.iastore, 1), some (.aload_n 0, 1), some (.iconst 1, 1), some (.putfield 116, 3), none, none, some (.iload_n 2, 1), some (.ireturn, 1)]
/-- 63: X5_clear -/
def xt_63 : xM := ((yX5_clear, cX5_clear, 3, some .int, RX5, 2, 42), [xt_63_0, xt_63_1], [(13, 5, 1, 2), (116, 5, 5, 1)], [(113, 56, 1, 1, 0)], [])
def xt_64_0 : List (Option (Instr × Nat)) := [some (.aload_n 0, 1), some (.getfield 128, 3), none, none, some (.bipush 16, 2), none, some (.if_icmp .eq 14, 3), none, none, some (.iload_n 1, 1), some (.iconst 0, 1), some (.sipush 255, 3), none, none, some (.invokestatic 101, 3), none]
def xt_64_1 : List (Option (Instr × Nat)) := [none, some (.ifCond .ne 5, 3), none, none, some (.iconst (-1), 1), some (.ireturn, 1), some (.aload_n 0, 1), some (.getfield 19, 3), none, none, some (.aload_n 0, 1), some (.getfield 128, 3), none, none, some (.iload_n 1, 1), some (.iastore, 1)]
def xt_64_2 : List (Option (Instr × Nat)) := [some (.aload_n 0, 1), some (.dup, 1), some (.getfield 128, 3), none, none, some (.iconst 1, 1), some (.iadd, 1), some (.putfield 128, 3), none, none, some (.aload_n 0, 1), some (.getfield 128, 3), none, none, some (.ireturn, 1)]
/-- 64: X5_input -/
def xt_64 : xM := ((yX5_input, cX5_input, 2, some .int, RX5, 1, 22), [xt_64_0, xt_64_1, xt_64_2], [(128, 5, 4, 0), (19, 5, 3, 2)], [(101, 55, 3, 1, 0)], [])
def xt_65_0 : List (Option (Instr × Nat)) := [some (.aload_n 0, 1), some (.getfield 128, 3), none, none, some (.istore_n 1, 1), some (.aload_n 0, 1), some (.iconst 0, 1), some (.putfield 128, 3), none, none, some (.iload_n 1, 1), some (.ireturn, 1)]
/-- 65: X5_empty -/
def xt_65 : xM := ((yX5_empty, cX5_empty, 2, some .int, RX5, 0, 0), [xt_65_0], [(128, 5, 4, 0)], [], [])
def xt_66_0 : List (Option (Instr × Nat)) := [some (.iconst 0, 1), some (.istore_n 1, 1), some (.iload_n 1, 1), some (.bipush 16, 2), none, some (.if_icmp .ge 23, 3), none, none, some (.aload_n 0, 1), some (.getfield 22, 3), none, none, some (.iload_n 1, 1), some (.iconst 0, 1), some (.iastore, 1), some (.aload_n 0, 1)]
def xt_66_1 : List (Option (Instr × Nat)) := [some (.getfield 25, 3), none, none, some (.iload_n 1, 1), some (.iconst 0, 1), some (.bastore, 1), some (.iinc 1 1, 3), none, none, some (.goto (-23), 3), none, none, some (.aload_n 0, 1), some (.iconst 0, 1), some (.putfield 177, 3), none]
def xt_66_2 : List (Option (Instr × Nat)) := [none, some (.aload_n 0, 1), some (.iconst 0, 1), some (.putfield 141, 3), none, none, some (.aload_n 0, 1), some (.iconst (-1), 1), some (.putfield 144, 3), none, none, some (.aload_n 0, 1), some (.iconst (-1), 1), some (.putfield 147, 3), none, none]
def xt_66_3 : List (Option (Instr × Nat)) := [some (.aload_n 0, 1), some (.iconst 0, 1), some (.putfield 174, 3), none, none, some (.aload_n 0, 1), some (.iconst 0, 1), some (.putfield 135, 3), none, none, some (.aload_n 0, 1), some (.iconst 0, 1), some (.putfield 156, 3), none, none, some (.iconst 0, 1)]
def xt_66_4 : List (Option (Instr × Nat)) := [some (.istore_n 1, 1), some (.aload_n 0, 1), some (.getfield 29, 3), none, none, some (.iconst 0, 1), some (.iconst 0, 1), some (.iastore, 1), some (.aload_n 0, 1), some (.getfield 32, 3), none, none, some (.iconst 0, 1), some (.iconst 0, 1), some (.iastore, 1), some (.iload_n 1, 1)]
def xt_66_5 : List (Option (Instr × Nat)) := [some (.ifCond .lt 231, 3), none, none, some (.aload_n 0, 1), some (.getfield 29, 3), none, none, some (.iload_n 1, 1), some (.iaload, 1), some (.istore_n 2, 1), some (.aload_n 0, 1), some (.getfield 32, 3), none, none, some (.iload_n 1, 1), some (.iaload, 1)]
def xt_66_6 : List (Option (Instr × Nat)) := [some (.istore_n 3, 1), some (.iload_n 3, 1), some (.aload_n 0, 1), some (.getfield 13, 3), none, none, some (.iload_n 2, 1), some (.iaload, 1), some (.if_icmp .lt 9, 3), none, none, some (.iinc 1 (-1), 3), none, none, some (.goto (-31), 3), none]
def xt_66_7 : List (Option (Instr × Nat)) := [none, some (.aload_n 0, 1), some (.getfield 177, 3), none, none, some (.sipush 1000, 3), none, none, some (.if_icmp .ne 5, 3), none, none, some (.iconst 2, 1), some (.ireturn, 1), some (.iconst 5, 1), some (.bipush 30, 2), none]
def xt_66_8 : List (Option (Instr × Nat)) := [some (.iload_n 2, 1), some (.imul, 1), some (.iload_n 3, 1), some (.iadd, 1), some (.imul, 1), some (.istore 4, 2), none, some (.aload_n 0, 1), some (.getfield 7, 3), none, none, some (.iload 4, 2), none, some (.iaload, 1), some (.istore 5, 2), none]
def xt_66_9 : List (Option (Instr × Nat)) := [some (.iload 5, 2), none, some (.bipush 8, 2), none, some (.if_icmp .ne 13, 3), none, none, some (.iload_n 1, 1), some (.iconst 1, 1), some (.iadd, 1), some (.bipush 12, 2), none, some (.if_icmp .ne 5, 3), none, none, some (.iconst 3, 1)]
def xt_66_10 : List (Option (Instr × Nat)) := [some (.ireturn, 1), some (.aload_n 0, 1), some (.getfield 32, 3), none, none, some (.iload_n 1, 1), some (.iload_n 3, 1), some (.iconst 1, 1), some (.iadd, 1), some (.iastore, 1), some (.iload 5, 2), none, some (.iconst 5, 1), some (.if_icmp .ne 66, 3), none, none]
def xt_66_11 : List (Option (Instr × Nat)) := [some (.aload_n 0, 1), some (.iload_n 2, 1), some (.iload_n 3, 1), some (.aload_n 0, 1), some (.getfield 7, 3), none, none, some (.iload 4, 2), none, some (.iconst 1, 1), some (.iadd, 1), some (.iaload, 1), some (.invokevirtual 171, 3), none, none, some (.aload_n 0, 1)]
def xt_66_12 : List (Option (Instr × Nat)) := [some (.getfield 22, 3), none, none, some (.aload_n 0, 1), some (.getfield 7, 3), none, none, some (.iload 4, 2), none, some (.iconst 1, 1), some (.iadd, 1), some (.iaload, 1), some (.iaload, 1), some (.ifCond .ne 93, 3), none, none]
def xt_66_13 : List (Option (Instr × Nat)) := [some (.aload_n 0, 1), some (.getfield 32, 3), none, none, some (.iload_n 1, 1), some (.iload_n 3, 1), some (.iconst 1, 1), some (.iadd, 1), some (.aload_n 0, 1), some (.getfield 7, 3), none, none, some (.iload 4, 2), none, some (.iconst 2, 1), some (.iadd, 1)]
def xt_66_14 : List (Option (Instr × Nat)) := [some (.iaload, 1), some (.iadd, 1), some (.aload_n 0, 1), some (.getfield 13, 3), none, none, some (.iload_n 2, 1), some (.iaload, 1), some (.invokestatic 180, 3), none, none, some (.iastore, 1), some (.goto 62, 3), none, none, some (.iload 5, 2)]
def xt_66_15 : List (Option (Instr × Nat)) := [none, some (.bipush 8, 2), none, some (.if_icmp .ne 31, 3), none, none, some (.iinc 1 1, 3), none, none, some (.aload_n 0, 1), some (.getfield 29, 3), none, none, some (.iload_n 1, 1), some (.aload_n 0, 1), some (.getfield 7, 3)]
def xt_66_16 : List (Option (Instr × Nat)) := [none, none, some (.iload 4, 2), none, some (.iconst 1, 1), some (.iadd, 1), some (.iaload, 1), some (.iastore, 1), some (.aload_n 0, 1), some (.getfield 32, 3), none, none, some (.iload_n 1, 1), some (.iconst 0, 1), some (.iastore, 1), some (.goto 27, 3)]
def xt_66_17 : List (Option (Instr × Nat)) := [none, none, some (.iload 5, 2), none, some (.bipush 9, 2), none, some (.if_icmp .ne 9, 3), none, none, some (.iinc 1 (-1), 3), none, none, some (.goto 14, 3), none, none, some (.aload_n 0, 1)]
def xt_66_18 : List (Option (Instr × Nat)) := [some (.iload_n 2, 1), some (.iload_n 3, 1), some (.invokevirtual 184, 3), none, none, some (.ifCond .ne 5, 3), none, none, some (.iconst 1, 1), some (.ireturn, 1), some (.aload_n 0, 1), some (.dup, 1), some (.getfield 177, 3), none, none, some (.iconst 1, 1)]
def xt_66_19 : List (Option (Instr × Nat)) := [some (.iadd, 1), some (.putfield 177, 3), none, none, some (.goto (-229), 3), none, none, some (.iconst 0, 1), some (.ireturn, 1)]
/-- 66: X5_runs -/
def xt_66 : xM := ((yX5_runs, cX5_runs, 6, some .int, RX5, 0, 0), [xt_66_0, xt_66_1, xt_66_2, xt_66_3, xt_66_4, xt_66_5, xt_66_6, xt_66_7, xt_66_8, xt_66_9, xt_66_10, xt_66_11, xt_66_12, xt_66_13, xt_66_14, xt_66_15, xt_66_16, xt_66_17, xt_66_18, xt_66_19], [(22, 5, 6, 2), (25, 5, 7, 2), (177, 5, 10, 0), (141, 5, 11, 0), (144, 5, 12, 0), (147, 5, 13, 0), (174, 5, 14, 0), (135, 5, 18, 0), (156, 5, 21, 1), (29, 5, 8, 2), (32, 5, 9, 2), (13, 5, 1, 2), (7, 5, 0, 2)], [], [])
def xt_67_0 : List (Option (Instr × Nat)) := [some (.aload_n 0, 1), some (.iconst 0, 1), some (.putfield 132, 3), none, none, some (.aload_n 0, 1), some (.iconst (-1), 1), some (.putfield 150, 3), none, none, some (.aload_n 0, 1), some (.invokevirtual 187, 3), none, none, some (.istore_n 1, 1), some (.aload_n 0, 1)]
def xt_67_1 : List (Option (Instr × Nat)) := [some (.iconst 1, 1), some (.putfield 190, 3), none, none, some (.aload_n 0, 1), some (.aload_n 0, 1), some (.getfield 177, 3), none, none, some (.putfield 193, 3), none, none, some (.aload_n 0, 1), some (.aload_n 0, 1), some (.getfield 141, 3), none]
def xt_67_2 : List (Option (Instr × Nat)) := [none, some (.putfield 196, 3), none, none, some (.aload_n 0, 1), some (.aload_n 0, 1), some (.getfield 144, 3), none, none, some (.putfield 199, 3), none, none, some (.aload_n 0, 1), some (.aload_n 0, 1), some (.getfield 147, 3), none]
def xt_67_3 : List (Option (Instr × Nat)) := [none, some (.putfield 202, 3), none, none, some (.aload_n 0, 1), some (.aload_n 0, 1), some (.getfield 174, 3), none, none, some (.putfield 205, 3), none, none, some (.iconst 0, 1), some (.istore_n 2, 1), some (.iload_n 2, 1), some (.bipush 40, 2)]
def xt_67_4 : List (Option (Instr × Nat)) := [none, some (.if_icmp .ge 29, 3), none, none, some (.iload_n 2, 1), some (.aload_n 0, 1), some (.getfield 174, 3), none, none, some (.if_icmp .ge 21, 3), none, none, some (.aload_n 0, 1), some (.getfield 44, 3), none, none]
def xt_67_5 : List (Option (Instr × Nat)) := [some (.iload_n 2, 1), some (.aload_n 0, 1), some (.getfield 35, 3), none, none, some (.iload_n 2, 1), some (.iaload, 1), some (.iastore, 1), some (.iinc 2 1, 3), none, none, some (.goto (-29), 3), none, none, some (.iconst 0, 1), some (.istore_n 2, 1)]
def xt_67_6 : List (Option (Instr × Nat)) := [some (.iload_n 2, 1), some (.bipush 16, 2), none, some (.if_icmp .ge 33, 3), none, none, some (.aload_n 0, 1), some (.getfield 47, 3), none, none, some (.iload_n 2, 1), some (.aload_n 0, 1), some (.getfield 22, 3), none, none, some (.iload_n 2, 1)]
def xt_67_7 : List (Option (Instr × Nat)) := [some (.iaload, 1), some (.iastore, 1), some (.aload_n 0, 1), some (.getfield 50, 3), none, none, some (.iload_n 2, 1), some (.aload_n 0, 1), some (.getfield 25, 3), none, none, some (.iload_n 2, 1), some (.baload, 1), some (.bastore, 1), some (.iinc 2 1, 3), none]
def xt_67_8 : List (Option (Instr × Nat)) := [none, some (.goto (-33), 3), none, none, some (.iload_n 1, 1), some (.ireturn, 1)]
/-- 67: X5_run -/
def xt_67 : xM := ((yX5_run, cX5_run, 3, some .int, RX5, 1, 25), [xt_67_0, xt_67_1, xt_67_2, xt_67_3, xt_67_4, xt_67_5, xt_67_6, xt_67_7, xt_67_8], [(132, 5, 17, 0), (150, 5, 19, 0), (190, 5, 24, 1), (177, 5, 10, 0), (193, 5, 25, 0), (141, 5, 11, 0), (196, 5, 26, 0), (144, 5, 12, 0), (199, 5, 27, 0), (147, 5, 13, 0), (202, 5, 28, 0), (174, 5, 14, 0), (205, 5, 29, 0), (44, 5, 30, 2), (35, 5, 15, 2), (47, 5, 31, 2), (22, 5, 6, 2), (50, 5, 32, 2), (25, 5, 7, 2)], [(187, 66, 0, 0, 5)], [])
def xt_68_0 : List (Option (Instr × Nat)) := [some (.aload_n 0, 1), some (.getfield 190, 3), none, none, some (.ifCond .ne 5, 3), none, none, some (.iconst (-1), 1), some (.ireturn, 1), some (.iconst 0, 1), some (.istore_n 2, 1), some (.iload_n 1, 1), some (.tableswitch 98 0 5 #[40, 45, 50, 55, 60, 65], 40), none, none, none]
def xt_68_1 : List (Option (Instr × Nat)) := [none, none, none, none, none, none, none, none, none, none, none, none, none, none, none, none]
def xt_68_2 : List (Option (Instr × Nat)) := [none, none, none, none, none, none, none, none, none, none, none, none, none, none, none, none]
def xt_68_3 : List (Option (Instr × Nat)) := [none, none, none, none, some (.aload_n 0, 1), some (.getfield 193, 3), none, none, some (.ireturn, 1), some (.aload_n 0, 1), some (.getfield 196, 3), none, none, some (.ireturn, 1), some (.aload_n 0, 1), some (.getfield 199, 3)]
def xt_68_4 : List (Option (Instr × Nat)) := [none, none, some (.ireturn, 1), some (.aload_n 0, 1), some (.getfield 202, 3), none, none, some (.ireturn, 1), some (.aload_n 0, 1), some (.getfield 205, 3), none, none, some (.ireturn, 1), some (.iconst 0, 1), some (.istore_n 3, 1), some (.iload_n 3, 1)]
def xt_68_5 : List (Option (Instr × Nat)) := [some (.bipush 16, 2), none, some (.if_icmp .ge 26, 3), none, none, some (.iload_n 2, 1), some (.aload_n 0, 1), some (.getfield 50, 3), none, none, some (.iload_n 3, 1), some (.baload, 1), some (.ifCond .eq 7, 3), none, none, some (.iconst 1, 1)]
def xt_68_6 : List (Option (Instr × Nat)) := [some (.goto 4, 3), none, none, some (.iconst 0, 1), some (.iadd, 1), some (.istore_n 2, 1), some (.iinc 3 1, 3), none, none, some (.goto (-26), 3), none, none, some (.iload_n 2, 1), some (.ireturn, 1), some (.iconst (-1), 1), some (.ireturn, 1)]
/-- 68: X5_ran -/
def xt_68 : xM := ((yX5_ran, cX5_ran, 4, some .int, RX5, 0, 0), [xt_68_0, xt_68_1, xt_68_2, xt_68_3, xt_68_4, xt_68_5, xt_68_6], [(190, 5, 24, 1), (193, 5, 25, 0), (196, 5, 26, 0), (199, 5, 27, 0), (202, 5, 28, 0), (205, 5, 29, 0), (50, 5, 32, 2)], [], [])
def xt_69_0 : List (Option (Instr × Nat)) := [some (.aload_n 0, 1), some (.getfield 190, 3), none, none, some (.ifCond .eq 30, 3), none, none, some (.iload_n 1, 1), some (.iconst 0, 1), some (.bipush 39, 2), none, some (.invokestatic 101, 3), none, none, some (.ifCond .eq 20, 3), none]
def xt_69_1 : List (Option (Instr × Nat)) := [none, some (.iload_n 1, 1), some (.aload_n 0, 1), some (.getfield 205, 3), none, none, some (.if_icmp .ge 12, 3), none, none, some (.aload_n 0, 1), some (.getfield 44, 3), none, none, some (.iload_n 1, 1), some (.iaload, 1), some (.goto 4, 3)]
def xt_69_2 : List (Option (Instr × Nat)) := [none, none, some (.iconst (-1), 1), some (.ireturn, 1)]
/-- 69: X5_printed -/
def xt_69 : xM := ((yX5_printed, cX5_printed, 2, some .int, RX5, 1, 22), [xt_69_0, xt_69_1, xt_69_2], [(190, 5, 24, 1), (205, 5, 29, 0), (44, 5, 30, 2)], [(101, 55, 3, 1, 0)], [])
def xt_70_0 : List (Option (Instr × Nat)) := [some (.aload_n 0, 1), some (.getfield 190, 3), none, none, some (.ifCond .eq 10, 3), none, none, some (.iload_n 1, 1), some (.invokestatic 105, 3), none, none, some (.ifCond .ne 5, 3), none, none, some (.iconst (-1), 1), some (.ireturn, 1)]
def xt_70_1 : List (Option (Instr × Nat)) := [some (.iload_n 2, 1), some (.ifCond .ne 12, 3), none, none, some (.aload_n 0, 1), some (.getfield 47, 3), none, none, some (.iload_n 1, 1), some (.iaload, 1), some (.goto 26, 3), none, none, some (.iload_n 2, 1), some (.iconst 1, 1), some (.if_icmp .ne 20, 3)]
def xt_70_2 : List (Option (Instr × Nat)) := [none, none, some (.aload_n 0, 1), some (.getfield 50, 3), none, none, some (.iload_n 1, 1), some (.baload, 1), some (.ifCond .eq 7, 3), none, none, some (.iconst 1, 1), some (.goto 8, 3), none, none, some (.iconst 0, 1)]
def xt_70_3 : List (Option (Instr × Nat)) := [some (.goto 4, 3), none, none, some (.iconst (-1), 1), some (.ireturn, 1)]
/-- 70: X5_cell -/
def xt_70 : xM := ((yX5_cell, cX5_cell, 3, some .int, RX5, 2, 42), [xt_70_0, xt_70_1, xt_70_2, xt_70_3], [(190, 5, 24, 1), (47, 5, 31, 2), (50, 5, 32, 2)], [(105, 57, 1, 1, 0)], [])
def xt_71_0 : List (Option (Instr × Nat)) := [some (.iload_n 1, 1), some (.invokestatic 113, 3), none, none, some (.ifCond .eq 29, 3), none, none, some (.iload_n 2, 1), some (.iconst 0, 1), some (.aload_n 0, 1), some (.getfield 13, 3), none, none, some (.iload_n 1, 1), some (.iaload, 1), some (.iconst 1, 1)]
def xt_71_1 : List (Option (Instr × Nat)) := [some (.isub, 1), some (.invokestatic 101, 3), none, none, some (.ifCond .eq 13, 3), none, none, some (.iload_n 3, 1), some (.iconst 1, 1), some (.bipush 10, 2), none, some (.invokestatic 101, 3), none, none, some (.ifCond .ne 6, 3), none]
def xt_71_2 : List (Option (Instr × Nat)) := [none, some (.bipush (-2), 2), none, some (.ireturn, 1), some (.aload_n 0, 1), some (.iload_n 3, 1), some (.putfield 132, 3), none, none, some (.aload_n 0, 1), some (.iload_n 1, 1), some (.putfield 150, 3), none, none, some (.aload_n 0, 1), some (.iload_n 2, 1)]
def xt_71_3 : List (Option (Instr × Nat)) := [some (.putfield 153, 3), none, none, some (.aload_n 0, 1), some (.iconst 0, 1), some (.putfield 138, 3), none, none, some (.aload_n 0, 1), some (.getfield 138, 3), none, none, some (.iconst 1, 1), some (.iload_n 3, 1), some (.ishl, 1), some (.if_icmp .ge 33, 3)]
def xt_71_4 : List (Option (Instr × Nat)) := [none, none, some (.aload_n 0, 1), some (.invokevirtual 187, 3), none, none, some (.pop, 1), some (.aload_n 0, 1), some (.getfield 156, 3), none, none, some (.ifCond .eq 8, 3), none, none, some (.aload_n 0, 1), some (.getfield 138, 3)]
def xt_71_5 : List (Option (Instr × Nat)) := [none, none, some (.ireturn, 1), some (.aload_n 0, 1), some (.dup, 1), some (.getfield 138, 3), none, none, some (.iconst 1, 1), some (.iadd, 1), some (.putfield 138, 3), none, none, some (.goto (-37), 3), none, none]
def xt_71_6 : List (Option (Instr × Nat)) := [some (.iconst (-1), 1), some (.ireturn, 1)]
/-- 71: X5_witness -/
def xt_71 : xM := ((yX5_witness, cX5_witness, 4, some .int, RX5, 2, 42), [xt_71_0, xt_71_1, xt_71_2, xt_71_3, xt_71_4, xt_71_5, xt_71_6], [(13, 5, 1, 2), (132, 5, 17, 0), (150, 5, 19, 0), (153, 5, 20, 0), (138, 5, 16, 0), (156, 5, 21, 1)], [(113, 56, 1, 1, 0), (101, 55, 3, 1, 0), (187, 66, 0, 0, 5)], [])
def xt_72_0 : List (Option (Instr × Nat)) := [some (.bipush 31, 2), none, some (.iload_n 1, 1), some (.imul, 1), some (.iload_n 2, 1), some (.iadd, 1), some (.istore_n 3, 1), some (.aload_n 0, 1), some (.aload_n 0, 1), some (.getfield 208, 3), none, none, some (.ifCond .ne 52, 3), none, none, some (.aload_n 0, 1)]
def xt_72_1 : List (Option (Instr × Nat)) := [some (.getfield 53, 3), none, none, some (.iload_n 3, 1), some (.baload, 1), some (.ifCond .eq 43, 3), none, none, some (.aload_n 0, 1), some (.getfield 56, 3), none, none, some (.iload_n 3, 1), some (.iaload, 1), some (.aload_n 0, 1), some (.getfield 211, 3)]
def xt_72_2 : List (Option (Instr × Nat)) := [none, none, some (.ior, 1), some (.aload_n 0, 1), some (.getfield 56, 3), none, none, some (.iload_n 3, 1), some (.iaload, 1), some (.if_icmp .ne 23, 3), none, none, some (.aload_n 0, 1), some (.getfield 59, 3), none, none]
def xt_72_3 : List (Option (Instr × Nat)) := [some (.iload_n 3, 1), some (.iaload, 1), some (.aload_n 0, 1), some (.getfield 214, 3), none, none, some (.ior, 1), some (.aload_n 0, 1), some (.getfield 59, 3), none, none, some (.iload_n 3, 1), some (.iaload, 1), some (.if_icmp .eq 7, 3), none, none]
def xt_72_4 : List (Option (Instr × Nat)) := [some (.iconst 1, 1), some (.goto 4, 3), none, none, some (.iconst 0, 1), some (.putfield 208, 3), none, none, some (.aload_n 0, 1), some (.getfield 53, 3), none, none, some (.iload_n 3, 1), some (.iconst 1, 1), some (.bastore, 1), some (.aload_n 0, 1)]
def xt_72_5 : List (Option (Instr × Nat)) := [some (.getfield 56, 3), none, none, some (.iload_n 3, 1), some (.dup2, 1), some (.iaload, 1), some (.aload_n 0, 1), some (.getfield 211, 3), none, none, some (.ior, 1), some (.iastore, 1), some (.aload_n 0, 1), some (.getfield 59, 3), none, none]
def xt_72_6 : List (Option (Instr × Nat)) := [some (.iload_n 3, 1), some (.dup2, 1), some (.iaload, 1), some (.aload_n 0, 1), some (.getfield 214, 3), none, none, some (.ior, 1), some (.iastore, 1), some (.return_, 1)]
/-- 72: X5_goes -/
def xt_72 : xM := ((yX5_goes, cX5_goes, 4, none, RX5, 0, 0), [xt_72_0, xt_72_1, xt_72_2, xt_72_3, xt_72_4, xt_72_5, xt_72_6], [(208, 5, 40, 1), (53, 5, 33, 2), (56, 5, 34, 2), (211, 5, 41, 0), (59, 5, 35, 2), (214, 5, 42, 0)], [], [])
def xt_73_0 : List (Option (Instr × Nat)) := [some (.aload_n 0, 1), some (.getfield 211, 3), none, none, some (.istore_n 2, 1), some (.aload_n 0, 1), some (.getfield 214, 3), none, none, some (.istore_n 3, 1), some (.aload_n 0, 1), some (.getfield 74, 3), none, none, some (.iload_n 1, 1), some (.dup2, 1)]
def xt_73_1 : List (Option (Instr × Nat)) := [some (.iaload, 1), some (.aload_n 0, 1), some (.getfield 211, 3), none, none, some (.ior, 1), some (.iastore, 1), some (.aload_n 0, 1), some (.getfield 77, 3), none, none, some (.iload_n 1, 1), some (.dup2, 1), some (.iaload, 1), some (.aload_n 0, 1), some (.getfield 214, 3)]
def xt_73_2 : List (Option (Instr × Nat)) := [none, none, some (.ior, 1), some (.iastore, 1), some (.aload_n 0, 1), some (.dup, 1), some (.getfield 211, 3), none, none, some (.aload_n 0, 1), some (.getfield 71, 3), none, none, some (.iload_n 1, 1), some (.iaload, 1), some (.ior, 1)]
def xt_73_3 : List (Option (Instr × Nat)) := [some (.putfield 211, 3), none, none, some (.aload_n 0, 1), some (.dup, 1), some (.getfield 214, 3), none, none, some (.ldc 217, 2), none, some (.aload_n 0, 1), some (.getfield 71, 3), none, none, some (.iload_n 1, 1), some (.iaload, 1)]
def xt_73_4 : List (Option (Instr × Nat)) := [some (.ixor, 1), some (.iand, 1), some (.putfield 214, 3), none, none, some (.aload_n 0, 1), some (.iload_n 1, 1), some (.iconst 0, 1), some (.invokevirtual 218, 3), none, none, some (.aload_n 0, 1), some (.iload_n 2, 1), some (.putfield 211, 3), none, none]
def xt_73_5 : List (Option (Instr × Nat)) := [some (.aload_n 0, 1), some (.iload_n 3, 1), some (.putfield 214, 3), none, none, some (.return_, 1)]
/-- 73: X5_begins -/
def xt_73 : xM := ((yX5_begins, cX5_begins, 4, none, RX5, 1, 23), [xt_73_0, xt_73_1, xt_73_2, xt_73_3, xt_73_4, xt_73_5], [(211, 5, 41, 0), (214, 5, 42, 0), (74, 5, 43, 2), (77, 5, 44, 2), (71, 5, 39, 2)], [(218, 72, 2, 0, 5)], [(217, 65535)])
def xt_74_0 : List (Option (Instr × Nat)) := [some (.aload_n 0, 1), some (.aload_n 0, 1), some (.getfield 208, 3), none, none, some (.ifCond .ne 52, 3), none, none, some (.aload_n 0, 1), some (.getfield 62, 3), none, none, some (.iload_n 1, 1), some (.baload, 1), some (.ifCond .eq 43, 3), none]
def xt_74_1 : List (Option (Instr × Nat)) := [none, some (.aload_n 0, 1), some (.getfield 65, 3), none, none, some (.iload_n 1, 1), some (.iaload, 1), some (.aload_n 0, 1), some (.getfield 211, 3), none, none, some (.ior, 1), some (.aload_n 0, 1), some (.getfield 65, 3), none, none]
def xt_74_2 : List (Option (Instr × Nat)) := [some (.iload_n 1, 1), some (.iaload, 1), some (.if_icmp .ne 23, 3), none, none, some (.aload_n 0, 1), some (.getfield 68, 3), none, none, some (.iload_n 1, 1), some (.iaload, 1), some (.aload_n 0, 1), some (.getfield 214, 3), none, none, some (.ior, 1)]
def xt_74_3 : List (Option (Instr × Nat)) := [some (.aload_n 0, 1), some (.getfield 68, 3), none, none, some (.iload_n 1, 1), some (.iaload, 1), some (.if_icmp .eq 7, 3), none, none, some (.iconst 1, 1), some (.goto 4, 3), none, none, some (.iconst 0, 1), some (.putfield 208, 3), none]
def xt_74_4 : List (Option (Instr × Nat)) := [none, some (.aload_n 0, 1), some (.getfield 62, 3), none, none, some (.iload_n 1, 1), some (.iconst 1, 1), some (.bastore, 1), some (.aload_n 0, 1), some (.getfield 65, 3), none, none, some (.iload_n 1, 1), some (.dup2, 1), some (.iaload, 1), some (.aload_n 0, 1)]
def xt_74_5 : List (Option (Instr × Nat)) := [some (.getfield 211, 3), none, none, some (.ior, 1), some (.iastore, 1), some (.aload_n 0, 1), some (.getfield 68, 3), none, none, some (.iload_n 1, 1), some (.dup2, 1), some (.iaload, 1), some (.aload_n 0, 1), some (.getfield 214, 3), none, none]
def xt_74_6 : List (Option (Instr × Nat)) := [some (.ior, 1), some (.iastore, 1), some (.return_, 1)]
/-- 74: X5_returns -/
def xt_74 : xM := ((yX5_returns, cX5_returns, 2, none, RX5, 0, 0), [xt_74_0, xt_74_1, xt_74_2, xt_74_3, xt_74_4, xt_74_5, xt_74_6], [(208, 5, 40, 1), (62, 5, 36, 2), (65, 5, 37, 2), (211, 5, 41, 0), (68, 5, 38, 2), (214, 5, 42, 0)], [], [])
def xt_75_0 : List (Option (Instr × Nat)) := [some (.iconst 0, 1), some (.istore 4, 2), none, some (.iload 4, 2), none, some (.sipush 186, 3), none, none, some (.if_icmp .ge 33, 3), none, none, some (.aload_n 0, 1), some (.getfield 53, 3), none, none, some (.iload 4, 2)]
def xt_75_1 : List (Option (Instr × Nat)) := [none, some (.iconst 0, 1), some (.bastore, 1), some (.aload_n 0, 1), some (.getfield 56, 3), none, none, some (.iload 4, 2), none, some (.iconst 0, 1), some (.iastore, 1), some (.aload_n 0, 1), some (.getfield 59, 3), none, none, some (.iload 4, 2)]
def xt_75_2 : List (Option (Instr × Nat)) := [none, some (.iconst 0, 1), some (.iastore, 1), some (.iinc 4 1, 3), none, none, some (.goto (-35), 3), none, none, some (.iconst 0, 1), some (.istore 4, 2), none, some (.iload 4, 2), none, some (.bipush 6, 2), none]
def xt_75_3 : List (Option (Instr × Nat)) := [some (.if_icmp .ge 49, 3), none, none, some (.aload_n 0, 1), some (.getfield 62, 3), none, none, some (.iload 4, 2), none, some (.iconst 0, 1), some (.bastore, 1), some (.aload_n 0, 1), some (.getfield 65, 3), none, none, some (.iload 4, 2)]
def xt_75_4 : List (Option (Instr × Nat)) := [none, some (.iconst 0, 1), some (.iastore, 1), some (.aload_n 0, 1), some (.getfield 68, 3), none, none, some (.iload 4, 2), none, some (.iconst 0, 1), some (.iastore, 1), some (.aload_n 0, 1), some (.getfield 74, 3), none, none, some (.iload 4, 2)]
def xt_75_5 : List (Option (Instr × Nat)) := [none, some (.iconst 0, 1), some (.iastore, 1), some (.aload_n 0, 1), some (.getfield 77, 3), none, none, some (.iload 4, 2), none, some (.iconst 0, 1), some (.iastore, 1), some (.iinc 4 1, 3), none, none, some (.goto (-50), 3), none]
def xt_75_6 : List (Option (Instr × Nat)) := [none, some (.aload_n 0, 1), some (.iload_n 2, 1), some (.putfield 211, 3), none, none, some (.aload_n 0, 1), some (.iload_n 3, 1), some (.putfield 214, 3), none, none, some (.aload_n 0, 1), some (.iload_n 1, 1), some (.invokevirtual 236, 3), none, none]
def xt_75_7 : List (Option (Instr × Nat)) := [some (.aload_n 0, 1), some (.iconst 1, 1), some (.putfield 208, 3), none, none, some (.aload_n 0, 1), some (.getfield 208, 3), none, none, some (.ifCond .eq 135, 3), none, none, some (.aload_n 0, 1), some (.iconst 0, 1), some (.putfield 208, 3), none]
def xt_75_8 : List (Option (Instr × Nat)) := [none, some (.iconst 0, 1), some (.istore 4, 2), none, some (.iload 4, 2), none, some (.bipush 6, 2), none, some (.if_icmp .ge 117, 3), none, none, some (.iconst 0, 1), some (.istore 5, 2), none, some (.iload 5, 2), none]
def xt_75_9 : List (Option (Instr × Nat)) := [some (.aload_n 0, 1), some (.getfield 13, 3), none, none, some (.iload 4, 2), none, some (.iaload, 1), some (.if_icmp .gt 96, 3), none, none, some (.bipush 31, 2), none, some (.iload 4, 2), none, some (.imul, 1), some (.iload 5, 2)]
def xt_75_10 : List (Option (Instr × Nat)) := [none, some (.iadd, 1), some (.istore 6, 2), none, some (.aload_n 0, 1), some (.getfield 53, 3), none, none, some (.iload 6, 2), none, some (.baload, 1), some (.ifCond .ne 6, 3), none, none, some (.goto 67, 3), none]
def xt_75_11 : List (Option (Instr × Nat)) := [none, some (.aload_n 0, 1), some (.aload_n 0, 1), some (.getfield 56, 3), none, none, some (.iload 6, 2), none, some (.iaload, 1), some (.putfield 211, 3), none, none, some (.aload_n 0, 1), some (.aload_n 0, 1), some (.getfield 59, 3), none]
def xt_75_12 : List (Option (Instr × Nat)) := [none, some (.iload 6, 2), none, some (.iaload, 1), some (.putfield 214, 3), none, none, some (.iload 5, 2), none, some (.aload_n 0, 1), some (.getfield 13, 3), none, none, some (.iload 4, 2), none, some (.iaload, 1)]
def xt_75_13 : List (Option (Instr × Nat)) := [some (.if_icmp .ne 12, 3), none, none, some (.aload_n 0, 1), some (.iload 4, 2), none, some (.invokevirtual 232, 3), none, none, some (.goto 24, 3), none, none, some (.aload_n 0, 1), some (.iload 4, 2), none, some (.iload 5, 2)]
def xt_75_14 : List (Option (Instr × Nat)) := [none, some (.invokevirtual 239, 3), none, none, some (.ifCond .eq 13, 3), none, none, some (.aload_n 0, 1), some (.iload 4, 2), none, some (.iload 5, 2), none, some (.iconst 1, 1), some (.iadd, 1), some (.invokevirtual 218, 3), none]
def xt_75_15 : List (Option (Instr × Nat)) := [none, some (.iinc 5 1, 3), none, none, some (.goto (-102), 3), none, none, some (.iinc 4 1, 3), none, none, some (.goto (-118), 3), none, none, some (.goto (-136), 3), none, none]
def xt_75_16 : List (Option (Instr × Nat)) := [some (.return_, 1)]
/-- 75: X5_flows -/
def xt_75 : xM := ((yX5_flows, cX5_flows, 7, none, RX5, 2, 46), [xt_75_0, xt_75_1, xt_75_2, xt_75_3, xt_75_4, xt_75_5, xt_75_6, xt_75_7, xt_75_8, xt_75_9, xt_75_10, xt_75_11, xt_75_12, xt_75_13, xt_75_14, xt_75_15, xt_75_16], [(53, 5, 33, 2), (56, 5, 34, 2), (59, 5, 35, 2), (62, 5, 36, 2), (65, 5, 37, 2), (68, 5, 38, 2), (74, 5, 43, 2), (77, 5, 44, 2), (211, 5, 41, 0), (214, 5, 42, 0), (208, 5, 40, 1), (13, 5, 1, 2)], [(236, 73, 1, 0, 5), (232, 74, 1, 0, 5), (218, 72, 2, 0, 5)], [])
def xt_76_0 : List (Option (Instr × Nat)) := [some (.iload_n 0, 1), some (.iload_n 1, 1), some (.iand, 1), some (.ifCond .eq 7, 3), none, none, some (.iconst 1, 1), some (.goto 4, 3), none, none, some (.iconst 0, 1), some (.ireturn, 1)]
/-- 76: X5_has -/
def xt_76 : xM := ((yX5_has, cX5_has, 2, some .boolean, RX5, 0, 0), [xt_76_0], [], [], [])
def xt_77_0 : List (Option (Instr × Nat)) := [some (.iconst 0, 1), some (.istore_n 1, 1), some (.iconst 0, 1), some (.istore_n 2, 1), some (.iload_n 2, 1), some (.bipush 6, 2), none, some (.if_icmp .ge 44, 3), none, none, some (.iconst 0, 1), some (.istore_n 3, 1), some (.iload_n 3, 1), some (.aload_n 0, 1), some (.getfield 13, 3), none]
def xt_77_1 : List (Option (Instr × Nat)) := [none, some (.iload_n 2, 1), some (.iaload, 1), some (.if_icmp .ge 26, 3), none, none, some (.iload_n 1, 1), some (.aload_n 0, 1), some (.iload_n 2, 1), some (.iload_n 3, 1), some (.invokevirtual 245, 3), none, none, some (.ifCond .eq 7, 3), none, none]
def xt_77_2 : List (Option (Instr × Nat)) := [some (.iconst 1, 1), some (.goto 4, 3), none, none, some (.iconst 0, 1), some (.iadd, 1), some (.istore_n 1, 1), some (.iinc 3 1, 3), none, none, some (.goto (-30), 3), none, none, some (.iinc 2 1, 3), none, none]
def xt_77_3 : List (Option (Instr × Nat)) := [some (.goto (-44), 3), none, none, some (.iload_n 1, 1), some (.ireturn, 1)]
/-- 77: X5_badMany -/
def xt_77 : xM := ((yX5_badMany, cX5_badMany, 4, some .int, RX5, 0, 0), [xt_77_0, xt_77_1, xt_77_2, xt_77_3], [(13, 5, 1, 2)], [], [])
def xt_78_0 : List (Option (Instr × Nat)) := [some (.iconst 0, 1), some (.istore_n 1, 1), some (.iload_n 1, 1), some (.bipush 6, 2), none, some (.if_icmp .ge 16, 3), none, none, some (.aload_n 0, 1), some (.getfield 71, 3), none, none, some (.iload_n 1, 1), some (.iconst 0, 1), some (.iastore, 1), some (.iinc 1 1, 3)]
def xt_78_1 : List (Option (Instr × Nat)) := [none, none, some (.goto (-16), 3), none, none, some (.return_, 1)]
/-- 78: X5_unmends -/
def xt_78 : xM := ((yX5_unmends, cX5_unmends, 2, none, RX5, 0, 0), [xt_78_0, xt_78_1], [(71, 5, 39, 2)], [], [])
def xt_79_0 : List (Option (Instr × Nat)) := [some (.aload_n 0, 1), some (.invokevirtual 248, 3), none, none, some (.aload_n 0, 1), some (.iconst 0, 1), some (.iconst 0, 1), some (.ldc 217, 2), none, some (.invokevirtual 251, 3), none, none, some (.return_, 1)]
/-- 79: X5_flowsPlain -/
def xt_79 : xM := ((yX5_flowsPlain, cX5_flowsPlain, 1, none, RX5, 3, 72), [xt_79_0], [], [(248, 78, 0, 0, 5), (251, 75, 3, 0, 5)], [(217, 65535)])
def xt_80_0 : List (Option (Instr × Nat)) := [some (.aload_n 0, 1), some (.invokevirtual 254, 3), none, none, some (.aload_n 0, 1), some (.invokevirtual 257, 3), none, none, some (.ireturn, 1)]
/-- 80: X5_flow -/
def xt_80 : xM := ((yX5_flow, cX5_flow, 1, some .int, RX5, 4, 92), [xt_80_0], [], [(254, 79, 0, 0, 5), (257, 77, 0, 0, 5)], [])
def xt_81_0 : List (Option (Instr × Nat)) := [some (.aload_n 0, 1), some (.invokevirtual 254, 3), none, none, some (.iconst 0, 1), some (.istore_n 3, 1), some (.iconst 0, 1), some (.istore 4, 2), none, some (.iload 4, 2), none, some (.bipush 6, 2), none, some (.if_icmp .ge 131, 3), none, none]
def xt_81_1 : List (Option (Instr × Nat)) := [some (.iconst 0, 1), some (.istore 5, 2), none, some (.iload 5, 2), none, some (.aload_n 0, 1), some (.getfield 13, 3), none, none, some (.iload 4, 2), none, some (.iaload, 1), some (.if_icmp .ge 110, 3), none, none, some (.aload_n 0, 1)]
def xt_81_2 : List (Option (Instr × Nat)) := [some (.iload 4, 2), none, some (.iload 5, 2), none, some (.invokevirtual 245, 3), none, none, some (.ifCond .ne 6, 3), none, none, some (.goto 90, 3), none, none, some (.iload_n 3, 1), some (.iload_n 1, 1), some (.if_icmp .ne 82, 3)]
def xt_81_3 : List (Option (Instr × Nat)) := [none, none, some (.iload_n 2, 1), some (.ifCond .ne 8, 3), none, none, some (.iload 4, 2), none, some (.goto 72, 3), none, none, some (.iload_n 2, 1), some (.iconst 1, 1), some (.if_icmp .ne 8, 3), none, none]
def xt_81_4 : List (Option (Instr × Nat)) := [some (.iload 5, 2), none, some (.goto 62, 3), none, none, some (.iload_n 2, 1), some (.iconst 2, 1), some (.if_icmp .ne 14, 3), none, none, some (.aload_n 0, 1), some (.iload 4, 2), none, some (.iload 5, 2), none, some (.invokevirtual 242, 3)]
def xt_81_5 : List (Option (Instr × Nat)) := [none, none, some (.goto 46, 3), none, none, some (.iload_n 2, 1), some (.iconst 3, 1), some (.if_icmp .ne 40, 3), none, none, some (.aload_n 0, 1), some (.getfield 56, 3), none, none, some (.bipush 31, 2), none]
def xt_81_6 : List (Option (Instr × Nat)) := [some (.iload 4, 2), none, some (.imul, 1), some (.iload 5, 2), none, some (.iadd, 1), some (.iaload, 1), some (.iconst 1, 1), some (.aload_n 0, 1), some (.iload 4, 2), none, some (.iload 5, 2), none, some (.invokevirtual 242, 3), none, none]
def xt_81_7 : List (Option (Instr × Nat)) := [some (.ishl, 1), some (.invokestatic 229, 3), none, none, some (.ifCond .eq 7, 3), none, none, some (.iconst 2, 1), some (.goto 8, 3), none, none, some (.iconst 1, 1), some (.goto 4, 3), none, none, some (.iconst (-1), 1)]
def xt_81_8 : List (Option (Instr × Nat)) := [some (.ireturn, 1), some (.iinc 3 1, 3), none, none, some (.iinc 5 1, 3), none, none, some (.goto (-116), 3), none, none, some (.iinc 4 1, 3), none, none, some (.goto (-132), 3), none, none]
def xt_81_9 : List (Option (Instr × Nat)) := [some (.iconst (-1), 1), some (.ireturn, 1)]
/-- 81: X5_bad -/
def xt_81 : xM := ((yX5_bad, cX5_bad, 6, some .int, RX5, 4, 92), [xt_81_0, xt_81_1, xt_81_2, xt_81_3, xt_81_4, xt_81_5, xt_81_6, xt_81_7, xt_81_8, xt_81_9], [(13, 5, 1, 2), (56, 5, 34, 2)], [(254, 79, 0, 0, 5), (229, 76, 2, 1, 0)], [])
def xt_82_0 : List (Option (Instr × Nat)) := [some (.iload_n 1, 1), some (.invokestatic 113, 3), none, none, some (.ifCond .eq 24, 3), none, none, some (.iload_n 2, 1), some (.iconst 0, 1), some (.aload_n 0, 1), some (.getfield 13, 3), none, none, some (.iload_n 1, 1), some (.iaload, 1), some (.invokestatic 101, 3)]
def xt_82_1 : List (Option (Instr × Nat)) := [none, none, some (.ifCond .eq 10, 3), none, none, some (.iload_n 3, 1), some (.invokestatic 105, 3), none, none, some (.ifCond .ne 5, 3), none, none, some (.iconst (-1), 1), some (.ireturn, 1), some (.aload_n 0, 1), some (.invokevirtual 254, 3)]
def xt_82_2 : List (Option (Instr × Nat)) := [none, none, some (.bipush 31, 2), none, some (.iload_n 1, 1), some (.imul, 1), some (.iload_n 2, 1), some (.iadd, 1), some (.istore 4, 2), none, some (.aload_n 0, 1), some (.getfield 53, 3), none, none, some (.iload 4, 2), none]
def xt_82_3 : List (Option (Instr × Nat)) := [some (.baload, 1), some (.ifCond .ne 7, 3), none, none, some (.iconst 0, 1), some (.goto 46, 3), none, none, some (.aload_n 0, 1), some (.getfield 56, 3), none, none, some (.iload 4, 2), none, some (.iaload, 1), some (.iconst 1, 1)]
def xt_82_4 : List (Option (Instr × Nat)) := [some (.iload_n 3, 1), some (.ishl, 1), some (.invokestatic 229, 3), none, none, some (.ifCond .eq 7, 3), none, none, some (.iconst 1, 1), some (.goto 4, 3), none, none, some (.iconst 0, 1), some (.aload_n 0, 1), some (.getfield 59, 3), none]
def xt_82_5 : List (Option (Instr × Nat)) := [none, some (.iload 4, 2), none, some (.iaload, 1), some (.iconst 1, 1), some (.iload_n 3, 1), some (.ishl, 1), some (.invokestatic 229, 3), none, none, some (.ifCond .eq 7, 3), none, none, some (.iconst 2, 1), some (.goto 4, 3), none]
def xt_82_6 : List (Option (Instr × Nat)) := [none, some (.iconst 0, 1), some (.iadd, 1), some (.ireturn, 1)]
/-- 82: X5_state -/
def xt_82 : xM := ((yX5_state, cX5_state, 5, some .int, RX5, 4, 92), [xt_82_0, xt_82_1, xt_82_2, xt_82_3, xt_82_4, xt_82_5, xt_82_6], [(13, 5, 1, 2), (53, 5, 33, 2), (56, 5, 34, 2), (59, 5, 35, 2)], [(113, 56, 1, 1, 0), (101, 55, 3, 1, 0), (105, 57, 1, 1, 0), (254, 79, 0, 0, 5), (229, 76, 2, 1, 0)], [])
def xt_83_0 : List (Option (Instr × Nat)) := [some (.iload_n 1, 1), some (.invokestatic 113, 3), none, none, some (.ifCond .ne 5, 3), none, none, some (.iconst (-1), 1), some (.ireturn, 1), some (.aload_n 0, 1), some (.invokevirtual 248, 3), none, none, some (.aload_n 0, 1), some (.iload_n 1, 1), some (.ldc 217, 2)]
def xt_83_1 : List (Option (Instr × Nat)) := [none, some (.iconst 0, 1), some (.invokevirtual 251, 3), none, none, some (.iconst 0, 1), some (.istore_n 2, 1), some (.iload_n 2, 1), some (.bipush 6, 2), none, some (.if_icmp .ge 44, 3), none, none, some (.iconst 0, 1), some (.istore_n 3, 1), some (.iload_n 3, 1)]
def xt_83_2 : List (Option (Instr × Nat)) := [some (.aload_n 0, 1), some (.getfield 13, 3), none, none, some (.iload_n 2, 1), some (.iaload, 1), some (.if_icmp .ge 26, 3), none, none, some (.aload_n 0, 1), some (.getfield 80, 3), none, none, some (.bipush 31, 2), none, some (.iload_n 2, 1)]
def xt_83_3 : List (Option (Instr × Nat)) := [some (.imul, 1), some (.iload_n 3, 1), some (.iadd, 1), some (.aload_n 0, 1), some (.iload_n 2, 1), some (.iload_n 3, 1), some (.invokevirtual 260, 3), none, none, some (.iastore, 1), some (.iinc 3 1, 3), none, none, some (.goto (-30), 3), none, none]
def xt_83_4 : List (Option (Instr × Nat)) := [some (.iinc 2 1, 3), none, none, some (.goto (-44), 3), none, none, some (.iconst 0, 1), some (.istore_n 2, 1), some (.iconst 0, 1), some (.istore_n 3, 1), some (.iload_n 3, 1), some (.bipush 16, 2), none, some (.if_icmp .ge 114, 3), none, none]
def xt_83_5 : List (Option (Instr × Nat)) := [some (.aload_n 0, 1), some (.iload_n 1, 1), some (.ldc 217, 2), none, some (.iconst 1, 1), some (.iload_n 3, 1), some (.ishl, 1), some (.ixor, 1), some (.iconst 1, 1), some (.iload_n 3, 1), some (.ishl, 1), some (.invokevirtual 251, 3), none, none, some (.iconst 1, 1), some (.istore 4, 2)]
def xt_83_6 : List (Option (Instr × Nat)) := [none, some (.iconst 0, 1), some (.istore 5, 2), none, some (.iload 5, 2), none, some (.bipush 6, 2), none, some (.if_icmp .ge 66, 3), none, none, some (.iconst 0, 1), some (.istore 6, 2), none, some (.iload 6, 2), none]
def xt_83_7 : List (Option (Instr × Nat)) := [some (.aload_n 0, 1), some (.getfield 13, 3), none, none, some (.iload 5, 2), none, some (.iaload, 1), some (.if_icmp .ge 45, 3), none, none, some (.iload 4, 2), none, some (.ifCond .eq 31, 3), none, none, some (.aload_n 0, 1)]
def xt_83_8 : List (Option (Instr × Nat)) := [some (.getfield 80, 3), none, none, some (.bipush 31, 2), none, some (.iload 5, 2), none, some (.imul, 1), some (.iload 6, 2), none, some (.iadd, 1), some (.iaload, 1), some (.aload_n 0, 1), some (.iload 5, 2), none, some (.iload 6, 2)]
def xt_83_9 : List (Option (Instr × Nat)) := [none, some (.invokevirtual 260, 3), none, none, some (.if_icmp .ne 7, 3), none, none, some (.iconst 1, 1), some (.goto 4, 3), none, none, some (.iconst 0, 1), some (.istore 4, 2), none, some (.iinc 6 1, 3), none]
def xt_83_10 : List (Option (Instr × Nat)) := [none, some (.goto (-51), 3), none, none, some (.iinc 5 1, 3), none, none, some (.goto (-67), 3), none, none, some (.iload_n 2, 1), some (.iload 4, 2), none, some (.ifCond .eq 7, 3), none, none]
def xt_83_11 : List (Option (Instr × Nat)) := [some (.iconst 0, 1), some (.goto 6, 3), none, none, some (.iconst 1, 1), some (.iload_n 3, 1), some (.ishl, 1), some (.ior, 1), some (.istore_n 2, 1), some (.iinc 3 1, 3), none, none, some (.goto (-114), 3), none, none, some (.iload_n 2, 1)]
def xt_83_12 : List (Option (Instr × Nat)) := [some (.ireturn, 1)]
/-- 83: X5_needs -/
def xt_83 : xM := ((yX5_needs, cX5_needs, 7, some .int, RX5, 3, 72), [xt_83_0, xt_83_1, xt_83_2, xt_83_3, xt_83_4, xt_83_5, xt_83_6, xt_83_7, xt_83_8, xt_83_9, xt_83_10, xt_83_11, xt_83_12], [(13, 5, 1, 2), (80, 5, 45, 2)], [(113, 56, 1, 1, 0), (248, 78, 0, 0, 5), (251, 75, 3, 0, 5)], [(217, 65535)])
def xt_84_0 : List (Option (Instr × Nat)) := [some (.iload_n 1, 1), some (.invokestatic 113, 3), none, none, some (.ifCond .ne 5, 3), none, none, some (.iconst (-1), 1), some (.ireturn, 1), some (.aload_n 0, 1), some (.invokevirtual 248, 3), none, none, some (.aload_n 0, 1), some (.iload_n 1, 1), some (.iconst 0, 1)]
def xt_84_1 : List (Option (Instr × Nat)) := [some (.ldc 217, 2), none, some (.invokevirtual 251, 3), none, none, some (.aload_n 0, 1), some (.getfield 62, 3), none, none, some (.iload_n 1, 1), some (.baload, 1), some (.ifCond .eq 22, 3), none, none, some (.aload_n 0, 1), some (.getfield 65, 3)]
def xt_84_2 : List (Option (Instr × Nat)) := [none, none, some (.iload_n 1, 1), some (.iaload, 1), some (.ldc 217, 2), none, some (.aload_n 0, 1), some (.getfield 68, 3), none, none, some (.iload_n 1, 1), some (.iaload, 1), some (.ixor, 1), some (.iand, 1), some (.goto 4, 3), none]
def xt_84_3 : List (Option (Instr × Nat)) := [none, some (.iconst 0, 1), some (.ireturn, 1)]
/-- 84: X5_writes -/
def xt_84 : xM := ((yX5_writes, cX5_writes, 2, some .int, RX5, 3, 72), [xt_84_0, xt_84_1, xt_84_2, xt_84_3], [(62, 5, 36, 2), (65, 5, 37, 2), (68, 5, 38, 2)], [(113, 56, 1, 1, 0), (248, 78, 0, 0, 5), (251, 75, 3, 0, 5)], [(217, 65535)])
def xt_85_0 : List (Option (Instr × Nat)) := [some (.iload_n 1, 1), some (.invokestatic 113, 3), none, none, some (.ifCond .eq 13, 3), none, none, some (.iload_n 2, 1), some (.iconst 1, 1), some (.bipush 99, 2), none, some (.invokestatic 101, 3), none, none, some (.ifCond .ne 5, 3), none]
def xt_85_1 : List (Option (Instr × Nat)) := [none, some (.iconst (-1), 1), some (.ireturn, 1), some (.aload_n 0, 1), some (.getfield 16, 3), none, none, some (.iload_n 1, 1), some (.iaload, 1), some (.istore_n 3, 1), some (.aload_n 0, 1), some (.getfield 16, 3), none, none, some (.iload_n 1, 1), some (.iload_n 2, 1)]
def xt_85_2 : List (Option (Instr × Nat)) := [some (.iastore, 1), some (.iload_n 3, 1), some (.ireturn, 1)]
/-- 85: X5_cost -/
def xt_85 : xM := ((yX5_cost, cX5_cost, 4, some .int, RX5, 2, 42), [xt_85_0, xt_85_1, xt_85_2], [(16, 5, 2, 2)], [(113, 56, 1, 1, 0), (101, 55, 3, 1, 0)], [])
def xt_86_0 : List (Option (Instr × Nat)) := [some (.aload_n 0, 1), some (.invokevirtual 254, 3), none, none, some (.aload_n 0, 1), some (.invokevirtual 257, 3), none, none, some (.istore_n 1, 1), some (.iload_n 1, 1), some (.ifCond .le 13, 3), none, none, some (.aload_n 0, 1), some (.invokevirtual 282, 3), none]
def xt_86_1 : List (Option (Instr × Nat)) := [none, some (.ifCond .ne 6, 3), none, none, some (.bipush (-2), 2), none, some (.ireturn, 1), some (.iload_n 1, 1), some (.ifCond .ne 8, 3), none, none, some (.aload_n 0, 1), some (.iconst 0, 1), some (.putfield 276, 3), none, none]
def xt_86_2 : List (Option (Instr × Nat)) := [some (.ldc_w 286, 3), none, none, some (.istore_n 2, 1), some (.iconst 0, 1), some (.istore_n 3, 1), some (.iconst 0, 1), some (.istore 4, 2), none, some (.iload 4, 2), none, some (.iconst 1, 1), some (.aload_n 0, 1), some (.getfield 276, 3), none, none]
def xt_86_3 : List (Option (Instr × Nat)) := [some (.ishl, 1), some (.if_icmp .ge 121, 3), none, none, some (.iconst 0, 1), some (.istore 5, 2), none, some (.aload_n 0, 1), some (.invokevirtual 248, 3), none, none, some (.iconst 0, 1), some (.istore 6, 2), none, some (.iload 6, 2), none]
def xt_86_4 : List (Option (Instr × Nat)) := [some (.aload_n 0, 1), some (.getfield 276, 3), none, none, some (.if_icmp .ge 63, 3), none, none, some (.iload 4, 2), none, some (.iload 6, 2), none, some (.ishr, 1), some (.iconst 1, 1), some (.iand, 1), some (.ifCond .ne 6, 3), none]
def xt_86_5 : List (Option (Instr × Nat)) := [none, some (.goto 44, 3), none, none, some (.iload 5, 2), none, some (.aload_n 0, 1), some (.getfield 16, 3), none, none, some (.aload_n 0, 1), some (.getfield 83, 3), none, none, some (.iload 6, 2), none]
def xt_86_6 : List (Option (Instr × Nat)) := [some (.iaload, 1), some (.iaload, 1), some (.iadd, 1), some (.istore 5, 2), none, some (.aload_n 0, 1), some (.getfield 71, 3), none, none, some (.aload_n 0, 1), some (.getfield 83, 3), none, none, some (.iload 6, 2), none, some (.iaload, 1)]
def xt_86_7 : List (Option (Instr × Nat)) := [some (.dup2, 1), some (.iaload, 1), some (.iconst 1, 1), some (.aload_n 0, 1), some (.getfield 86, 3), none, none, some (.iload 6, 2), none, some (.iaload, 1), some (.ishl, 1), some (.ior, 1), some (.iastore, 1), some (.iinc 6 1, 3), none, none]
def xt_86_8 : List (Option (Instr × Nat)) := [some (.goto (-66), 3), none, none, some (.iload 5, 2), none, some (.iload_n 2, 1), some (.if_icmp .lt 6, 3), none, none, some (.goto 27, 3), none, none, some (.aload_n 0, 1), some (.iconst 0, 1), some (.iconst 0, 1), some (.ldc 217, 2)]
def xt_86_9 : List (Option (Instr × Nat)) := [none, some (.invokevirtual 251, 3), none, none, some (.aload_n 0, 1), some (.invokevirtual 257, 3), none, none, some (.ifCond .le 6, 3), none, none, some (.goto 9, 3), none, none, some (.iload 5, 2), none]
def xt_86_10 : List (Option (Instr × Nat)) := [some (.istore_n 2, 1), some (.iload 4, 2), none, some (.istore_n 3, 1), some (.iinc 4 1, 3), none, none, some (.goto (-126), 3), none, none, some (.iload_n 2, 1), some (.ldc_w 286, 3), none, none, some (.if_icmp .ne 5, 3), none]
def xt_86_11 : List (Option (Instr × Nat)) := [none, some (.iconst (-1), 1), some (.ireturn, 1), some (.aload_n 0, 1), some (.iconst 1, 1), some (.putfield 287, 3), none, none, some (.aload_n 0, 1), some (.iconst 0, 1), some (.putfield 116, 3), none, none, some (.aload_n 0, 1), some (.iconst 0, 1), some (.putfield 290, 3)]
def xt_86_12 : List (Option (Instr × Nat)) := [none, none, some (.iconst 0, 1), some (.istore 4, 2), none, some (.iload 4, 2), none, some (.aload_n 0, 1), some (.getfield 276, 3), none, none, some (.if_icmp .ge 63, 3), none, none, some (.iload_n 3, 1), some (.iload 4, 2)]
def xt_86_13 : List (Option (Instr × Nat)) := [none, some (.ishr, 1), some (.iconst 1, 1), some (.iand, 1), some (.ifCond .ne 6, 3), none, none, some (.goto 45, 3), none, none, some (.aload_n 0, 1), some (.getfield 95, 3), none, none, some (.aload_n 0, 1), some (.getfield 290, 3)]
def xt_86_14 : List (Option (Instr × Nat)) := [none, none, some (.aload_n 0, 1), some (.getfield 83, 3), none, none, some (.iload 4, 2), none, some (.iaload, 1), some (.iastore, 1), some (.aload_n 0, 1), some (.getfield 98, 3), none, none, some (.aload_n 0, 1), some (.getfield 290, 3)]
def xt_86_15 : List (Option (Instr × Nat)) := [none, none, some (.aload_n 0, 1), some (.getfield 86, 3), none, none, some (.iload 4, 2), none, some (.iaload, 1), some (.iastore, 1), some (.aload_n 0, 1), some (.dup, 1), some (.getfield 290, 3), none, none, some (.iconst 1, 1)]
def xt_86_16 : List (Option (Instr × Nat)) := [some (.iadd, 1), some (.putfield 290, 3), none, none, some (.iinc 4 1, 3), none, none, some (.goto (-66), 3), none, none, some (.iload_n 2, 1), some (.ireturn, 1)]
/-- 86: X5_mend -/
def xt_86 : xM := ((yX5_mend, cX5_mend, 7, some .int, RX5, 4, 92), [xt_86_0, xt_86_1, xt_86_2, xt_86_3, xt_86_4, xt_86_5, xt_86_6, xt_86_7, xt_86_8, xt_86_9, xt_86_10, xt_86_11, xt_86_12, xt_86_13, xt_86_14, xt_86_15, xt_86_16], [(276, 5, 46, 0), (16, 5, 2, 2), (83, 5, 47, 2), (71, 5, 39, 2), (86, 5, 48, 2), (287, 5, 52, 1), (116, 5, 5, 1), (290, 5, 53, 0), (95, 5, 54, 2), (98, 5, 55, 2)], [(254, 79, 0, 0, 5), (257, 77, 0, 0, 5), (248, 78, 0, 0, 5), (251, 75, 3, 0, 5)], [(286, 1000000), (217, 65535)])
def xt_87_0 : List (Option (Instr × Nat)) := [some (.aload_n 0, 1), some (.getfield 287, 3), none, none, some (.ifCond .eq 17, 3), none, none, some (.iload_n 1, 1), some (.iconst 0, 1), some (.aload_n 0, 1), some (.getfield 290, 3), none, none, some (.iconst 1, 1), some (.isub, 1), some (.invokestatic 101, 3)]
def xt_87_1 : List (Option (Instr × Nat)) := [none, none, some (.ifCond .ne 5, 3), none, none, some (.iconst (-1), 1), some (.ireturn, 1), some (.iload_n 2, 1), some (.ifCond .ne 12, 3), none, none, some (.aload_n 0, 1), some (.getfield 95, 3), none, none, some (.iload_n 1, 1)]
def xt_87_2 : List (Option (Instr × Nat)) := [some (.iaload, 1), some (.goto 18, 3), none, none, some (.iload_n 2, 1), some (.iconst 1, 1), some (.if_icmp .ne 12, 3), none, none, some (.aload_n 0, 1), some (.getfield 98, 3), none, none, some (.iload_n 1, 1), some (.iaload, 1), some (.goto 4, 3)]
def xt_87_3 : List (Option (Instr × Nat)) := [none, none, some (.iconst (-1), 1), some (.ireturn, 1)]
/-- 87: X5_mended -/
def xt_87 : xM := ((yX5_mended, cX5_mended, 3, some .int, RX5, 1, 22), [xt_87_0, xt_87_1, xt_87_2, xt_87_3], [(287, 5, 52, 1), (290, 5, 53, 0), (95, 5, 54, 2), (98, 5, 55, 2)], [(101, 55, 3, 1, 0)], [])
def xt_88_0 : List (Option (Instr × Nat)) := [some (.aload_n 0, 1), some (.getfield 287, 3), none, none, some (.ifCond .eq 17, 3), none, none, some (.aload_n 0, 1), some (.getfield 290, 3), none, none, some (.ifCond .eq 10, 3), none, none, some (.aload_n 0, 1), some (.getfield 116, 3)]
def xt_88_1 : List (Option (Instr × Nat)) := [none, none, some (.ifCond .eq 5, 3), none, none, some (.iconst 0, 1), some (.ireturn, 1), some (.iconst 0, 1), some (.istore_n 1, 1), some (.iload_n 1, 1), some (.bipush 6, 2), none, some (.if_icmp .ge 76, 3), none, none, some (.aload_n 0, 1)]
def xt_88_2 : List (Option (Instr × Nat)) := [some (.getfield 13, 3), none, none, some (.iload_n 1, 1), some (.iaload, 1), some (.istore_n 2, 1), some (.iconst 0, 1), some (.istore_n 3, 1), some (.iload_n 3, 1), some (.aload_n 0, 1), some (.getfield 290, 3), none, none, some (.if_icmp .ge 27, 3), none, none]
def xt_88_3 : List (Option (Instr × Nat)) := [some (.iload_n 2, 1), some (.aload_n 0, 1), some (.getfield 95, 3), none, none, some (.iload_n 3, 1), some (.iaload, 1), some (.iload_n 1, 1), some (.if_icmp .ne 7, 3), none, none, some (.iconst 1, 1), some (.goto 4, 3), none, none, some (.iconst 0, 1)]
def xt_88_4 : List (Option (Instr × Nat)) := [some (.iadd, 1), some (.istore_n 2, 1), some (.iinc 3 1, 3), none, none, some (.goto (-29), 3), none, none, some (.iload_n 2, 1), some (.bipush 30, 2), none, some (.if_icmp .gt 21, 3), none, none, some (.iload_n 2, 1), some (.aload_n 0, 1)]
def xt_88_5 : List (Option (Instr × Nat)) := [some (.getfield 13, 3), none, none, some (.iload_n 1, 1), some (.iaload, 1), some (.if_icmp .le 13, 3), none, none, some (.aload_n 0, 1), some (.iload_n 1, 1), some (.invokevirtual 293, 3), none, none, some (.ifCond .eq 5, 3), none, none]
def xt_88_6 : List (Option (Instr × Nat)) := [some (.iconst 0, 1), some (.ireturn, 1), some (.iinc 1 1, 3), none, none, some (.goto (-76), 3), none, none, some (.iconst 0, 1), some (.istore_n 1, 1), some (.iload_n 1, 1), some (.bipush 6, 2), none, some (.if_icmp .ge 158, 3), none, none]
def xt_88_7 : List (Option (Instr × Nat)) := [some (.iconst 0, 1), some (.istore_n 2, 1), some (.iconst 0, 1), some (.istore_n 3, 1), some (.iload_n 3, 1), some (.aload_n 0, 1), some (.getfield 290, 3), none, none, some (.if_icmp .ge 27, 3), none, none, some (.iload_n 2, 1), some (.aload_n 0, 1), some (.getfield 95, 3), none]
def xt_88_8 : List (Option (Instr × Nat)) := [none, some (.iload_n 3, 1), some (.iaload, 1), some (.iload_n 1, 1), some (.if_icmp .ne 7, 3), none, none, some (.iconst 1, 1), some (.goto 4, 3), none, none, some (.iconst 0, 1), some (.iadd, 1), some (.istore_n 2, 1), some (.iinc 3 1, 3), none]
def xt_88_9 : List (Option (Instr × Nat)) := [none, some (.goto (-29), 3), none, none, some (.iconst 5, 1), some (.aload_n 0, 1), some (.getfield 13, 3), none, none, some (.iload_n 1, 1), some (.iaload, 1), some (.imul, 1), some (.iconst 1, 1), some (.isub, 1), some (.istore_n 3, 1), some (.iload_n 3, 1)]
def xt_88_10 : List (Option (Instr × Nat)) := [some (.ifCond .lt 37, 3), none, none, some (.aload_n 0, 1), some (.getfield 7, 3), none, none, some (.sipush 150, 3), none, none, some (.iload_n 1, 1), some (.imul, 1), some (.iconst 5, 1), some (.iload_n 2, 1), some (.imul, 1), some (.iadd, 1)]
def xt_88_11 : List (Option (Instr × Nat)) := [some (.iload_n 3, 1), some (.iadd, 1), some (.aload_n 0, 1), some (.getfield 7, 3), none, none, some (.sipush 150, 3), none, none, some (.iload_n 1, 1), some (.imul, 1), some (.iload_n 3, 1), some (.iadd, 1), some (.iaload, 1), some (.iastore, 1), some (.iinc 3 (-1), 3)]
def xt_88_12 : List (Option (Instr × Nat)) := [none, none, some (.goto (-35), 3), none, none, some (.aload_n 0, 1), some (.getfield 13, 3), none, none, some (.iload_n 1, 1), some (.dup2, 1), some (.iaload, 1), some (.iload_n 2, 1), some (.iadd, 1), some (.iastore, 1), some (.iconst 0, 1)]
def xt_88_13 : List (Option (Instr × Nat)) := [some (.istore_n 3, 1), some (.iconst 0, 1), some (.istore 4, 2), none, some (.iload 4, 2), none, some (.aload_n 0, 1), some (.getfield 290, 3), none, none, some (.if_icmp .ge 43, 3), none, none, some (.aload_n 0, 1), some (.getfield 95, 3), none]
def xt_88_14 : List (Option (Instr × Nat)) := [none, some (.iload 4, 2), none, some (.iaload, 1), some (.iload_n 1, 1), some (.if_icmp .eq 6, 3), none, none, some (.goto 23, 3), none, none, some (.aload_n 0, 1), some (.iload_n 1, 1), some (.iload_n 3, 1), some (.iconst 0, 1), some (.aload_n 0, 1)]
def xt_88_15 : List (Option (Instr × Nat)) := [some (.getfield 98, 3), none, none, some (.iload 4, 2), none, some (.iaload, 1), some (.iconst 0, 1), some (.iconst 0, 1), some (.iconst 0, 1), some (.invokevirtual 124, 3), none, none, some (.iinc 3 1, 3), none, none, some (.iinc 4 1, 3)]
def xt_88_16 : List (Option (Instr × Nat)) := [none, none, some (.goto (-46), 3), none, none, some (.iinc 1 1, 3), none, none, some (.goto (-158), 3), none, none, some (.aload_n 0, 1), some (.iconst 1, 1), some (.putfield 116, 3), none, none]
def xt_88_17 : List (Option (Instr × Nat)) := [some (.iconst 1, 1), some (.ireturn, 1)]
/-- 88: X5_apply -/
def xt_88 : xM := ((yX5_apply, cX5_apply, 5, some .boolean, RX5, 1, 28), [xt_88_0, xt_88_1, xt_88_2, xt_88_3, xt_88_4, xt_88_5, xt_88_6, xt_88_7, xt_88_8, xt_88_9, xt_88_10, xt_88_11, xt_88_12, xt_88_13, xt_88_14, xt_88_15, xt_88_16, xt_88_17], [(287, 5, 52, 1), (290, 5, 53, 0), (116, 5, 5, 1), (13, 5, 1, 2), (95, 5, 54, 2), (7, 5, 0, 2), (98, 5, 55, 2)], [(124, 60, 7, 0, 5)], [])
def xt_89_0 : List (Option (Instr × Nat)) := [some (.iload_n 1, 1), some (.ifCond .ne 8, 3), none, none, some (.aload_n 0, 1), some (.getfield 128, 3), none, none, some (.ireturn, 1), some (.iload_n 1, 1), some (.bipush 10, 2), none, some (.bipush 15, 2), none, some (.invokestatic 101, 3), none]
def xt_89_1 : List (Option (Instr × Nat)) := [none, some (.ifCond .eq 15, 3), none, none, some (.aload_n 0, 1), some (.getfield 13, 3), none, none, some (.iload_n 1, 1), some (.bipush 10, 2), none, some (.isub, 1), some (.iaload, 1), some (.goto 27, 3), none, none]
def xt_89_2 : List (Option (Instr × Nat)) := [some (.iload_n 1, 1), some (.bipush 20, 2), none, some (.bipush 25, 2), none, some (.invokestatic 101, 3), none, none, some (.ifCond .eq 15, 3), none, none, some (.aload_n 0, 1), some (.getfield 16, 3), none, none, some (.iload_n 1, 1)]
def xt_89_3 : List (Option (Instr × Nat)) := [some (.bipush 20, 2), none, some (.isub, 1), some (.iaload, 1), some (.goto 4, 3), none, none, some (.iconst (-1), 1), some (.ireturn, 1)]
/-- 89: X5_count -/
def xt_89 : xM := ((yX5_count, cX5_count, 2, some .int, RX5, 1, 22), [xt_89_0, xt_89_1, xt_89_2, xt_89_3], [(128, 5, 4, 0), (13, 5, 1, 2), (16, 5, 2, 2)], [(101, 55, 3, 1, 0)], [])
def xml_0 : List xM := [xt_0, xt_1, xt_2, xt_3, xt_4, xt_5, xt_6, xt_7, xt_8, xt_9, xt_10, xt_11, xt_12, xt_13, xt_14, xt_15]
def xml_1 : List xM := [xt_16, xt_17, xt_18, xt_19, xt_20, xt_21, xt_22, xt_23, xt_24, xt_25, xt_26, xt_27, xt_28, xt_29, xt_30, xt_31]
def xml_2 : List xM := [xt_32, xt_33, xt_34, xt_35, xt_36, xt_37, xt_38, xt_39, xt_40, xt_41, xt_42, xt_43, xt_44, xt_45, xt_46, xt_47]
def xml_3 : List xM := [xt_48, xt_49, xt_50, xt_51, xt_52, xt_53, xt_54, xt_55, xt_56, xt_57, xt_58, xt_59, xt_60, xt_61, xt_62, xt_63]
def xml_4 : List xM := [xt_64, xt_65, xt_66, xt_67, xt_68, xt_69, xt_70, xt_71, xt_72, xt_73, xt_74, xt_75, xt_76, xt_77, xt_78, xt_79]
def xml_5 : List xM := [xt_80, xt_81, xt_82, xt_83, xt_84, xt_85, xt_86, xt_87, xt_88, xt_89]
def xml : List (List xM) := [xml_0, xml_1, xml_2, xml_3, xml_4, xml_5]
noncomputable def xMT (k : Nat) : xM := match xe_nth xml (k / 16) with
  | none => xt_0
  | some c => match xe_nth c (k % 16) with
    | none => xt_0
    | some X => X
