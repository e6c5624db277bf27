/-! THE EXECUTOR: it runs a method of the tables over a world whose references are places in the list of its cells; what it answers the machine answers (xe_met, at the end of part 03). No method that it runs makes a cell. -/
abbrev xC : Type := List va_E
abbrev xL : Type := List (Nat × Value)
abbrev xR : Type := Option (Option Value × xC)
abbrev xH : Type := Nat → xC → Nat → xL → List Value → xR
/-- a method: its name, bytes, locals, answer's type, class, the frames and the locals' words that it needs; its code; its fields (index, class, field, kind: 0 int, 1 boolean, 2 read alone); its calls (index, method, arguments, kind: 0 virtual, 1 static, 2 a nest mate's static, class of the receiver); its constants -/
abbrev xM : Type := (MethodName × ByteArray × Nat × Option FieldType × String × Nat × Nat) × List (List (Option (Instr × Nat))) × List (Nat × Nat × Nat × Nat) × List (Nat × Nat × Nat × Nat × Nat) × List (Nat × Int32)
abbrev xm_y (X : xM) : MethodName := X.1.1
abbrev xm_c (X : xM) : ByteArray := X.1.2.1
abbrev xm_n (X : xM) : Nat := X.1.2.2.1
abbrev xm_r (X : xM) : Option FieldType := X.1.2.2.2.1
abbrev xm_o (X : xM) : String := X.1.2.2.2.2.1
abbrev xm_f (X : xM) : Nat := X.1.2.2.2.2.2.1
abbrev xm_l (X : xM) : Nat := X.1.2.2.2.2.2.2
abbrev xm_t (X : xM) : List (List (Option (Instr × Nat))) := X.2.1
abbrev xm_F (X : xM) : List (Nat × Nat × Nat × Nat) := X.2.2.1
abbrev xm_I (X : xM) : List (Nat × Nat × Nat × Nat × Nat) := X.2.2.2.1
abbrev xm_K (X : xM) : List (Nat × Int32) := X.2.2.2.2
noncomputable def xe_nth {α : Type} (l : List α) : Nat → Option α := List.rec (motive := fun _ => Nat → Option α) (fun _ => none) (fun h _ ih n => Nat.rec (motive := fun _ => Option α) (some h) (fun m _ => ih m) n) l
theorem xe_nth_eq {α : Type} (l : List α) (n : Nat) : xe_nth l n = l[n]? := by
  induction l generalizing n with
  | nil => simp [xe_nth]
  | cons h t ih =>
    cases n with
    | zero => rfl
    | succ m => exact (ih m).trans (by simp)
noncomputable def xe_as {α : Type} (l : List (Nat × α)) (i : Nat) : Option α := List.rec (motive := fun _ => Option α) none (fun q _ ih => cond (Nat.beq q.1 i) (some q.2) ih) l
theorem xe_as_mem {α : Type} {l : List (Nat × α)} {i : Nat} {a : α} (h : xe_as l i = some a) : (i, a) ∈ l := by
  induction l with
  | nil => cases h
  | cons q t ih =>
    have h : cond (Nat.beq q.1 i) (some q.2) (xe_as t i) = some a := h
    cases hq : Nat.beq q.1 i with
    | true =>
      rw [hq] at h
      have e := Nat.eq_of_beq_eq_true hq
      have h : some q.2 = some a := h
      cases h
      rw [← e]
      exact List.mem_cons_self
    | false =>
      rw [hq] at h
      exact List.mem_cons_of_mem _ (ih h)
noncomputable def xe_set {α β : Type} (l : List α) : Nat → α → (List α → β) → β := List.rec (motive := fun _ => Nat → α → (List α → β) → β) (fun _ _ k => k []) (fun h t ih n v k => Nat.rec (motive := fun _ => β) (k (v :: t)) (fun m _ => ih m v (fun t' => k (h :: t'))) n) l
theorem xe_set_eq {α β : Type} (l : List α) (n : Nat) (v : α) (k : List α → β) : xe_set l n v k = k (l.set n v) := by
  induction l generalizing n k with
  | nil => rfl
  | cons h t ih =>
    cases n with
    | zero => rfl
    | succ m => exact ih m (fun t' => k (h :: t'))
noncomputable def xe_fn {β : Type} (n : Nat) (k : Nat → β) : β := Nat.rec (motive := fun _ => β) (k 0) (fun m _ => k (Nat.succ m)) n
theorem xe_fn_eq {β : Type} (n : Nat) (k : Nat → β) : xe_fn n k = k n := by cases n <;> rfl
noncomputable def xe_f {β : Type} (x : Int32) (k : Int32 → β) : β := xe_fn x.toUInt32.toNat (fun n => k (Int32.ofNat n))
theorem xe_f_eq {β : Type} (x : Int32) (k : Int32 → β) : xe_f x k = k x := by
  unfold xe_f
  rw [xe_fn_eq]
  congr 1
  apply Int32.toBitVec_inj.mp
  simp
noncomputable def xe_lk (t : List (List (Option (Instr × Nat)))) (pc : Nat) : Option (Instr × Nat) := match xe_nth t (pc / 16) with
  | none => none
  | some c => match xe_nth c (pc % 16) with
    | none => none
    | some o => o
noncomputable def xe_jmp {β : Type} (pc : Nat) (off : Int) (go : Nat → Option β) : Option β := Int.rec (motive := fun _ => Option β) (fun t => xe_fn t go) (fun _ => none) ((pc : Int) + off)
theorem xe_jmp_inv {β : Type} {pc : Nat} {off : Int} {go : Nat → Option β} {r : β} (h : xe_jmp pc off go = some r) : ∃ t : Nat, (pc : Int) + off = (t : Int) ∧ go t = some r := by
  unfold xe_jmp at h
  generalize (pc : Int) + off = z at h
  cases z with
  | ofNat t => exact ⟨t, rfl, (xe_fn_eq t go).symm.trans h⟩
  | negSucc t => cases h
/-- a number on top -/
noncomputable def xe_push (x : Int32) (S : List Value) (go : List Value → xR) : xR := xe_f x (fun z => go (.int z :: S))
theorem xe_push_eq (x : Int32) (S : List Value) (go : List Value → xR) : xe_push x S go = go (.int x :: S) := xe_f_eq _ _
noncomputable def xe_bin (g : Int32 → Int32 → Int32) (S : List Value) (go : List Value → xR) : xR := match S with
  | .int y :: .int x :: T => xe_push (g x y) T go
  | _ => none
theorem xe_bin_inv {g : Int32 → Int32 → Int32} {S : List Value} {go : List Value → xR} {r : Option Value × xC} (h : xe_bin g S go = some r) : ∃ (x y : Int32) (T : List Value), S = .int y :: .int x :: T ∧ go (.int (g x y) :: T) = some r := by
  unfold xe_bin at h
  split at h
  · exact ⟨_, _, _, rfl, (xe_push_eq _ _ _).symm.trans h⟩
  · cases h
noncomputable def xe_br1 (q : Int32 → Bool) (S : List Value) (a b : List Value → xR) : xR := match S with
  | .int x :: T => cond (q x) (a T) (b T)
  | _ => none
theorem xe_br1_inv {q : Int32 → Bool} {S : List Value} {a b : List Value → xR} {r : Option Value × xC} (h : xe_br1 q S a b = some r) : ∃ (x : Int32) (T : List Value), S = .int x :: T ∧ ((q x = true → a T = some r) ∧ (q x = false → b T = some r)) := by
  unfold xe_br1 at h
  split at h
  · refine ⟨_, _, rfl, fun e => ?_, fun e => ?_⟩ <;> (rw [e] at h; exact h)
  · cases h
noncomputable def xe_br2 (q : Int32 → Int32 → Bool) (S : List Value) (a b : List Value → xR) : xR := match S with
  | .int y :: .int x :: T => cond (q x y) (a T) (b T)
  | _ => none
theorem xe_br2_inv {q : Int32 → Int32 → Bool} {S : List Value} {a b : List Value → xR} {r : Option Value × xC} (h : xe_br2 q S a b = some r) : ∃ (x y : Int32) (T : List Value), S = .int y :: .int x :: T ∧ ((q x y = true → a T = some r) ∧ (q x y = false → b T = some r)) := by
  unfold xe_br2 at h
  split at h
  · refine ⟨_, _, _, rfl, fun e => ?_, fun e => ?_⟩ <;> (rw [e] at h; exact h)
  · cases h
noncomputable def xe_ldi (L : xL) (i : Nat) (S : List Value) (go : List Value → xR) : xR := match xe_as L i with
  | some (.int x) => go (.int x :: S)
  | _ => none
theorem xe_ldi_inv {L : xL} {i : Nat} {S : List Value} {go : List Value → xR} {r : Option Value × xC} (h : xe_ldi L i S go = some r) : ∃ x : Int32, (i, Value.int x) ∈ L ∧ go (.int x :: S) = some r := by
  unfold xe_ldi at h
  split at h
  · rename_i x hx
    exact ⟨x, xe_as_mem hx, h⟩
  · cases h
noncomputable def xe_lda (L : xL) (i : Nat) (S : List Value) (go : List Value → xR) : xR := match xe_as L i with
  | some (.ref x) => go (.ref x :: S)
  | _ => none
theorem xe_lda_inv {L : xL} {i : Nat} {S : List Value} {go : List Value → xR} {r : Option Value × xC} (h : xe_lda L i S go = some r) : ∃ x : Nat, (i, Value.ref x) ∈ L ∧ go (.ref x :: S) = some r := by
  unfold xe_lda at h
  split at h
  · rename_i x hx
    exact ⟨x, xe_as_mem hx, h⟩
  · cases h
def xe_st (L : xL) (i : Nat) (v : Value) : xL := (i, v) :: L.filter (fun q => !(q.1 == i) && !(q.1 + 1 == i && q.2.category == 2))
noncomputable def xe_sti (N : Nat) (L : xL) (i : Nat) (S : List Value) (go : xL → List Value → xR) : xR := match S with
  | .int x :: T => cond (Nat.blt i N) (go (xe_st L i (.int x)) T) none
  | _ => none
theorem xe_sti_inv {N : Nat} {L : xL} {i : Nat} {S : List Value} {go : xL → List Value → xR} {r : Option Value × xC} (h : xe_sti N L i S go = some r) : ∃ (x : Int32) (T : List Value), S = .int x :: T ∧ i < N ∧ go (xe_st L i (.int x)) T = some r := by
  unfold xe_sti at h
  split at h
  · cases hq : Nat.blt i N with
    | true => rw [hq] at h; exact ⟨_, _, rfl, Nat.blt_eq.mp hq, h⟩
    | false => rw [hq] at h; cases h
  · cases h
noncomputable def xe_inc (N : Nat) (L : xL) (i : Nat) (n : Int) (go : xL → xR) : xR := match xe_as L i with
  | some (.int x) => cond (Nat.blt i N) (xe_f (x + Int32.ofInt n) (fun z => go (xe_st L i (.int z)))) none
  | _ => none
theorem xe_inc_inv {N : Nat} {L : xL} {i : Nat} {n : Int} {go : xL → xR} {r : Option Value × xC} (h : xe_inc N L i n go = some r) : ∃ x : Int32, (i, Value.int x) ∈ L ∧ i < N ∧ go (xe_st L i (.int (x + Int32.ofInt n))) = some r := by
  unfold xe_inc at h
  split at h
  · rename_i x hx
    cases hq : Nat.blt i N with
    | true =>
      rw [hq] at h
      have h : xe_f (x + Int32.ofInt n) (fun z => go (xe_st L i (.int z))) = some r := h
      rw [xe_f_eq] at h
      exact ⟨x, xe_as_mem hx, Nat.blt_eq.mp hq, h⟩
    | false => rw [hq] at h; cases h
  · cases h
noncomputable def xe_get (F : List (Nat × Nat × Nat × Nat)) (idx : Nat) (C : xC) (S : List Value) (go : List Value → xR) : xR := match S with
  | .ref a :: T => match xe_as F idx with
    | some (ci, j, _) => match xe_nth C a with
      | some (.inr (cj, fs)) => cond (Nat.beq cj ci) (match xe_nth fs j with
        | some v => go (v :: T)
        | none => none) none
      | _ => none
    | none => none
  | _ => none
theorem xe_get_inv {F : List (Nat × Nat × Nat × Nat)} {idx : Nat} {C : xC} {S : List Value} {go : List Value → xR} {r : Option Value × xC} (h : xe_get F idx C S go = some r) : ∃ (a : Nat) (T : List Value) (ci j t : Nat) (fs : List Value) (v : Value), S = .ref a :: T ∧ (idx, ci, j, t) ∈ F ∧ C[a]? = some (.inr (ci, fs)) ∧ fs[j]? = some v ∧ go (v :: T) = some r := by
  unfold xe_get at h
  split at h
  · split at h
    · rename_i hF
      split at h
      · rename_i ci j t _ cj fs hC
        cases hq : Nat.beq cj ci with
        | true =>
          rw [hq] at h
          have e := Nat.eq_of_beq_eq_true hq
          subst e
          simp only [cond_true] at h
          split at h
          · rename_i v hv
            exact ⟨_, _, cj, j, t, fs, v, rfl, xe_as_mem hF, (xe_nth_eq C _).symm.trans hC, (xe_nth_eq fs j).symm.trans hv, h⟩
          · cases h
        | false => rw [hq] at h; cases h
      · cases h
    · cases h
  · cases h
/-- a number that a field of its kind may hold -/
def xe_fit (t : Nat) (v : Int32) : Bool := cond (Nat.beq t 0) true (cond (Nat.beq t 1) (decide (v = 0) || decide (v = 1)) false)
noncomputable def xe_put (F : List (Nat × Nat × Nat × Nat)) (idx : Nat) (C : xC) (S : List Value) (go : xC → List Value → xR) : xR := match S with
  | .int v :: .ref a :: T => match xe_as F idx with
    | some (ci, j, t) => match xe_nth C a with
      | some (.inr (cj, fs)) => cond (Nat.beq cj ci && (xe_fit t v && Nat.blt j fs.length)) (xe_set fs j (.int v) fun fs' => xe_set C a (.inr (ci, fs')) fun C' => go C' T) none
      | _ => none
    | none => none
  | _ => none
theorem xe_put_inv {F : List (Nat × Nat × Nat × Nat)} {idx : Nat} {C : xC} {S : List Value} {go : xC → List Value → xR} {r : Option Value × xC} (h : xe_put F idx C S go = some r) : ∃ (a : Nat) (T : List Value) (ci j t : Nat) (fs : List Value) (v : Int32), S = .int v :: .ref a :: T ∧ (idx, ci, j, t) ∈ F ∧ C[a]? = some (.inr (ci, fs)) ∧ xe_fit t v = true ∧ j < fs.length ∧ go (C.set a (.inr (ci, fs.set j (.int v)))) T = some r := by
  unfold xe_put at h
  split at h
  · split at h
    · rename_i hF
      split at h
      · rename_i v _ _ _ ci j t _ cj fs hC
        cases hq : (Nat.beq cj ci && (xe_fit t v && Nat.blt j fs.length)) with
        | true =>
          rw [hq] at h
          simp only [Bool.and_eq_true] at hq
          have e := Nat.eq_of_beq_eq_true hq.1
          subst e
          simp only [cond_true, xe_set_eq] at h
          exact ⟨_, _, cj, j, t, fs, v, rfl, xe_as_mem hF, (xe_nth_eq C _).symm.trans hC, hq.2.1, Nat.blt_eq.mp hq.2.2, h⟩
        | false => rw [hq] at h; cases h
      · cases h
    · cases h
  · cases h
noncomputable def xe_ald (tag : Nat) (C : xC) (S : List Value) (go : List Value → xR) : xR := match S with
  | .int i :: .ref a :: T => match xe_nth C a with
    | some (.inl (t, n, .inl f)) => cond (Nat.beq t tag && decide (¬ (i < 0 ∨ n ≤ i.toNatClampNeg))) (xe_fn i.toNatClampNeg fun j => xe_push (f j) T go) none
    | _ => none
  | _ => none
theorem xe_ald_inv {tag : Nat} {C : xC} {S : List Value} {go : List Value → xR} {r : Option Value × xC} (h : xe_ald tag C S go = some r) : ∃ (i : Int32) (a : Nat) (T : List Value) (n : Nat) (f : Nat → Int32), S = .int i :: .ref a :: T ∧ C[a]? = some (.inl (tag, n, .inl f)) ∧ vp_in i n ∧ go (.int (f i.toNatClampNeg) :: T) = some r := by
  unfold xe_ald at h
  split at h
  · split at h
    · rename_i i _ _ _ t n f hC
      cases hq : (Nat.beq t tag && decide (¬ (i < 0 ∨ n ≤ i.toNatClampNeg))) with
      | true =>
        rw [hq] at h
        simp only [Bool.and_eq_true, decide_eq_true_eq] at hq
        have e := Nat.eq_of_beq_eq_true hq.1
        subst e
        simp only [cond_true, xe_fn_eq, xe_push_eq] at h
        exact ⟨i, _, _, n, f, rfl, (xe_nth_eq C _).symm.trans hC, hq.2, h⟩
      | false => rw [hq] at h; cases h
    · cases h
  · cases h
noncomputable def xe_ast (tag : Nat) (nar : Int32 → Int32) (C : xC) (S : List Value) (go : xC → List Value → xR) : xR := match S with
  | .int x :: .int i :: .ref a :: T => match xe_nth C a with
    | some (.inl (t, n, .inl f)) => cond (Nat.beq t tag && decide (¬ (i < 0 ∨ n ≤ i.toNatClampNeg))) (xe_fn i.toNatClampNeg fun j => xe_f (nar x) fun z => xe_set C a (.inl (t, n, .inl (upd f j z))) fun C' => go C' T) none
    | _ => none
  | _ => none
theorem xe_ast_inv {tag : Nat} {nar : Int32 → Int32} {C : xC} {S : List Value} {go : xC → List Value → xR} {r : Option Value × xC} (h : xe_ast tag nar C S go = some r) : ∃ (x i : Int32) (a : Nat) (T : List Value) (n : Nat) (f : Nat → Int32), S = .int x :: .int i :: .ref a :: T ∧ C[a]? = some (.inl (tag, n, .inl f)) ∧ vp_in i n ∧ go (C.set a (.inl (tag, n, .inl (upd f i.toNatClampNeg (nar x))))) T = some r := by
  unfold xe_ast at h
  split at h
  · split at h
    · rename_i x i _ _ _ t n f hC
      cases hq : (Nat.beq t tag && decide (¬ (i < 0 ∨ n ≤ i.toNatClampNeg))) with
      | true =>
        rw [hq] at h
        simp only [Bool.and_eq_true, decide_eq_true_eq] at hq
        have e := Nat.eq_of_beq_eq_true hq.1
        subst e
        simp only [cond_true, xe_fn_eq, xe_f_eq, xe_set_eq] at h
        exact ⟨x, i, _, _, n, f, rfl, (xe_nth_eq C _).symm.trans hC, hq.2, h⟩
      | false => rw [hq] at h; cases h
    · cases h
  · cases h
noncomputable def xe_aln (C : xC) (S : List Value) (go : List Value → xR) : xR := match S with
  | .ref a :: T => match xe_nth C a with
    | some (.inl (t, n, _)) => cond (Nat.ble t 1) (xe_push (Int32.ofNat n) T go) none
    | _ => none
  | _ => none
theorem xe_aln_inv {C : xC} {S : List Value} {go : List Value → xR} {r : Option Value × xC} (h : xe_aln C S go = some r) : ∃ (a : Nat) (T : List Value) (t : Nat) (x : vp_A), S = .ref a :: T ∧ C[a]? = some (.inl (t, x)) ∧ t ≤ 1 ∧ go (.int (Int32.ofNat x.1) :: T) = some r := by
  unfold xe_aln at h
  split at h
  · split at h
    · rename_i t n x hC
      cases hq : Nat.ble t 1 with
      | true =>
        rw [hq] at h
        simp only [cond_true, xe_push_eq] at h
        exact ⟨_, _, t, (n, x), rfl, (xe_nth_eq C _).symm.trans hC, Nat.le_of_ble_eq_true hq, h⟩
      | false => rw [hq] at h; cases h
    · cases h
  · cases h
noncomputable def xe_pop : Nat → List Value → List Value → Option (List Value × List Value) := fun n => Nat.rec (motive := fun _ => List Value → List Value → Option (List Value × List Value)) (fun S acc => some (acc, S)) (fun _ ih S acc => List.rec (motive := fun _ => Option (List Value × List Value)) none (fun v T _ => ih T (v :: acc)) S) n
theorem xe_pop_inv {n : Nat} {S acc As rest : List Value} (h : xe_pop n S acc = some (As, rest)) : ∃ ts : List Value, ts.length = n ∧ S = ts ++ rest ∧ As = ts.reverse ++ acc := by
  induction n generalizing S acc with
  | zero =>
    have h : some (acc, S) = some (As, rest) := h
    cases h
    exact ⟨[], rfl, rfl, rfl⟩
  | succ n ih =>
    cases S with
    | nil => cases h
    | cons v T =>
      obtain ⟨ts, h1, h2, h3⟩ := ih (S := T) (acc := v :: acc) h
      exact ⟨v :: ts, by simp [h1], by rw [h2]; rfl, by rw [h3]; simp⟩
def xe_c1 (vs : List Value) : Bool := vs.all (fun v => Nat.beq v.category 1)
noncomputable def xe_call (X' : xM) (ih : xH) (k : Nat) (C : xC) (pc : Nat) (L : xL) (k' : Nat) (vs rest : List Value) : xR :=
  cond (decide ((rest.map fun v => v.category).sum ≤ 8) && (xe_c1 vs && Nat.ble vs.length (xm_n X'))) (match ih k' C 0 (lv_args 0 vs) [] with
    | some (none, C') => ih k C' (pc + 3) L rest
    | some (some (.int v), C') => ih k C' (pc + 3) L (.int v :: rest)
    | _ => none) none
theorem xe_call_inv {X' : xM} {ih : xH} {k : Nat} {C : xC} {pc : Nat} {L : xL} {k' : Nat} {vs rest : List Value} {r : Option Value × xC} (h : xe_call X' ih k C pc L k' vs rest = some r) : (rest.map fun v => v.category).sum ≤ 8 ∧ xe_c1 vs = true ∧ vs.length ≤ xm_n X' ∧ ∃ C1 : xC, (ih k' C 0 (lv_args 0 vs) [] = some (none, C1) ∧ ih k C1 (pc + 3) L rest = some r) ∨ ∃ v : Int32, ih k' C 0 (lv_args 0 vs) [] = some (some (.int v), C1) ∧ ih k C1 (pc + 3) L (.int v :: rest) = some r := by
  unfold xe_call at h
  cases hq : (decide ((rest.map fun v => v.category).sum ≤ 8) && (xe_c1 vs && Nat.ble vs.length (xm_n X'))) with
  | true =>
    rw [hq] at h
    simp only [Bool.and_eq_true, decide_eq_true_eq] at hq
    simp only [cond_true] at h
    refine ⟨hq.1, hq.2.1, Nat.le_of_ble_eq_true hq.2.2, ?_⟩
    split at h
    · rename_i C1 h1
      exact ⟨C1, Or.inl ⟨h1, h⟩⟩
    · rename_i v C1 h1
      exact ⟨C1, Or.inr ⟨v, h1, h⟩⟩
    · cases h
  | false => rw [hq] at h; cases h
noncomputable def xe_inv (M : Nat → xM) (ih : xH) (k : Nat) (C : xC) (pc : Nat) (L : xL) (S : List Value) (virt : Bool) (idx : Nat) : xR := match xe_as (xm_I (M k)) idx with
  | some (k', n, kd, ci) => match xe_pop n S [] with
    | some (As, rest) => cond virt (cond (Nat.beq kd 0) (match rest with
        | .ref b :: T => match xe_nth C b with
          | some (.inr (cj, _)) => cond (Nat.beq cj ci) (xe_call (M k') ih k C pc L k' (.ref b :: As) T) none
          | _ => none
        | _ => none) none) (cond (Nat.beq kd 0) none (xe_call (M k') ih k C pc L k' As rest))
    | none => none
  | none => none
theorem xe_inv_v {M : Nat → xM} {ih : xH} {k : Nat} {C : xC} {pc : Nat} {L : xL} {S : List Value} {idx : Nat} {r : Option Value × xC} (h : xe_inv M ih k C pc L S true idx = some r) : ∃ (k' n ci : Nat) (As T : List Value) (b : Nat) (fs : List Value), (idx, k', n, 0, ci) ∈ xm_I (M k) ∧ S = As.reverse ++ .ref b :: T ∧ As.length = n ∧ C[b]? = some (.inr (ci, fs)) ∧ xe_call (M k') ih k C pc L k' (.ref b :: As) T = some r := by
  unfold xe_inv at h
  split at h
  · rename_i k' n kd ci hI
    split at h
    · rename_i As rest hp
      simp only [cond_true] at h
      cases hk : Nat.beq kd 0 with
      | true =>
        rw [hk] at h
        have e := Nat.eq_of_beq_eq_true hk
        subst e
        simp only [cond_true] at h
        split at h
        · split at h
          · rename_i b T _ cj fs hC
            cases hq : Nat.beq cj ci with
            | true =>
              rw [hq] at h
              have e := Nat.eq_of_beq_eq_true hq
              subst e
              obtain ⟨ts, h1, h2, h3⟩ := xe_pop_inv hp
              exact ⟨k', n, cj, As, T, b, fs, xe_as_mem hI, by rw [h2, h3]; simp, by rw [h3]; simp [h1], (xe_nth_eq C _).symm.trans hC, h⟩
            | false => rw [hq] at h; cases h
          · cases h
        · cases h
      | false => rw [hk] at h; cases h
    · cases h
  · cases h
theorem xe_inv_s {M : Nat → xM} {ih : xH} {k : Nat} {C : xC} {pc : Nat} {L : xL} {S : List Value} {idx : Nat} {r : Option Value × xC} (h : xe_inv M ih k C pc L S false idx = some r) : ∃ (k' n kd ci : Nat) (As T : List Value), (idx, k', n, kd, ci) ∈ xm_I (M k) ∧ kd ≠ 0 ∧ S = As.reverse ++ T ∧ As.length = n ∧ xe_call (M k') ih k C pc L k' As T = some r := by
  unfold xe_inv at h
  split at h
  · rename_i k' n kd ci hI
    split at h
    · rename_i As rest hp
      simp only [cond_false] at h
      cases hk : Nat.beq kd 0 with
      | true => rw [hk] at h; cases h
      | false =>
        rw [hk] at h
        obtain ⟨ts, h1, h2, h3⟩ := xe_pop_inv hp
        exact ⟨k', n, kd, ci, As, rest, xe_as_mem hI, (fun e => by rw [e] at hk; cases hk), by rw [h2, h3]; simp, by rw [h3]; simp [h1], h⟩
    · cases h
  · cases h
noncomputable def xe_irt (ret : Option FieldType) (C : xC) (S : List Value) : xR := match S, ret with
  | [.int v], some .int => some (some (.int v), C)
  | [.int v], some .boolean => cond (decide (v = 0) || decide (v = 1)) (some (some (.int v), C)) none
  | _, _ => none
theorem xe_irt_inv {ret : Option FieldType} {C : xC} {S : List Value} {r : Option Value} {C' : xC} (h : xe_irt ret C S = some (r, C')) : ∃ v : Int32, S = [.int v] ∧ r = some (.int v) ∧ C' = C ∧ (ret = some .int ∨ (ret = some .boolean ∧ (v = 0 ∨ v = 1))) := by
  unfold xe_irt at h
  split at h
  · cases h
    exact ⟨_, rfl, rfl, rfl, Or.inl rfl⟩
  · rename_i v
    cases hq : (decide (v = 0) || decide (v = 1)) with
    | true =>
      rw [hq] at h
      simp only [cond_true] at h
      cases h
      simp only [Bool.or_eq_true, decide_eq_true_eq] at hq
      exact ⟨v, rfl, rfl, rfl, Or.inr ⟨rfl, hq⟩⟩
    | false => rw [hq] at h; cases h
  · cases h
noncomputable def xe_vrt (ret : Option FieldType) (C : xC) (S : List Value) : xR := match S, ret with
  | [], none => some (none, C)
  | _, _ => none
theorem xe_vrt_inv {ret : Option FieldType} {C : xC} {S : List Value} {r : Option Value} {C' : xC} (h : xe_vrt ret C S = some (r, C')) : S = [] ∧ r = none ∧ C' = C ∧ ret = none := by
  unfold xe_vrt at h
  split at h
  · cases h
    exact ⟨rfl, rfl, rfl, rfl⟩
  · cases h
noncomputable def xe_swt (pc : Nat) (dflt lo hi : Int) (offs : Array Int) (S : List Value) (go : Nat → List Value → xR) : xR := match S with
  | .int x :: T => cond (decide (x.toInt < lo) || decide (hi < x.toInt)) (xe_jmp pc dflt fun t => go t T) (match xe_nth offs.toList (x.toInt - lo).toNat with
    | some off => xe_jmp pc off fun t => go t T
    | none => none)
  | _ => none
theorem xe_swt_inv {pc : Nat} {dflt lo hi : Int} {offs : Array Int} {S : List Value} {go : Nat → List Value → xR} {r : Option Value × xC} (h : xe_swt pc dflt lo hi offs S go = some r) : ∃ (x : Int32) (T : List Value), S = .int x :: T ∧ (((x.toInt < lo ∨ hi < x.toInt) ∧ ∃ t : Nat, (pc : Int) + dflt = (t : Int) ∧ go t T = some r) ∨ (¬ x.toInt < lo ∧ ¬ hi < x.toInt ∧ ∃ (off : Int) (t : Nat), offs[(x.toInt - lo).toNat]? = some off ∧ (pc : Int) + off = (t : Int) ∧ go t T = some r)) := by
  unfold xe_swt at h
  split at h
  · rename_i x T
    cases hq : (decide (x.toInt < lo) || decide (hi < x.toInt)) with
    | true =>
      rw [hq] at h
      simp only [Bool.or_eq_true, decide_eq_true_eq] at hq
      simp only [cond_true] at h
      obtain ⟨t, h1, h2⟩ := xe_jmp_inv h
      exact ⟨x, T, rfl, Or.inl ⟨hq, t, h1, h2⟩⟩
    | false =>
      rw [hq] at h
      simp only [Bool.or_eq_false_iff, decide_eq_false_iff_not] at hq
      simp only [cond_false] at h
      split at h
      · rename_i off ho
        obtain ⟨t, h1, h2⟩ := xe_jmp_inv h
        exact ⟨x, T, rfl, Or.inr ⟨hq.1, hq.2, off, t, by rw [xe_nth_eq] at ho; simpa using ho, h1, h2⟩⟩
      · cases h
  · cases h
noncomputable def xe_swl (pc : Nat) (dflt : Int) (ps : Array (Int × Int)) (S : List Value) (go : Nat → List Value → xR) : xR := match S with
  | .int x :: T => cond ((ps.toList.zip (ps.toList.drop 1)).all (fun (a, next) => a.1 < next.1)) (xe_jmp pc (Op.lookupswitch.offset ps.toList dflt x.toInt) fun t => go t T) none
  | _ => none
theorem xe_swl_inv {pc : Nat} {dflt : Int} {ps : Array (Int × Int)} {S : List Value} {go : Nat → List Value → xR} {r : Option Value × xC} (h : xe_swl pc dflt ps S go = some r) : ∃ (x : Int32) (T : List Value) (t : Nat), S = .int x :: T ∧ (ps.toList.zip (ps.toList.drop 1)).all (fun (a, next) => a.1 < next.1) = true ∧ (pc : Int) + Op.lookupswitch.offset ps.toList dflt x.toInt = (t : Int) ∧ go t T = some r := by
  unfold xe_swl at h
  split at h
  · rename_i x T
    cases hq : ((ps.toList.zip (ps.toList.drop 1)).all (fun (a, next) => a.1 < next.1)) with
    | true =>
      rw [hq] at h
      simp only [cond_true] at h
      obtain ⟨t, h1, h2⟩ := xe_jmp_inv h
      exact ⟨x, T, t, rfl, rfl, h1, h2⟩
    | false => rw [hq] at h; cases h
  · cases h
noncomputable def xe_ldc (K : List (Nat × Int32)) (idx : Nat) (S : List Value) (go : List Value → xR) : xR := match xe_as K idx with
  | some v => go (.int v :: S)
  | none => none
theorem xe_ldc_inv {K : List (Nat × Int32)} {idx : Nat} {S : List Value} {go : List Value → xR} {r : Option Value × xC} (h : xe_ldc K idx S go = some r) : ∃ v : Int32, (idx, v) ∈ K ∧ go (.int v :: S) = some r := by
  unfold xe_ldc at h
  split at h
  · rename_i v hv
    exact ⟨v, xe_as_mem hv, h⟩
  · cases h
noncomputable def xe_dup (S : List Value) (go : List Value → xR) : xR := match S with
  | v :: T => cond (Nat.beq v.category 1) (go (v :: v :: T)) none
  | _ => none
theorem xe_dup_inv {S : List Value} {go : List Value → xR} {r : Option Value × xC} (h : xe_dup S go = some r) : ∃ (v : Value) (T : List Value), S = v :: T ∧ v.category = 1 ∧ go (v :: v :: T) = some r := by
  unfold xe_dup at h
  split at h
  · rename_i v T
    cases hq : Nat.beq v.category 1 with
    | true => rw [hq] at h; exact ⟨v, T, rfl, Nat.eq_of_beq_eq_true hq, h⟩
    | false => rw [hq] at h; cases h
  · cases h
noncomputable def xe_dup2 (S : List Value) (go : List Value → xR) : xR := match S with
  | v :: w :: T => cond (Nat.beq v.category 1 && Nat.beq w.category 1) (go (v :: w :: v :: w :: T)) none
  | _ => none
theorem xe_dup2_inv {S : List Value} {go : List Value → xR} {r : Option Value × xC} (h : xe_dup2 S go = some r) : ∃ (v w : Value) (T : List Value), S = v :: w :: T ∧ v.category = 1 ∧ w.category = 1 ∧ go (v :: w :: v :: w :: T) = some r := by
  unfold xe_dup2 at h
  split at h
  · rename_i v w T
    cases hq : (Nat.beq v.category 1 && Nat.beq w.category 1) with
    | true =>
      rw [hq] at h
      simp only [Bool.and_eq_true] at hq
      exact ⟨v, w, T, rfl, Nat.eq_of_beq_eq_true hq.1, Nat.eq_of_beq_eq_true hq.2, h⟩
    | false => rw [hq] at h; cases h
  · cases h
noncomputable def xe_pop1 (S : List Value) (go : List Value → xR) : xR := match S with
  | v :: T => cond (Nat.beq v.category 1) (go T) none
  | _ => none
theorem xe_pop1_inv {S : List Value} {go : List Value → xR} {r : Option Value × xC} (h : xe_pop1 S go = some r) : ∃ (v : Value) (T : List Value), S = v :: T ∧ v.category = 1 ∧ go T = some r := by
  unfold xe_pop1 at h
  split at h
  · rename_i v T
    cases hq : Nat.beq v.category 1 with
    | true => rw [hq] at h; exact ⟨v, T, rfl, Nat.eq_of_beq_eq_true hq, h⟩
    | false => rw [hq] at h; cases h
  · cases h
/-- one instruction -/
noncomputable def xe_i (M : Nat → xM) (ih : xH) (k : Nat) (C : xC) (pc : Nat) (L : xL) (S : List Value) (i : Instr) : xR := match i with
  | .iconst v => xe_push (Int32.ofInt v) S (ih k C (pc + 1) L)
  | .bipush v => xe_push (Int8.ofInt v).toInt32 S (ih k C (pc + 2) L)
  | .sipush v => xe_push (Int16.ofInt v).toInt32 S (ih k C (pc + 3) L)
  | .ldc idx => xe_ldc (xm_K (M k)) idx S (ih k C (pc + 2) L)
  | .ldc_w idx => xe_ldc (xm_K (M k)) idx S (ih k C (pc + 3) L)
  | .iload_n j => xe_ldi L j.val S (ih k C (pc + 1) L)
  | .iload j => xe_ldi L j S (ih k C (pc + 2) L)
  | .aload_n j => xe_lda L j.val S (ih k C (pc + 1) L)
  | .aload j => xe_lda L j S (ih k C (pc + 2) L)
  | .istore_n j => xe_sti (xm_n (M k)) L j.val S (ih k C (pc + 1))
  | .istore j => xe_sti (xm_n (M k)) L j S (ih k C (pc + 2))
  | .iinc j n0 => xe_inc (xm_n (M k)) L j n0 (fun L' => ih k C (pc + 3) L' S)
  | .iadd => xe_bin (fun x y => x + y) S (ih k C (pc + 1) L)
  | .isub => xe_bin (fun x y => x - y) S (ih k C (pc + 1) L)
  | .imul => xe_bin (fun x y => x * y) S (ih k C (pc + 1) L)
  | .iand => xe_bin (fun x y => x &&& y) S (ih k C (pc + 1) L)
  | .ior => xe_bin (fun x y => x ||| y) S (ih k C (pc + 1) L)
  | .ixor => xe_bin (fun x y => x ^^^ y) S (ih k C (pc + 1) L)
  | .ishl => xe_bin (fun x y => x <<< (y &&& 31)) S (ih k C (pc + 1) L)
  | .ishr => xe_bin (fun x y => x >>> (y &&& 31)) S (ih k C (pc + 1) L)
  | .iushr => xe_bin (fun x y => (x.toUInt32 >>> (y.toUInt32 &&& Int32.toUInt32 31)).toInt32) S (ih k C (pc + 1) L)
  | .dup => xe_dup S (ih k C (pc + 1) L)
  | .dup2 => xe_dup2 S (ih k C (pc + 1) L)
  | .pop => xe_pop1 S (ih k C (pc + 1) L)
  | .goto off => xe_jmp pc off (fun t => ih k C t L S)
  | .ifCond .eq off => xe_jmp pc off fun t => xe_br1 (fun x => decide (x = 0)) S (ih k C t L) (ih k C (pc + 3) L)
  | .ifCond .ne off => xe_jmp pc off fun t => xe_br1 (fun x => decide (x ≠ 0)) S (ih k C t L) (ih k C (pc + 3) L)
  | .ifCond .lt off => xe_jmp pc off fun t => xe_br1 (fun x => decide (x < 0)) S (ih k C t L) (ih k C (pc + 3) L)
  | .ifCond .ge off => xe_jmp pc off fun t => xe_br1 (fun x => decide (0 ≤ x)) S (ih k C t L) (ih k C (pc + 3) L)
  | .ifCond .gt off => xe_jmp pc off fun t => xe_br1 (fun x => decide (0 < x)) S (ih k C t L) (ih k C (pc + 3) L)
  | .ifCond .le off => xe_jmp pc off fun t => xe_br1 (fun x => decide (x ≤ 0)) S (ih k C t L) (ih k C (pc + 3) L)
  | .if_icmp .eq off => xe_jmp pc off fun t => xe_br2 (fun x y => decide (x = y)) S (ih k C t L) (ih k C (pc + 3) L)
  | .if_icmp .ne off => xe_jmp pc off fun t => xe_br2 (fun x y => decide (x ≠ y)) S (ih k C t L) (ih k C (pc + 3) L)
  | .if_icmp .lt off => xe_jmp pc off fun t => xe_br2 (fun x y => decide (x < y)) S (ih k C t L) (ih k C (pc + 3) L)
  | .if_icmp .ge off => xe_jmp pc off fun t => xe_br2 (fun x y => decide (y ≤ x)) S (ih k C t L) (ih k C (pc + 3) L)
  | .if_icmp .gt off => xe_jmp pc off fun t => xe_br2 (fun x y => decide (y < x)) S (ih k C t L) (ih k C (pc + 3) L)
  | .if_icmp .le off => xe_jmp pc off fun t => xe_br2 (fun x y => decide (x ≤ y)) S (ih k C t L) (ih k C (pc + 3) L)
  | .tableswitch dflt lo hi offs => xe_swt pc dflt lo hi offs S (fun t T => ih k C t L T)
  | .lookupswitch dflt ps => xe_swl pc dflt ps S (fun t T => ih k C t L T)
  | .getfield idx => xe_get (xm_F (M k)) idx C S (ih k C (pc + 3) L)
  | .putfield idx => xe_put (xm_F (M k)) idx C S (fun C' T => ih k C' (pc + 3) L T)
  | .iaload => xe_ald 0 C S (ih k C (pc + 1) L)
  | .baload => xe_ald 1 C S (ih k C (pc + 1) L)
  | .iastore => xe_ast 0 (fun x => x) C S (fun C' T => ih k C' (pc + 1) L T)
  | .bastore => xe_ast 1 (fun x => vp_nar .boolean x) C S (fun C' T => ih k C' (pc + 1) L T)
  | .arraylength => xe_aln C S (ih k C (pc + 1) L)
  | .invokevirtual idx => xe_inv M ih k C pc L S true idx
  | .invokestatic idx => xe_inv M ih k C pc L S false idx
  | .ireturn => xe_irt (xm_r (M k)) C S
  | .return_ => xe_vrt (xm_r (M k)) C S
  | _ => none
/-- a shortcut: from a place to another one of the same method, with other cells and locals -/
abbrev xMac : Type := Nat → xC → Nat → xL → List Value → Option (xC × Nat × xL × List Value)
noncomputable def xe_b (M : Nat → xM) (mac : xMac) (ih : xH) : xH := fun k C pc0 L S => xe_fn pc0 fun pc => match mac k C pc L S with
  | some (C1, pc1, L1, S1) => ih k C1 pc1 L1 S1
  | none => match xe_lk (xm_t (M k)) pc with
    | none => none
    | some (i, _) => xe_i M ih k C pc L S i
/-- the run of a method: n instructions at most on every way -/
noncomputable def xe (M : Nat → xM) (mac : xMac) (n : Nat) : xH := Nat.rec (motive := fun _ => xH) (fun _ _ _ _ _ => none) (fun _ ih => xe_b M mac ih) n
/-- the length of an instruction, where it is fixed -/
def xe_okl (i : Instr) (len : Nat) : Bool := match i with
  | .bipush _ | .ldc _ | .iload _ | .aload _ | .istore _ => Nat.beq len 2
  | .sipush _ | .ldc_w _ | .iinc _ _ | .goto _ | .ifCond _ _ | .if_icmp _ _ | .getfield _ | .putfield _ | .invokevirtual _ | .invokestatic _ => Nat.beq len 3
  | .tableswitch _ _ _ _ | .lookupswitch _ _ => true
  | _ => Nat.beq len 1
