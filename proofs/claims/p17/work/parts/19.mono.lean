/-! MORE LOCALS do no harm -/
def lSub (L1 L2 : xL) : Prop := (∀ j v, xe_as L1 j = some v → xe_as L2 j = some v) ∧ (∀ q ∈ L1, q.2.category = 1) ∧ ∀ q ∈ L2, q.2.category = 1
theorem as_st {L : xL} (h : ∀ q ∈ L, q.2.category = 1) (i j : Nat) (v : Value) : xe_as (xe_st L i v) j = cond (Nat.beq i j) (some v) (xe_as L j) := by
  show cond (Nat.beq i j) (some v) (xe_as (L.filter (fun q => !(q.1 == i) && !(q.1 + 1 == i && q.2.category == 2))) j) = _
  cases hb : Nat.beq i j with
  | true => rfl
  | false =>
    simp only [cond_false]
    have hij : ¬ i = j := fun e => by rw [e, Nat.beq_refl] at hb; cases hb
    induction L with
    | nil => rfl
    | cons q t ih =>
      have ih := ih (fun r hr => h r (List.mem_cons_of_mem _ hr))
      have hq := h q List.mem_cons_self
      rw [List.filter_cons]
      by_cases e : q.1 = i
      · rw [if_neg (by simp [e])]
        rw [ih]
        show _ = cond (Nat.beq q.1 j) (some q.2) (xe_as t j)
        rw [e, hb]
        rfl
      · rw [if_pos (by simp [e, hq])]
        show cond (Nat.beq q.1 j) (some q.2) (xe_as (t.filter _) j) = cond (Nat.beq q.1 j) (some q.2) (xe_as t j)
        rw [ih]
theorem lSub_st {L1 L2 : xL} (h : lSub L1 L2) (i : Nat) {v : Value} (hv : v.category = 1) : lSub (xe_st L1 i v) (xe_st L2 i v) := by
  obtain ⟨h1, h2, h3⟩ := h
  refine ⟨fun j w hw => ?_, fun q hq => ?_, fun q hq => ?_⟩
  · rw [as_st h2] at hw
    rw [as_st h3]
    cases hb : Nat.beq i j with
    | true => rw [hb] at hw; exact hw
    | false => rw [hb] at hw; exact h1 j w hw
  · rcases List.mem_cons.mp hq with e | e
    · rw [e]; exact hv
    · exact h2 q (List.mem_filter.mp e).1
  · rcases List.mem_cons.mp hq with e | e
    · rw [e]; exact hv
    · exact h3 q (List.mem_filter.mp e).1
section MONO
variable {r : Option Value × xC} {go1 go2 : List Value → xR}
theorem mo_push {x : Int32} {S : List Value} (H : ∀ T, go1 T = some r → go2 T = some r) (h : xe_push x S go1 = some r) : xe_push x S go2 = some r := by
  rw [xe_push_eq] at h ⊢
  exact H _ h
theorem mo_bin {g : Int32 → Int32 → Int32} {S : List Value} (H : ∀ T, go1 T = some r → go2 T = some r) (h : xe_bin g S go1 = some r) : xe_bin g S go2 = some r := by
  have h2 := xe_bin_inv h
  clear h
  obtain ⟨x, y, T, rfl, h⟩ := h2
  exact (xe_push_eq _ _ _).trans (H _ h)
theorem mo_jmp {pc : Nat} {off : Int} {g1 g2 : Nat → xR} (H : ∀ t, g1 t = some r → g2 t = some r) (h : xe_jmp pc off g1 = some r) : xe_jmp pc off g2 = some r := by
  obtain ⟨t, ht, h⟩ := xe_jmp_inv h
  rw [jmp_at ht]
  exact H t h
theorem mo_br1 {q : Int32 → Bool} {S : List Value} {b1 b2 : List Value → xR} (H : ∀ T, go1 T = some r → go2 T = some r) (H2 : ∀ T, b1 T = some r → b2 T = some r) (h : xe_br1 q S go1 b1 = some r) : xe_br1 q S go2 b2 = some r := by
  obtain ⟨x, T, rfl, h1, h2⟩ := xe_br1_inv h
  show cond (q x) (go2 T) (b2 T) = some r
  cases hq : q x with
  | true => exact H _ (h1 hq)
  | false => exact H2 _ (h2 hq)
theorem mo_br2 {q : Int32 → Int32 → Bool} {S : List Value} {b1 b2 : List Value → xR} (H : ∀ T, go1 T = some r → go2 T = some r) (H2 : ∀ T, b1 T = some r → b2 T = some r) (h : xe_br2 q S go1 b1 = some r) : xe_br2 q S go2 b2 = some r := by
  obtain ⟨x, y, T, rfl, h1, h2⟩ := xe_br2_inv h
  show cond (q x y) (go2 T) (b2 T) = some r
  cases hq : q x y with
  | true => exact H _ (h1 hq)
  | false => exact H2 _ (h2 hq)
theorem mo_ldi {L1 L2 : xL} (hL : lSub L1 L2) {j : Nat} {S : List Value} (H : ∀ T, go1 T = some r → go2 T = some r) (h : xe_ldi L1 j S go1 = some r) : xe_ldi L2 j S go2 = some r := by
  unfold xe_ldi at h ⊢
  split at h
  · rename_i x hx
    rw [hL.1 j _ hx]
    exact H _ h
  · cases h
theorem mo_lda {L1 L2 : xL} (hL : lSub L1 L2) {j : Nat} {S : List Value} (H : ∀ T, go1 T = some r → go2 T = some r) (h : xe_lda L1 j S go1 = some r) : xe_lda L2 j S go2 = some r := by
  unfold xe_lda at h ⊢
  split at h
  · rename_i x hx
    rw [hL.1 j _ hx]
    exact H _ h
  · cases h
theorem mo_sti {L1 L2 : xL} (hL : lSub L1 L2) {N j : Nat} {S : List Value} {g1 g2 : xL → List Value → xR} (H : ∀ L1 L2 T, lSub L1 L2 → g1 L1 T = some r → g2 L2 T = some r) (h : xe_sti N L1 j S g1 = some r) : xe_sti N L2 j S g2 = some r := by
  obtain ⟨x, T, rfl, hj, h⟩ := xe_sti_inv h
  show cond (Nat.blt j N) (g2 (xe_st L2 j (.int x)) T) none = some r
  rw [Nat.blt_eq.mpr hj]
  exact H _ _ _ (lSub_st hL j rfl) h
theorem mo_inc {L1 L2 : xL} (hL : lSub L1 L2) {N j : Nat} {n : Int} {g1 g2 : xL → xR} (H : ∀ L1 L2, lSub L1 L2 → g1 L1 = some r → g2 L2 = some r) (h : xe_inc N L1 j n g1 = some r) : xe_inc N L2 j n g2 = some r := by
  unfold xe_inc at h ⊢
  split at h
  · rename_i x hx
    rw [hL.1 j _ hx]
    obtain ⟨q, h⟩ := cond_so h
    show cond (Nat.blt j N) _ none = some r
    rw [q]
    simp only [cond_true, xe_f_eq] at h ⊢
    exact H _ _ (lSub_st hL j rfl) h
  · cases h
theorem mo_get {F : List (Nat × Nat × Nat × Nat)} {idx : Nat} {C : xC} {S : List Value} (H : ∀ T, go1 T = some r → go2 T = some r) (h : xe_get F idx C S go1 = some r) : xe_get F idx C S go2 = some r := by
  cases S with
  | nil => cases (show (none : xR) = some r from h)
  | cons v T =>
    cases v with
    | ref a =>
      cases hF : xe_as F idx with
      | none => simp [xe_get, hF] at h
      | some q =>
        obtain ⟨ci, j, t⟩ := q
        cases hC : xe_nth C a with
        | none => simp [xe_get, hF, hC] at h
        | some c =>
          rcases c with c | ⟨cj, fs⟩
          · simp [xe_get, hF, hC] at h
          · simp only [xe_get, hF, hC] at h ⊢
            have h2 := cond_so h
            clear h
            obtain ⟨q, h⟩ := h2
            rw [q]
            simp only [cond_true]
            cases hj : xe_nth fs j with
            | none => rw [hj] at h; cases h
            | some v => rw [hj] at h; exact H _ h
    | _ => cases (show (none : xR) = some r from h)
theorem mo_put {F : List (Nat × Nat × Nat × Nat)} {idx : Nat} {C : xC} {S : List Value} {g1 g2 : xC → List Value → xR} (H : ∀ C T, g1 C T = some r → g2 C T = some r) (h : xe_put F idx C S g1 = some r) : xe_put F idx C S g2 = some r := by
  cases S with
  | nil => cases (show (none : xR) = some r from h)
  | cons v T =>
    cases v with
    | int v =>
      cases T with
      | nil => cases (show (none : xR) = some r from h)
      | cons w T =>
        cases w with
        | ref a =>
          cases hF : xe_as F idx with
          | none => simp [xe_put, hF] at h
          | some q =>
            obtain ⟨ci, j, t⟩ := q
            cases hC : xe_nth C a with
            | none => simp [xe_put, hF, hC] at h
            | some c =>
              rcases c with c | ⟨cj, fs⟩
              · simp [xe_put, hF, hC] at h
              · simp only [xe_put, hF, hC] at h ⊢
                have h2 := cond_so h
                clear h
                obtain ⟨q, h⟩ := h2
                rw [q]
                simp only [cond_true, xe_set_eq] at h ⊢
                exact H _ _ h
        | _ => cases (show (none : xR) = some r from h)
    | _ => cases (show (none : xR) = some r from h)
theorem mo_ald {tag : Nat} {C : xC} {S : List Value} (H : ∀ T, go1 T = some r → go2 T = some r) (h : xe_ald tag C S go1 = some r) : xe_ald tag C S go2 = some r := by
  have h2 := xe_ald_inv h
  obtain ⟨i, a, T, n, f, rfl, hC, hi, h3⟩ := h2
  have hC2 : xe_nth C a = some (.inl (tag, n, .inl f)) := by rw [xe_nth_eq]; exact hC
  unfold xe_ald at h ⊢
  simp only [hC2] at h ⊢
  have h2 := cond_so h
  rw [h2.1]
  simp only [cond_true, xe_fn_eq, xe_push_eq]
  exact H _ h3
theorem mo_ast {tag : Nat} {nar : Int32 → Int32} {C : xC} {S : List Value} {g1 g2 : xC → List Value → xR} (H : ∀ C T, g1 C T = some r → g2 C T = some r) (h : xe_ast tag nar C S g1 = some r) : xe_ast tag nar C S g2 = some r := by
  have h2 := xe_ast_inv h
  obtain ⟨x, i, a, T, n, f, rfl, hC, hi, h3⟩ := h2
  have hC2 : xe_nth C a = some (.inl (tag, n, .inl f)) := by rw [xe_nth_eq]; exact hC
  unfold xe_ast at h ⊢
  simp only [hC2] at h ⊢
  have h2 := cond_so h
  rw [h2.1]
  simp only [cond_true, xe_fn_eq, xe_f_eq, xe_set_eq]
  exact H _ _ h3
theorem mo_aln {C : xC} {S : List Value} (H : ∀ T, go1 T = some r → go2 T = some r) (h : xe_aln C S go1 = some r) : xe_aln C S go2 = some r := by
  have h2 := xe_aln_inv h
  obtain ⟨a, T, t, x, rfl, hC, ht, h3⟩ := h2
  have hC2 : xe_nth C a = some (.inl (t, x)) := by rw [xe_nth_eq]; exact hC
  unfold xe_aln at h ⊢
  simp only [hC2] at h ⊢
  have h2 := cond_so h
  rw [h2.1]
  simp only [cond_true, xe_push_eq]
  exact H _ h3
theorem mo_swt {pc : Nat} {dflt lo hi : Int} {offs : Array Int} {S : List Value} {g1 g2 : Nat → List Value → xR} (H : ∀ t T, g1 t T = some r → g2 t T = some r) (h : xe_swt pc dflt lo hi offs S g1 = some r) : xe_swt pc dflt lo hi offs S g2 = some r := by
  unfold xe_swt at h ⊢
  split at h
  · rename_i x T
    cases hq : (decide (x.toInt < lo) || decide (hi < x.toInt)) with
    | true =>
      rw [hq] at h
      exact mo_jmp (fun t h => H t _ h) h
    | false =>
      rw [hq] at h
      simp only [cond_false] at h ⊢
      split at h
      · exact mo_jmp (fun t h => H t _ h) h
      · cases h
  · cases h
theorem mo_swl {pc : Nat} {dflt : Int} {ps : Array (Int × Int)} {S : List Value} {g1 g2 : Nat → List Value → xR} (H : ∀ t T, g1 t T = some r → g2 t T = some r) (h : xe_swl pc dflt ps S g1 = some r) : xe_swl pc dflt ps S g2 = some r := by
  unfold xe_swl at h ⊢
  split at h
  · obtain ⟨q, h⟩ := cond_so h
    rw [q]
    exact mo_jmp (fun t h => H t _ h) h
  · cases h
theorem mo_ldc {K : List (Nat × Int32)} {idx : Nat} {S : List Value} (H : ∀ T, go1 T = some r → go2 T = some r) (h : xe_ldc K idx S go1 = some r) : xe_ldc K idx S go2 = some r := by
  unfold xe_ldc at h ⊢
  split at h
  · exact H _ h
  · cases h
theorem mo_dup {S : List Value} (H : ∀ T, go1 T = some r → go2 T = some r) (h : xe_dup S go1 = some r) : xe_dup S go2 = some r := by
  unfold xe_dup at h ⊢
  split at h
  · obtain ⟨q, h⟩ := cond_so h
    rw [q]
    exact H _ h
  · cases h
theorem mo_dup2 {S : List Value} (H : ∀ T, go1 T = some r → go2 T = some r) (h : xe_dup2 S go1 = some r) : xe_dup2 S go2 = some r := by
  unfold xe_dup2 at h ⊢
  split at h
  · obtain ⟨q, h⟩ := cond_so h
    rw [q]
    exact H _ h
  · cases h
theorem mo_pop1 {S : List Value} (H : ∀ T, go1 T = some r → go2 T = some r) (h : xe_pop1 S go1 = some r) : xe_pop1 S go2 = some r := by
  unfold xe_pop1 at h ⊢
  split at h
  · obtain ⟨q, h⟩ := cond_so h
    rw [q]
    exact H _ h
  · cases h
theorem mo_call {X' : xM} {ih : xH} {k : Nat} {C : xC} {pc : Nat} {L1 L2 : xL} {k' : Nat} {vs rest : List Value} (H : ∀ C S, ih k C (pc + 3) L1 S = some r → ih k C (pc + 3) L2 S = some r) (h : xe_call X' ih k C pc L1 k' vs rest = some r) : xe_call X' ih k C pc L2 k' vs rest = some r := by
  unfold xe_call at h ⊢
  obtain ⟨q, h⟩ := cond_so h
  rw [q]
  simp only [cond_true]
  split at h
  · exact H _ _ h
  · exact H _ _ h
  · cases h
theorem mo_inv {M : Nat → xM} {ih : xH} {k : Nat} {C : xC} {pc : Nat} {L1 L2 : xL} {S : List Value} {virt : Bool} {idx : Nat} (H : ∀ C S, ih k C (pc + 3) L1 S = some r → ih k C (pc + 3) L2 S = some r) (h : xe_inv M ih k C pc L1 S virt idx = some r) : xe_inv M ih k C pc L2 S virt idx = some r := by
  cases virt with
  | true =>
    have h2 := xe_inv_v h
    cases hI : xe_as (xm_I (M k)) idx with
    | none => simp [xe_inv, hI] at h
    | some q =>
      obtain ⟨k', n, kd, ci⟩ := q
      cases hp : xe_pop n S [] with
      | none => simp [xe_inv, hI, hp] at h
      | some q =>
        obtain ⟨As, rest⟩ := q
        simp only [xe_inv, hI, hp, cond_true] at h ⊢
        have h2 := cond_so h
        clear h
        obtain ⟨q, h⟩ := h2
        rw [q]
        simp only [cond_true]
        cases rest with
        | nil => cases (show (none : xR) = some r from h)
        | cons v T =>
          cases v with
          | ref b =>
            cases hC : xe_nth C b with
            | none => simp [hC] at h
            | some c =>
              rcases c with c | ⟨cj, fs⟩
              · simp [hC] at h
              · simp only [hC] at h ⊢
                have h2 := cond_so h
                clear h
                obtain ⟨q, h⟩ := h2
                rw [q]
                exact mo_call H h
          | _ => cases (show (none : xR) = some r from h)
  | false =>
    cases hI : xe_as (xm_I (M k)) idx with
    | none => simp [xe_inv, hI] at h
    | some q =>
      obtain ⟨k', n, kd, ci⟩ := q
      cases hp : xe_pop n S [] with
      | none => simp [xe_inv, hI, hp] at h
      | some q =>
        obtain ⟨As, rest⟩ := q
        simp only [xe_inv, hI, hp, cond_false] at h ⊢
        cases hk : Nat.beq kd 0 with
        | true => rw [hk] at h; cases h
        | false =>
          rw [hk] at h
          exact mo_call H h
end MONO
set_option maxHeartbeats 1000000 in
theorem xe_i_sub {ih : xH} {r : Option Value × xC} (H : ∀ k C pc L1 L2 S, lSub L1 L2 → ih k C pc L1 S = some r → ih k C pc L2 S = some r) {k : Nat} {C : xC} {pc : Nat} {L1 L2 : xL} {S : List Value} {i : Instr} (hL : lSub L1 L2) (h : xe_i xMT ih k C pc L1 S i = some r) : xe_i xMT ih k C pc L2 S i = some r := by
  have H1 : ∀ {pc : Nat} (T : List Value), ih k C pc L1 T = some r → ih k C pc L2 T = some r := fun T h => H k C _ L1 L2 T hL h
  cases i with
  | iconst v => exact mo_push H1 h
  | bipush v => exact mo_push H1 h
  | sipush v => exact mo_push H1 h
  | ldc idx => exact mo_ldc H1 h
  | ldc_w idx => exact mo_ldc H1 h
  | iload_n j => exact mo_ldi hL H1 h
  | iload j => exact mo_ldi hL H1 h
  | aload_n j => exact mo_lda hL H1 h
  | aload j => exact mo_lda hL H1 h
  | istore_n j => exact mo_sti hL (fun L1 L2 T hL h => H k C _ L1 L2 T hL h) h
  | istore j => exact mo_sti hL (fun L1 L2 T hL h => H k C _ L1 L2 T hL h) h
  | iinc j n => exact mo_inc hL (fun L1 L2 hL h => H k C _ L1 L2 _ hL h) h
  | iadd => exact mo_bin H1 h
  | isub => exact mo_bin H1 h
  | imul => exact mo_bin H1 h
  | iand => exact mo_bin H1 h
  | ior => exact mo_bin H1 h
  | ixor => exact mo_bin H1 h
  | ishl => exact mo_bin H1 h
  | ishr => exact mo_bin H1 h
  | iushr => exact mo_bin H1 h
  | dup => exact mo_dup H1 h
  | dup2 => exact mo_dup2 H1 h
  | pop => exact mo_pop1 H1 h
  | goto off => exact mo_jmp (fun t h => H1 _ h) h
  | ifCond c off => cases c <;> exact mo_jmp (fun t h => mo_br1 H1 H1 h) h
  | if_icmp c off => cases c <;> exact mo_jmp (fun t h => mo_br2 H1 H1 h) h
  | tableswitch dflt lo hi offs => exact mo_swt (fun t T h => H1 _ h) h
  | lookupswitch dflt ps => exact mo_swl (fun t T h => H1 _ h) h
  | getfield idx => exact mo_get H1 h
  | putfield idx => exact mo_put (fun C T h => H k C _ L1 L2 T hL h) h
  | iaload => exact mo_ald H1 h
  | baload => exact mo_ald H1 h
  | iastore => exact mo_ast (fun C T h => H k C _ L1 L2 T hL h) h
  | bastore => exact mo_ast (fun C T h => H k C _ L1 L2 T hL h) h
  | arraylength => exact mo_aln H1 h
  | invokevirtual idx => exact mo_inv (fun C S h => H k C _ L1 L2 S hL h) h
  | invokestatic idx => exact mo_inv (fun C S h => H k C _ L1 L2 S hL h) h
  | ireturn => exact h
  | return_ => exact h
  | _ => cases (show (none : xR) = some r from h)
theorem xmac_L {k : Nat} {C : xC} {pc : Nat} {L1 : xL} {S : List Value} {C1 : xC} {pc1 : Nat} {L1' : xL} {S1 : List Value} (h : xmac k C pc L1 S = some (C1, pc1, L1', S1)) (L2 : xL) : L1' = L1 ∧ xmac k C pc L2 S = some (C1, pc1, L2, S1) := by
  have hd : ∀ p, xm_div C p L1 S = some (C1, pc1, L1', S1) → L1' = L1 ∧ xm_div C p L2 S = some (C1, pc1, L2, S1) := by
    intro p h
    obtain ⟨x, y, T, rfl, hy, e⟩ := xm_div_inv h
    cases e
    refine ⟨rfl, ?_⟩
    show cond (decide (y = 0)) none _ = _
    rw [decide_eq_false hy]
    rfl
  have hr : ∀ p, xm_rem C p L1 S = some (C1, pc1, L1', S1) → L1' = L1 ∧ xm_rem C p L2 S = some (C1, pc1, L2, S1) := by
    intro p h
    obtain ⟨x, y, T, rfl, hy, e⟩ := xm_rem_inv h
    cases e
    refine ⟨rfl, ?_⟩
    show cond (decide (y = 0)) none _ = _
    rw [decide_eq_false hy]
    rfl
  have hc : ∀ p, xm_cpy C p L1 S = some (C1, pc1, L1', S1) → L1' = L1 ∧ xm_cpy C p L2 S = some (C1, pc1, L2, S1) := by
    intro p h
    obtain ⟨n, dp, sp, a, b, n0, n1, f, g, rfl, h1, h2, h3, h4, h5, h6, h7, e⟩ := xm_cpy_inv h
    cases e
    refine ⟨rfl, ?_⟩
    unfold xm_cpy
    simp only [h1, h2]
    rw [decide_eq_true ⟨h3, h4, h5, h6, h7⟩]
    rfl
  unfold xmac at h ⊢
  cases q1 : (Nat.beq k 82 && Nat.beq pc 3) with
  | true => rw [q1] at h; exact hd _ h
  | false =>
    rw [q1] at h
    cases q2 : (Nat.beq k 83 && Nat.beq pc 3) with
    | true => rw [q2] at h; exact hr _ h
    | false =>
      rw [q2] at h
      cases q3 : (Nat.beq k 104 && Nat.beq pc 160) with
      | true => rw [q3] at h; exact hr _ h
      | false =>
        rw [q3] at h
        cases q4 : (Nat.beq k 52 && Nat.beq pc 11) with
        | true => rw [q4] at h; exact hc _ h
        | false => rw [q4] at h; cases h
theorem xmac_N {k : Nat} {C : xC} {pc : Nat} {L1 : xL} {S : List Value} (h : xmac k C pc L1 S = none) (L2 : xL) : xmac k C pc L2 S = none := by
  cases h2 : xmac k C pc L2 S with
  | none => rfl
  | some q =>
    obtain ⟨C1, pc1, L1', S1⟩ := q
    rw [(xmac_L h2 L1).2] at h
    cases h
theorem xe_sub {r : Option Value × xC} (n : Nat) : ∀ (k : Nat) (C : xC) (pc : Nat) (L1 L2 : xL) (S : List Value), lSub L1 L2 → xe xMT xmac n k C pc L1 S = some r → xe xMT xmac n k C pc L2 S = some r := by
  induction n with
  | zero => intro k C pc L1 L2 S _ h; cases h
  | succ n ih =>
    intro k C pc L1 L2 S hL h
    have h : xe_b xMT xmac (xe xMT xmac n) k C pc L1 S = some r := h
    show xe_b xMT xmac (xe xMT xmac n) k C pc L2 S = some r
    unfold xe_b at h ⊢
    rw [xe_fn_eq] at h ⊢
    cases hm : xmac k C pc L1 S with
    | some q =>
      obtain ⟨C1, pc1, L1', S1⟩ := q
      obtain ⟨e1, e2⟩ := xmac_L hm L2
      rw [hm] at h
      rw [e2]
      subst e1
      exact ih _ _ _ _ _ _ hL h
    | none =>
      rw [hm] at h
      rw [xmac_N hm L2]
      dsimp only at h ⊢
      split at h
      · cases h
      · exact xe_i_sub ih hL h
theorem RP_sub {k : Nat} {C : xC} {pc : Nat} {L1 L2 : xL} {S : List Value} {Φ : Option Value → xC → Prop} (hL : lSub L1 L2) (h : RP k C pc L1 S Φ) : RP k C pc L2 S Φ := by
  obtain ⟨m, r, C', h1, h2⟩ := h
  exact ⟨m, r, C', fun n => xe_sub _ _ _ _ _ _ _ hL (h1 n), h2⟩
