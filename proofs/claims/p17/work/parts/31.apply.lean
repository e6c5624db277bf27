/-! THE REFERENCE'S apply(): its loops that count and that move, by hand -/
section RPL
variable {k pc : Nat} {C : xC} {L : xL} {S : List Value} {Φ : Option Value → xC → Prop} {len : Nat}
theorem rl_iload {j : Fin 4} {x : Int32} (hsp : xspot k pc = false) (hlk : xe_lk (xm_t (xMT k)) pc = some (.iload_n j, len)) (hj : xe_as L j.val = some (.int x)) (g : RP k C (pc + 1) L (.int x :: S) Φ) : RP k C pc L S Φ := by
  refine RP_i (k1 := k) hsp hlk (fun ih => ?_) g
  show xe_ldi L j.val S (ih k C (pc + 1) L) = _
  unfold xe_ldi
  rw [hj]
theorem rl_aload {j : Fin 4} {x : Nat} (hsp : xspot k pc = false) (hlk : xe_lk (xm_t (xMT k)) pc = some (.aload_n j, len)) (hj : xe_as L j.val = some (.ref x)) (g : RP k C (pc + 1) L (.ref x :: S) Φ) : RP k C pc L S Φ := by
  refine RP_i (k1 := k) hsp hlk (fun ih => ?_) g
  show xe_lda L j.val S (ih k C (pc + 1) L) = _
  unfold xe_lda
  rw [hj]
theorem rl_get {idx p ci j t : Nat} {fs : List Value} {v : Value} (hsp : xspot k pc = false) (hlk : xe_lk (xm_t (xMT k)) pc = some (.getfield idx, len)) (hF : xe_as (xm_F (xMT k)) idx = some (ci, j, t)) (hC : C[p]? = some (.inr (ci, fs))) (hv : fs[j]? = some v) (g : RP k C (pc + 3) L (v :: S) Φ) : RP k C pc L (.ref p :: S) Φ := by
  refine RP_i (k1 := k) hsp hlk (fun ih => ?_) g
  show xe_get (xm_F (xMT k)) idx C (.ref p :: S) (ih k C (pc + 3) L) = _
  have hC2 : xe_nth C p = some (.inr (ci, fs)) := by rw [xe_nth_eq]; exact hC
  have hv2 : xe_nth fs j = some v := by rw [xe_nth_eq]; exact hv
  simp only [xe_get, hF, hC2, hv2, Nat.beq_refl, cond_true]
theorem rl_bin {i : Instr} {x y : Int32} {T : List Value} (f : Int32 → Int32 → Int32) (hsp : xspot k pc = false) (hlk : xe_lk (xm_t (xMT k)) pc = some (i, len)) (hi : ∀ ih : xH, xe_i xMT ih k C pc L (.int y :: .int x :: T) i = xe_bin f (.int y :: .int x :: T) (ih k C (pc + 1) L)) (g : RP k C (pc + 1) L (.int (f x y) :: T) Φ) : RP k C pc L (.int y :: .int x :: T) Φ :=
  RP_i (k1 := k) hsp hlk (fun ih => (hi ih).trans (xe_push_eq _ _ _)) g
theorem rl_const {i : Instr} {v : Int32} {pc1 : Nat} (hsp : xspot k pc = false) (hlk : xe_lk (xm_t (xMT k)) pc = some (i, len)) (hi : ∀ ih : xH, xe_i xMT ih k C pc L S i = xe_push v S (ih k C pc1 L)) (g : RP k C pc1 L (.int v :: S) Φ) : RP k C pc L S Φ :=
  RP_i (k1 := k) hsp hlk (fun ih => (hi ih).trans (xe_push_eq _ _ _)) g
theorem rl_ald {n p : Nat} {f : Nat → Int32} {i : Int32} {T : List Value} (hsp : xspot k pc = false) (hlk : xe_lk (xm_t (xMT k)) pc = some (.iaload, len)) (hC : C[p]? = some (.inl (0, n, .inl f))) (hi : decide (¬ (i < 0 ∨ n ≤ i.toNatClampNeg)) = true) (g : RP k C (pc + 1) L (.int (f i.toNatClampNeg) :: T) Φ) : RP k C pc L (.int i :: .ref p :: T) Φ := by
  refine RP_i (k1 := k) hsp hlk (fun ih => ?_) g
  show xe_ald 0 C (.int i :: .ref p :: T) (ih k C (pc + 1) L) = _
  have hC2 : xe_nth C p = some (.inl (0, n, .inl f)) := by rw [xe_nth_eq]; exact hC
  simp only [xe_ald, hC2]
  rw [hi]
  simp only [Nat.beq_refl, Bool.and_self, cond_true, xe_fn_eq, xe_push_eq]
theorem rl_ast {n p : Nat} {f : Nat → Int32} {x i : Int32} {T : List Value} (hsp : xspot k pc = false) (hlk : xe_lk (xm_t (xMT k)) pc = some (.iastore, len)) (hC : C[p]? = some (.inl (0, n, .inl f))) (hi : decide (¬ (i < 0 ∨ n ≤ i.toNatClampNeg)) = true) (g : RP k (C.set p (.inl (0, n, .inl (upd f i.toNatClampNeg x)))) (pc + 1) L T Φ) : RP k C pc L (.int x :: .int i :: .ref p :: T) Φ := by
  refine RP_i (k1 := k) hsp hlk (fun ih => ?_) g
  show xe_ast 0 (fun x => x) C (.int x :: .int i :: .ref p :: T) (fun C' T => ih k C' (pc + 1) L T) = _
  have hC2 : xe_nth C p = some (.inl (0, n, .inl f)) := by rw [xe_nth_eq]; exact hC
  simp only [xe_ast, hC2]
  rw [hi]
  simp only [Nat.beq_refl, Bool.and_self, cond_true, xe_fn_eq, xe_f_eq, xe_set_eq]
theorem rl_br {i : Instr} {b : Bool} {t : Nat} {S1 : List Value} (hsp : xspot k pc = false) (hlk : xe_lk (xm_t (xMT k)) pc = some (i, len)) (hi : ∀ ih : xH, xe_i xMT ih k C pc L S i = cond b (ih k C t L S1) (ih k C (pc + 3) L S1)) (g1 : b = true → RP k C t L S1 Φ) (g2 : b = false → RP k C (pc + 3) L S1 Φ) : RP k C pc L S Φ := by
  cases b with
  | true => exact RP_i (k1 := k) hsp hlk hi (g1 rfl)
  | false => exact RP_i (k1 := k) hsp hlk hi (g2 rfl)
theorem rl_icmp {i : Instr} {c : Nat} {off : Int} {x y : Int32} {t : Nat} {T : List Value} (hsp : xspot k pc = false) (hlk : xe_lk (xm_t (xMT k)) pc = some (i, len)) (hi : ∀ ih : xH, xe_i xMT ih k C pc L (.int y :: .int x :: T) i = xe_jmp pc off fun t => cond (bop c x y) (ih k C t L T) (ih k C (pc + 3) L T)) (ht : (pc : Int) + off = (t : Int)) (g1 : bop c x y = true → RP k C t L T Φ) (g2 : bop c x y = false → RP k C (pc + 3) L T Φ) : RP k C pc L (.int y :: .int x :: T) Φ :=
  rl_br hsp hlk (fun ih => (hi ih).trans (jmp_at ht)) g1 g2
theorem rl_ifc {i : Instr} {c : Nat} {off : Int} {x : Int32} {t : Nat} {T : List Value} (hsp : xspot k pc = false) (hlk : xe_lk (xm_t (xMT k)) pc = some (i, len)) (hi : ∀ ih : xH, xe_i xMT ih k C pc L (.int x :: T) i = xe_jmp pc off fun t => cond (bop c x (Int32.ofInt 0)) (ih k C t L T) (ih k C (pc + 3) L T)) (ht : (pc : Int) + off = (t : Int)) (g1 : bop c x (Int32.ofInt 0) = true → RP k C t L T Φ) (g2 : bop c x (Int32.ofInt 0) = false → RP k C (pc + 3) L T Φ) : RP k C pc L (.int x :: T) Φ :=
  rl_br hsp hlk (fun ih => (hi ih).trans (jmp_at ht)) g1 g2
theorem rl_sti {j : Fin 4} {x : Int32} {T : List Value} (hsp : xspot k pc = false) (hlk : xe_lk (xm_t (xMT k)) pc = some (.istore_n j, len)) (hn : Nat.blt j.val (xm_n (xMT k)) = true) (g : RP k C (pc + 1) (xe_st L j.val (.int x)) T Φ) : RP k C pc L (.int x :: T) Φ := by
  refine RP_i (k1 := k) hsp hlk (fun ih => ?_) g
  show cond (Nat.blt j.val (xm_n (xMT k))) _ none = _
  rw [hn]
  rfl
theorem rl_inc {j : Nat} {n : Int} {x : Int32} (hsp : xspot k pc = false) (hlk : xe_lk (xm_t (xMT k)) pc = some (.iinc j n, len)) (hj : xe_as L j = some (.int x)) (hn : Nat.blt j (xm_n (xMT k)) = true) (g : RP k C (pc + 3) (xe_st L j (.int (x + Int32.ofInt n))) S Φ) : RP k C pc L S Φ := by
  refine RP_i (k1 := k) hsp hlk (fun ih => ?_) g
  show xe_inc (xm_n (xMT k)) L j n (fun L' => ih k C (pc + 3) L' S) = _
  unfold xe_inc
  rw [hj]
  show cond (Nat.blt j (xm_n (xMT k))) _ none = _
  rw [hn]
  simp only [cond_true, xe_f_eq]
theorem rl_goto {off : Int} {t : Nat} (hsp : xspot k pc = false) (hlk : xe_lk (xm_t (xMT k)) pc = some (.goto off, len)) (ht : (pc : Int) + off = (t : Int)) (g : RP k C t L S Φ) : RP k C pc L S Φ :=
  RP_i (k1 := k) hsp hlk (fun ih => jmp_at ht) g
end RPL
def lC1 (L : xL) : Prop := ∀ q ∈ L, q.2.category = 1
theorem lC1_st {L : xL} (h : lC1 L) (i : Nat) (x : Int32) : lC1 (xe_st L i (.int x)) := fun q hq => by
  rcases List.mem_cons.mp hq with e | e
  · rw [e]; rfl
  · exact h q (List.mem_filter.mp e).1
theorem as_st_eq {L : xL} (h : lC1 L) (i : Nat) (v : Value) : xe_as (xe_st L i v) i = some v := by rw [as_st h, Nat.beq_refl]; rfl
theorem as_st_ne {L : xL} (h : lC1 L) {i j : Nat} (hij : Nat.beq i j = false) (v : Value) : xe_as (xe_st L i v) j = xe_as L j := by rw [as_st h, hij]; rfl
def cntN (g : Nat → Int) (f : Int) : Nat → Int
  | 0 => 0
  | n + 1 => cntN g f n + (if g n = f then 1 else 0)
theorem cntN_c (g : Nat → Int) (f : Int) (n : Nat) : 0 ≤ cntN g f n ∧ cntN g f n ≤ n := by
  induction n with
  | zero => exact ⟨Int.le_refl 0, Int.le_refl 0⟩
  | succ n ih =>
    have e : cntN g f (n + 1) = cntN g f n + (if g n = f then 1 else 0) := rfl
    rw [e]
    split <;> omega
set_option maxHeartbeats 2000000 in
theorem cnt_loop {Φ : Option Value → xC → Prop} {C : xC} {fs : List Value} {S : List Value} {g : Nat → Int} {M F : Int} {b : Nat} (hb : b = 40 ∨ b = 116) (h0 : C[0]? = some (.inr (5, fs))) (hM : fs[53]? = some (.int (Int32.ofInt M))) (hT : fs[54]? = some (.ref 29)) (hA : C[29]? = some (.inl (0, 12, .inl (fun j => Int32.ofInt (g j))))) (hM2 : 0 ≤ M ∧ M ≤ 12) (hF : aMN ≤ F ∧ F ≤ aMX) (hg : ∀ j, aMN ≤ g j ∧ g j ≤ aMX) (d : Nat) : ∀ (k : Nat) (n : Int) (L : xL), (k : Int) + d = M → lC1 L → xe_as L 0 = some (.ref 0) → xe_as L 1 = some (.int (Int32.ofInt F)) → xe_as L 2 = some (.int (Int32.ofInt n)) → xe_as L 3 = some (.int (Int32.ofInt (k : Int))) → (∀ L' : xL, lC1 L' → xe_as L' 2 = some (.int (Int32.ofInt (n + (cntN g F M.toNat - cntN g F k)))) → xe_as L' 3 = some (.int (Int32.ofInt M)) → (∀ j, j ≠ 2 → j ≠ 3 → xe_as L' j = xe_as L j) → RP 139 C (b + 32) L' S Φ) → RP 139 C b L S Φ := by
  have mx : ∀ z : Int, 0 ≤ z → z ≤ 12 → aMN ≤ z ∧ z ≤ aMX := fun z h1 h2 => ⟨by show -2147483648 ≤ z; omega, by show z ≤ 2147483647; omega⟩
  induction d with
  | zero =>
    intro k n L hk hc l0 l1 l2 l3 hgo
    refine rl_iload (j := 3) (len := 1) (by rcases hb with rfl | rfl <;> rfl) (by rcases hb with rfl | rfl <;> rfl) l3 ?_
    refine rl_aload (j := 0) (len := 1) (by rcases hb with rfl | rfl <;> rfl) (by rcases hb with rfl | rfl <;> rfl) l0 ?_
    refine rl_get (idx := 290) (ci := 5) (j := 53) (t := 0) (len := 3) (by rcases hb with rfl | rfl <;> rfl) (by rcases hb with rfl | rfl <;> rfl) rfl h0 hM ?_
    refine rl_icmp (i := .if_icmp .ge 27) (c := 3) (off := 27) (len := 3) (t := b + 32) (by rcases hb with rfl | rfl <;> rfl) (by rcases hb with rfl | rfl <;> rfl) (fun _ => rfl) (by omega) (fun _ => ?_) (fun hf => ?_)
    · refine hgo L hc ?_ ?_ (fun _ _ _ => rfl)
      · rw [l2, show M.toNat = k by omega, show n + (cntN g F k - cntN g F k) = n by omega]
      · rw [l3, show (k : Int) = M by omega]
    · have := (bop_c (c := 3) (mx k (by omega) (by omega)) (mx M hM2.1 hM2.2)).2 hf
      have this : (k : Int) < M := this
      omega
  | succ d ihd =>
    intro k n L hk hc l0 l1 l2 l3 hgo
    have tail : ∀ δ : Int, δ = (if g k = F then 1 else 0) → RP 139 C (b + 24) L (.int (Int32.ofInt δ) :: .int (Int32.ofInt n) :: S) Φ := by
      intro δ hδ
      refine rl_bin (i := .iadd) (len := 1) (fun x y => x + y) (by rcases hb with rfl | rfl <;> rfl) (by rcases hb with rfl | rfl <;> rfl) (fun _ => rfl) ?_
      show RP 139 C (b + 24 + 1) L (.int (Int32.ofInt n + Int32.ofInt δ) :: S) Φ
      rw [← Int32.ofInt_add]
      refine rl_sti (j := 2) (len := 1) (by rcases hb with rfl | rfl <;> rfl) (by rcases hb with rfl | rfl <;> rfl) rfl ?_
      have hc2 := lC1_st hc 2 (Int32.ofInt (n + δ))
      show RP 139 C (b + 24 + 1 + 1) (xe_st L 2 (.int (Int32.ofInt (n + δ)))) S Φ
      refine rl_inc (j := 3) (n := 1) (len := 3) (x := Int32.ofInt (k : Int)) (by rcases hb with rfl | rfl <;> rfl) (by rcases hb with rfl | rfl <;> rfl) (by rw [as_st_ne hc rfl]; exact l3) rfl ?_
      rw [show Int32.ofInt (k : Int) + Int32.ofInt 1 = Int32.ofInt ((k + 1 : Nat) : Int) by rw [← Int32.ofInt_add]; rfl]
      refine rl_goto (off := -29) (t := b) (len := 3) (by rcases hb with rfl | rfl <;> rfl) (by rcases hb with rfl | rfl <;> rfl) (by omega) ?_
      have hc3 := lC1_st hc2 3 (Int32.ofInt ((k + 1 : Nat) : Int))
      refine ihd (k + 1) (n + δ) _ (by omega) hc3 (by rw [as_st_ne hc2 rfl, as_st_ne hc rfl]; exact l0) (by rw [as_st_ne hc2 rfl, as_st_ne hc rfl]; exact l1) (by rw [as_st_ne hc2 rfl, as_st_eq hc]) (by rw [as_st_eq hc2]) (fun L' a1 a2 a3 a4 => hgo L' a1 ?_ a3 (fun j j2 j3 => ?_))
      · rw [a2]
        have e : cntN g F (k + 1) = cntN g F k + (if g k = F then 1 else 0) := rfl
        rw [e, ← hδ, show n + δ + (cntN g F M.toNat - (cntN g F k + δ)) = n + (cntN g F M.toNat - cntN g F k) by omega]
      · have b2 : Nat.beq 2 j = false := by
          cases hq : Nat.beq 2 j with
          | true => exact absurd (Nat.eq_of_beq_eq_true hq).symm j2
          | false => rfl
        have b3 : Nat.beq 3 j = false := by
          cases hq : Nat.beq 3 j with
          | true => exact absurd (Nat.eq_of_beq_eq_true hq).symm j3
          | false => rfl
        rw [a4 j j2 j3, as_st_ne hc2 b3, as_st_ne hc b2]
    refine rl_iload (j := 3) (len := 1) (by rcases hb with rfl | rfl <;> rfl) (by rcases hb with rfl | rfl <;> rfl) l3 ?_
    refine rl_aload (j := 0) (len := 1) (by rcases hb with rfl | rfl <;> rfl) (by rcases hb with rfl | rfl <;> rfl) l0 ?_
    refine rl_get (idx := 290) (ci := 5) (j := 53) (t := 0) (len := 3) (by rcases hb with rfl | rfl <;> rfl) (by rcases hb with rfl | rfl <;> rfl) rfl h0 hM ?_
    refine rl_icmp (i := .if_icmp .ge 27) (c := 3) (off := 27) (len := 3) (t := b + 32) (by rcases hb with rfl | rfl <;> rfl) (by rcases hb with rfl | rfl <;> rfl) (fun _ => rfl) (by omega) (fun hf => ?_) (fun _ => ?_)
    · have := (bop_c (c := 3) (mx k (by omega) (by omega)) (mx M hM2.1 hM2.2)).1 hf
      have this : M ≤ (k : Int) := this
      omega
    · refine rl_iload (j := 2) (len := 1) (by rcases hb with rfl | rfl <;> rfl) (by rcases hb with rfl | rfl <;> rfl) l2 ?_
      refine rl_aload (j := 0) (len := 1) (by rcases hb with rfl | rfl <;> rfl) (by rcases hb with rfl | rfl <;> rfl) l0 ?_
      refine rl_get (idx := 95) (ci := 5) (j := 54) (t := 2) (len := 3) (by rcases hb with rfl | rfl <;> rfl) (by rcases hb with rfl | rfl <;> rfl) rfl h0 hT ?_
      refine rl_iload (j := 3) (len := 1) (by rcases hb with rfl | rfl <;> rfl) (by rcases hb with rfl | rfl <;> rfl) l3 ?_
      have hck : (Int32.ofInt (k : Int)).toNatClampNeg = k := by
        rw [nb_clamp (by omega) (mx k (by omega) (by omega)).2]
        omega
      refine rl_ald (len := 1) (by rcases hb with rfl | rfl <;> rfl) (by rcases hb with rfl | rfl <;> rfl) hA (decide_eq_true (fun hh => ?_)) ?_
      · rcases hh with hh | hh
        · exact nb_not_neg (by omega) (mx k (by omega) (by omega)).2 hh
        · rw [hck] at hh
          omega
      · rw [hck]
        refine rl_iload (j := 1) (len := 1) (by rcases hb with rfl | rfl <;> rfl) (by rcases hb with rfl | rfl <;> rfl) l1 ?_
        refine rl_icmp (i := .if_icmp .ne 7) (c := 1) (off := 7) (len := 3) (t := b + 23) (by rcases hb with rfl | rfl <;> rfl) (by rcases hb with rfl | rfl <;> rfl) (fun _ => rfl) (by omega) (fun hf => ?_) (fun hf => ?_)
        · have hne : g k ≠ F := (bop_c (c := 1) (hg k) hF).1 hf
          refine rl_const (i := .iconst 0) (v := Int32.ofInt 0) (pc1 := b + 24) (len := 1) (by rcases hb with rfl | rfl <;> rfl) (by rcases hb with rfl | rfl <;> rfl) (fun _ => rfl) ?_
          exact tail 0 (by rw [if_neg hne])
        · have heq : g k = F := (bop_c (c := 1) (hg k) hF).2 hf
          refine rl_const (i := .iconst 1) (v := Int32.ofInt 1) (pc1 := b + 1 + 1 + 3 + 3 + 1 + 1 + 3 + 1 + 1 + 1 + 3 + 1) (len := 1) (by rcases hb with rfl | rfl <;> rfl) (by rcases hb with rfl | rfl <;> rfl) (fun _ => rfl) ?_
          refine rl_goto (off := 4) (t := b + 24) (len := 3) (by rcases hb with rfl | rfl <;> rfl) (by rcases hb with rfl | rfl <;> rfl) (by omega) ?_
          exact tail 1 (by rw [if_pos heq])
/-- the row of INSTRUCTIONS while those of a FUNCTION move: places from d on have moved -/
def mvf (g : Nat → Int) (F n ln d : Nat) : Nat → Int := fun j => if 150 * F + 5 * n + d ≤ j ∧ j < 150 * F + 5 * n + 5 * ln then g (j - 5 * n) else g j
set_option maxHeartbeats 2000000 in
theorem move_loop {Φ : Option Value → xC → Prop} {C0 : xC} {fs : List Value} {S : List Value} {g : Nat → Int} {F n ln : Nat} (h0 : C0[0]? = some (.inr (5, fs))) (hK : fs[0]? = some (.ref 1)) (hl1 : 1 < C0.length) (hF : F ≤ 5) (hn : n + ln ≤ 30) (d : Nat) : ∀ (L : xL), d ≤ 5 * ln → lC1 L → xe_as L 0 = some (.ref 0) → xe_as L 1 = some (.int (Int32.ofInt (F : Int))) → xe_as L 2 = some (.int (Int32.ofInt (n : Int))) → xe_as L 3 = some (.int (Int32.ofInt ((d : Int) - 1))) → (∀ L' : xL, lC1 L' → xe_as L' 3 = some (.int (Int32.ofInt (-1))) → (∀ j, j ≠ 3 → xe_as L' j = xe_as L j) → RP 139 (C0.set 1 (.inl (0, 900, .inl (fun j => Int32.ofInt (mvf g F n ln 0 j))))) 197 L' S Φ) → RP 139 (C0.set 1 (.inl (0, 900, .inl (fun j => Int32.ofInt (mvf g F n ln d j))))) 159 L S Φ := by
  have mx : ∀ z : Int, -1 ≤ z → z ≤ 900 → aMN ≤ z ∧ z ≤ aMX := fun z h1 h2 => ⟨by show -2147483648 ≤ z; omega, by show z ≤ 2147483647; omega⟩
  have hz : (0 : Int32) = Int32.ofInt 0 := rfl
  induction d with
  | zero =>
    intro L _ hc l0 l1 l2 l3 hgo
    refine rl_iload (j := 3) (len := 1) rfl rfl l3 ?_
    refine rl_ifc (i := .ifCond .lt 37) (c := 2) (off := 37) (len := 3) (t := 197) rfl rfl (fun _ => rfl) rfl (fun _ => ?_) (fun hf => ?_)
    · exact hgo L hc l3 (fun _ _ => rfl)
    · have := (bop_c (c := 2) (mx (((0 : Nat) : Int) - 1) (by omega) (by omega)) (mx 0 (by omega) (by omega))).2 hf
      have this : (0 : Int) ≤ ((0 : Nat) : Int) - 1 := this
      omega
  | succ d ihd =>
    intro L hd hc l0 l1 l2 l3 hgo
    have hx : ((d + 1 : Nat) : Int) - 1 = (d : Int) := by omega
    rw [hx] at l3
    have c0 : (C0.set 1 (.inl (0, 900, .inl (fun j => Int32.ofInt (mvf g F n ln (d + 1) j)))))[0]? = some (.inr (5, fs)) := by rw [List.getElem?_set_ne (by decide)]; exact h0
    have c1 : (C0.set 1 (.inl (0, 900, .inl (fun j => Int32.ofInt (mvf g F n ln (d + 1) j)))))[1]? = some (.inl (0, 900, .inl (fun j => Int32.ofInt (mvf g F n ln (d + 1) j)))) := List.getElem?_set_self hl1
    refine rl_iload (j := 3) (len := 1) rfl rfl l3 ?_
    refine rl_ifc (i := .ifCond .lt 37) (c := 2) (off := 37) (len := 3) (t := 197) rfl rfl (fun _ => rfl) rfl (fun hf => ?_) (fun _ => ?_)
    · have := (bop_c (c := 2) (mx (d : Int) (by omega) (by omega)) (mx 0 (by omega) (by omega))).1 hf
      have this : (d : Int) < 0 := this
      omega
    · refine rl_aload (j := 0) (len := 1) rfl rfl l0 ?_
      refine rl_get (idx := 7) (ci := 5) (j := 0) (t := 2) (len := 3) rfl rfl rfl c0 hK ?_
      refine rl_const (i := .sipush 150) (v := (Int16.ofInt 150).toInt32) (pc1 := 170) (len := 3) rfl rfl (fun _ => rfl) ?_
      refine rl_iload (j := 1) (len := 1) rfl rfl l1 ?_
      refine rl_bin (i := .imul) (len := 1) (fun x y => x * y) rfl rfl (fun _ => rfl) ?_
      refine rl_const (i := .iconst 5) (v := Int32.ofInt 5) (pc1 := 173) (len := 1) rfl rfl (fun _ => rfl) ?_
      refine rl_iload (j := 2) (len := 1) rfl rfl l2 ?_
      refine rl_bin (i := .imul) (len := 1) (fun x y => x * y) rfl rfl (fun _ => rfl) ?_
      refine rl_bin (i := .iadd) (len := 1) (fun x y => x + y) rfl rfl (fun _ => rfl) ?_
      refine rl_iload (j := 3) (len := 1) rfl rfl l3 ?_
      refine rl_bin (i := .iadd) (len := 1) (fun x y => x + y) rfl rfl (fun _ => rfl) ?_
      refine rl_aload (j := 0) (len := 1) rfl rfl l0 ?_
      refine rl_get (idx := 7) (ci := 5) (j := 0) (t := 2) (len := 3) rfl rfl rfl c0 hK ?_
      refine rl_const (i := .sipush 150) (v := (Int16.ofInt 150).toInt32) (pc1 := 185) (len := 3) rfl rfl (fun _ => rfl) ?_
      refine rl_iload (j := 1) (len := 1) rfl rfl l1 ?_
      refine rl_bin (i := .imul) (len := 1) (fun x y => x * y) rfl rfl (fun _ => rfl) ?_
      refine rl_iload (j := 3) (len := 1) rfl rfl l3 ?_
      refine rl_bin (i := .iadd) (len := 1) (fun x y => x + y) rfl rfl (fun _ => rfl) ?_
      have e1 : ((Int16.ofInt 150).toInt32 * Int32.ofInt (F : Int) + Int32.ofInt 5 * Int32.ofInt (n : Int) + Int32.ofInt (d : Int)) = Int32.ofInt ((150 * F + 5 * n + d : Nat) : Int) := by
        rw [nb_sipush 150 (by decide) (by decide), ← Int32.ofInt_mul, ← Int32.ofInt_mul, ← Int32.ofInt_add, ← Int32.ofInt_add]
        congr 1
      have e2 : ((Int16.ofInt 150).toInt32 * Int32.ofInt (F : Int) + Int32.ofInt (d : Int)) = Int32.ofInt ((150 * F + d : Nat) : Int) := by
        rw [nb_sipush 150 (by decide) (by decide), ← Int32.ofInt_mul, ← Int32.ofInt_add]
        congr 1
      show RP 139 _ 189 L (.int ((Int16.ofInt 150).toInt32 * Int32.ofInt (F : Int) + Int32.ofInt (d : Int)) :: .ref 1 :: .int ((Int16.ofInt 150).toInt32 * Int32.ofInt (F : Int) + Int32.ofInt 5 * Int32.ofInt (n : Int) + Int32.ofInt (d : Int)) :: .ref 1 :: S) Φ
      rw [e1, e2]
      have k2 : (Int32.ofInt ((150 * F + d : Nat) : Int)).toNatClampNeg = 150 * F + d := by
        rw [nb_clamp (by omega) (mx _ (by omega) (by omega)).2]
        omega
      have k1 : (Int32.ofInt ((150 * F + 5 * n + d : Nat) : Int)).toNatClampNeg = 150 * F + 5 * n + d := by
        rw [nb_clamp (by omega) (mx _ (by omega) (by omega)).2]
        omega
      refine rl_ald (len := 1) rfl rfl c1 (decide_eq_true (fun hh => ?_)) ?_
      · rcases hh with hh | hh
        · exact nb_not_neg (by omega) (mx _ (by omega) (by omega)).2 hh
        · rw [k2] at hh
          omega
      refine rl_ast (len := 1) rfl rfl c1 (decide_eq_true (fun hh => ?_)) ?_
      · rcases hh with hh | hh
        · exact nb_not_neg (by omega) (mx _ (by omega) (by omega)).2 hh
        · rw [k1] at hh
          omega
      have e3 : upd (fun j => Int32.ofInt (mvf g F n ln (d + 1) j)) (150 * F + 5 * n + d) (Int32.ofInt (mvf g F n ln (d + 1) (150 * F + d))) = fun j => Int32.ofInt (mvf g F n ln d j) := by
        funext j
        show (if j = 150 * F + 5 * n + d then Int32.ofInt (mvf g F n ln (d + 1) (150 * F + d)) else Int32.ofInt (mvf g F n ln (d + 1) j)) = Int32.ofInt (mvf g F n ln d j)
        unfold mvf
        by_cases hj : j = 150 * F + 5 * n + d
        · rw [if_pos hj, if_neg (by omega), if_pos (by omega), hj, show 150 * F + 5 * n + d - 5 * n = 150 * F + d by omega]
        · rw [if_neg hj]
          by_cases hq : 150 * F + 5 * n + d ≤ j ∧ j < 150 * F + 5 * n + 5 * ln
          · rw [if_pos hq, if_pos (by omega)]
          · rw [if_neg hq, if_neg (by omega)]
      rw [k1, k2, List.set_set, e3]
      refine rl_inc (j := 3) (n := -1) (len := 3) (x := Int32.ofInt (d : Int)) rfl rfl l3 rfl ?_
      rw [← Int32.ofInt_add, show (d : Int) + -1 = (d : Int) - 1 by omega]
      refine rl_goto (off := -35) (t := 159) (len := 3) rfl rfl rfl ?_
      have hc3 := lC1_st hc 3 (Int32.ofInt ((d : Int) - 1))
      refine ihd _ (by omega) hc3 (by rw [as_st_ne hc rfl]; exact l0) (by rw [as_st_ne hc rfl]; exact l1) (by rw [as_st_ne hc rfl]; exact l2) (by rw [as_st_eq hc]) (fun L' a1 a2 a3 => hgo L' a1 a2 (fun j j3 => ?_))
      have b3 : Nat.beq 3 j = false := by
        cases hq : Nat.beq 3 j with
        | true => exact absurd (Nat.eq_of_beq_eq_true hq).symm j3
        | false => rfl
      rw [a3 j j3, as_st_ne hc b3]
/-! the steps of their own kind -/
noncomputable def aCntK (cn tf mn pc1 : Nat) (e : aE) (k : Nat) (C : aH) (L : aL) (S : List aV) (fr : List aR) (F n k0 : aF) : Option (List aS) := match xe_nth C 0, xe_nth C 29 with
  | some (.inr (ci, fs)), some (.inl (t, m, r)) => match xe_nth fs 53, xe_nth fs 54 with
    | some (.inl M), some (.inr p) => cond (cond (cond (Nat.beq ci 5) (cond (Nat.beq t 0) (cond (Nat.beq m 12) (cond (Nat.beq r tf) (Nat.beq p 29) false) false) false) false) (cond (lEq M (0, [(mn, 1)])) (cond (lEq k0 (0, [])) (cond (prB e.2.1 e.2.2.2.1 F 0 5) (prB e.2.1 e.2.2.2.1 M 0 12) false) false) false) false) (match ldf e.2.2.2.2.1 cn F with
      | some c => fF (ladd n c) fun z => fL (aRm 3 (aRm 2 L)) fun L1 => some [(e, k, C, pc1, (3, .inl M) :: (2, .inl z) :: L1, S, fr)]
      | none => none) none
    | _, _ => none
  | _, _ => none
noncomputable def aCnt (cn tf mn pc0 pc1 : Nat) (s : aS) : Option (List aS) := match s with
  | (e, k, C, pc, L, S, fr) => cond (cond (Nat.beq k 139) (Nat.beq pc pc0) false) (match xe_as L 0, xe_as L 1, xe_as L 2, xe_as L 3 with
    | some (.inr z), some (.inl F), some (.inl n), some (.inl k0) => cond (Nat.beq z 0) (aCntK cn tf mn pc1 e k C L S fr F n k0) none
    | _, _, _, _ => none) none
theorem as_aRm {L : aL} {i j : Nat} : xe_as (aRm i L) j = cond (Nat.beq i j) none (xe_as L j) := by
  induction L with
  | nil => cases Nat.beq i j <;> rfl
  | cons q t ih =>
    show xe_as (cond (Nat.beq q.1 i) (aRm i t) (q :: aRm i t)) j = cond (Nat.beq i j) none (cond (Nat.beq q.1 j) (some q.2) (xe_as t j))
    cases hq : Nat.beq q.1 i with
    | true =>
      rw [← Nat.eq_of_beq_eq_true hq] at ih ⊢
      simp only [cond_true]
      rw [ih]
      cases Nat.beq q.1 j <;> rfl
    | false =>
      show cond (Nat.beq q.1 j) (some q.2) (xe_as (aRm i t) j) = _
      rw [ih]
      cases hj : Nat.beq q.1 j with
      | true =>
        have e := Nat.eq_of_beq_eq_true hj
        have hij : Nat.beq i j = false := by
          cases h : Nat.beq i j with
          | true => rw [e, Nat.eq_of_beq_eq_true h, Nat.beq_refl] at hq; cases hq
          | false => rfl
        rw [hij]
        rfl
      | false => rfl
theorem cL_C1 (σ : aσ) (L : aL) : lC1 (cL σ L) := fun q hq => by
  obtain ⟨z, _, h2⟩ := List.mem_map.mp hq
  rw [← h2]
  exact cV_cat _ _
theorem cnt_ok {G : aG} {Φ : Option Value → xC → Prop} {σ : aσ} {cn tf mn pc0 pc1 : Nat} {s : aS} {ss : List aS} (hpc : (pc0 = 40 ∧ pc1 = 72) ∨ (pc0 = 116 ∧ pc1 = 148)) (hcn : ∀ j : Nat, σ cn j = cntN (σ tf) (j : Int) (σ mn 0).toNat) (ha : aCnt cn tf mn pc0 pc1 s = some ss) (hw : wfs s) (hs : satS G σ s) : Sim G Φ σ s ss := by
  obtain ⟨e, k, C, pc, L, S, fr⟩ := s
  unfold aCnt at ha
  dsimp only at ha
  have h9 := cond_so ha
  clear ha
  obtain ⟨q0, ha⟩ := h9
  obtain ⟨q0, q1⟩ := cond_tf q0
  have ek := Nat.eq_of_beq_eq_true q0
  have ep := Nat.eq_of_beq_eq_true q1
  subst ek; subst ep
  cases l0 : xe_as L 0 with
  | none => rw [l0] at ha; cases ha
  | some v0 =>
  cases l1 : xe_as L 1 with
  | none => rw [l0, l1] at ha; cases v0 <;> cases ha
  | some v1 =>
  cases l2 : xe_as L 2 with
  | none => rw [l0, l1, l2] at ha; cases v0 <;> cases v1 <;> cases ha
  | some v2 =>
  cases l3 : xe_as L 3 with
  | none => rw [l0, l1, l2, l3] at ha; cases v0 <;> cases v1 <;> cases v2 <;> cases ha
  | some v3 =>
  rw [l0, l1, l2, l3] at ha
  cases v0 with
  | inl a => cases ha
  | inr z =>
  cases v1 with
  | inr a => cases ha
  | inl F =>
  cases v2 with
  | inr a => cases ha
  | inl n =>
  cases v3 with
  | inr a => cases ha
  | inl k0 =>
  have h8 : cond (Nat.beq z 0) (aCntK cn tf mn pc1 e 139 C L S fr F n k0) none = some ss := ha
  clear ha
  have h9 := cond_so h8
  clear h8
  obtain ⟨qz, ha⟩ := h9
  have ez := Nat.eq_of_beq_eq_true qz
  subst ez
  unfold aCntK at ha
  split at ha
  · rename_i ci fs t m r hC0 hC29
    split at ha
    · rename_i M p hf53 hf54
      have h9 := cond_so ha
      clear ha
      obtain ⟨g1, ha⟩ := h9
      obtain ⟨g1, g2⟩ := cond_tf g1
      obtain ⟨a1, g1⟩ := cond_tf g1
      obtain ⟨a2, g1⟩ := cond_tf g1
      obtain ⟨a3, g1⟩ := cond_tf g1
      obtain ⟨a4, a5⟩ := cond_tf g1
      obtain ⟨a6, g2⟩ := cond_tf g2
      obtain ⟨a7, g2⟩ := cond_tf g2
      obtain ⟨a8, a9⟩ := cond_tf g2
      cases hld : ldf e.2.2.2.2.1 cn F with
      | none => rw [hld] at ha; cases ha
      | some c =>
      rw [hld] at ha
      simp only [fF_eq, fL_eq] at ha
      have hss : ss = [(e, 139, C, pc1, (3, .inl M) :: (2, .inl (ladd n c)) :: aRm 3 (aRm 2 L), S, fr)] := (Option.some.inj ha).symm
      clear ha
      have hB : aBD σ := hs.1.1
      have hV : aRG σ e.2.1 := hs.1.2.1
      have hK : aKK σ e.2.2.2.1 := hs.1.2.2.2.1
      have rF := prB_c hB hV hK a8
      have rM := prB_c hB hV hK a9
      have eM : M = (0, [(mn, 1)]) := lEq_eq a6
      have vM : cF σ M = σ mn 0 := by rw [eM, lvar_c]
      have ek0 : cF σ k0 = 0 := by rw [lEq_eq a7, lcst_c]
      have hmem := ldf_mem hld
      have hc1 : σ cn (cF σ F).toNat = cF σ c := hs.1.2.2.2.2.1 _ hmem
      have hcw : wF e.1 c := (hw.1.2.2.2.1 _ hmem).2.2
      have hcv : cF σ c = cntN (σ tf) (cF σ F) (cF σ M).toNat := by
        rw [← hc1, hcn, vM, show (((cF σ F).toNat : Nat) : Int) = cF σ F by omega]
      have wn : wF e.1 n := as_w hw.2.2.1 l2
      have wM : wF e.1 M := by
        have hk : wK e.1 (.inr (ci, fs)) := nth_w hw.2.1 hC0
        rw [xe_nth_eq] at hf53
        exact hk _ (List.mem_of_getElem? hf53)
      rw [hss]
      refine sim_e hw hs hs.1 hw.1 rfl rfl (consL_w (v := .inl M) wM (consL_w (v := .inl (ladd n c)) (ladd_w wn hcw) (rm_w (rm_w hw.2.2.1)))) hw.2.2.2.1 hw.2.2.2.2 (List.mem_singleton.mpr rfl) (fun gg => ?_)
      have gg : RP 139 (cH σ C) pc1 (cL σ ((3, .inl M) :: (2, .inl (ladd n c)) :: aRm 3 (aRm 2 L))) (S.map (cV σ)) (kont σ Φ fr) := gg
      show RP 139 (cH σ C) pc (cL σ L) (S.map (cV σ)) (kont σ Φ fr)
      have b1 : pc = 40 ∨ pc = 116 := hpc.elim (fun h => Or.inl h.1) (fun h => Or.inr h.1)
      have b2 : pc1 = pc + 32 := by omega
      have k1 : (cH σ C)[0]? = some (.inr (5, fs.map (cV σ))) := by
        rw [← xe_nth_eq, cH_get hC0, ← Nat.eq_of_beq_eq_true a1]
        rfl
      have k2 : (fs.map (cV σ))[53]? = some (.int (Int32.ofInt (cF σ M))) := by
        rw [xe_nth_eq] at hf53
        rw [List.getElem?_map, hf53]
        rfl
      have k3 : (fs.map (cV σ))[54]? = some (.ref 29) := by
        rw [xe_nth_eq] at hf54
        rw [List.getElem?_map, hf54, ← Nat.eq_of_beq_eq_true a5]
        rfl
      have k4 : (cH σ C)[29]? = some (.inl (0, 12, .inl (fun j => Int32.ofInt (σ tf j)))) := by
        rw [← xe_nth_eq, cH_get hC29, ← Nat.eq_of_beq_eq_true a2, ← Nat.eq_of_beq_eq_true a3, ← Nat.eq_of_beq_eq_true a4]
        rfl
      refine cnt_loop (g := σ tf) (M := cF σ M) (F := cF σ F) b1 k1 k2 k3 k4 rM ⟨by show -2147483648 ≤ _; omega, by show _ ≤ (2147483647 : Int); omega⟩ (fun j => hB tf j) (cF σ M).toNat 0 (cF σ n) (cL σ L) (by omega) (cL_C1 σ L) (by rw [as_cL, l0]; rfl) (by rw [as_cL, l1]; rfl) (by rw [as_cL, l2]; rfl) (by rw [as_cL, l3]; show some (Value.int (Int32.ofInt (cF σ k0))) = _; rw [ek0]; rfl) (fun L' c1 c2 c3 c4 => ?_)
      rw [← b2]
      refine RP_sub ⟨fun j w hj => ?_, cL_C1 σ _, c1⟩ gg
      rw [as_cL] at hj
      have hj : (cond (Nat.beq 3 j) (some (.inl M : aV)) (cond (Nat.beq 2 j) (some (.inl (ladd n c))) (xe_as (aRm 3 (aRm 2 L)) j))).map (cV σ) = some w := hj
      cases j3 : Nat.beq 3 j with
      | true =>
        rw [j3] at hj
        rw [← Nat.eq_of_beq_eq_true j3, c3]
        exact hj
      | false =>
        rw [j3] at hj
        simp only [cond_false] at hj
        cases j2 : Nat.beq 2 j with
        | true =>
          rw [j2] at hj
          rw [← Nat.eq_of_beq_eq_true j2, c2]
          have hj : some (Value.int (Int32.ofInt (cF σ (ladd n c)))) = some w := hj
          rw [ladd_c, hcv] at hj
          have ez : cntN (σ tf) (cF σ F) 0 = 0 := rfl
          rw [ez, show cF σ n + (cntN (σ tf) (cF σ F) (cF σ M).toNat - 0) = cF σ n + cntN (σ tf) (cF σ F) (cF σ M).toNat by omega]
          exact hj
        | false =>
          rw [j2] at hj
          simp only [cond_false] at hj
          rw [as_aRm, as_aRm, j3, j2] at hj
          have n2 : j ≠ 2 := fun e => by rw [e] at j2; cases j2
          have n3 : j ≠ 3 := fun e => by rw [e] at j3; cases j3
          rw [c4 j n2 n3, as_cL]
          exact hj
    · cases ha
  · cases ha
noncomputable def aMoveK (G : aG) (e : aE) (C : aH) (L : aL) (S : List aV) (fr : List aR) (F n i : aF) : Option (List aS) := match e with
  | (nv, V, AR, K, LD, OR, NE, TO, DF, g) => match xe_nth C 0, xe_nth C 1 with
    | some (.inr (ci, fs)), some (.inl (t, m, r)) => match xe_nth fs 0 with
      | some (.inr p) => fF (ldiv5 (ladd i (1, []))) fun ln => cond (cond (cond (Nat.beq ci 5) (cond (Nat.beq t 0) (cond (Nat.beq m 900) (cond (Nat.beq p 1) (cond (nmem 1 G.2.1) false true) false) false) false) false) (cond (lEq (ladd i (1, [])) (lmul 5 ln)) (cond (tol TO [r]) (cond (prB V K F 0 5) (cond (prB V K n 0 30) (cond (prB V K ln 0 30) (pr2 V K (lsub (lsub (30, []) n) ln)) false) false) false) false) false) false) (match vrg AR r with
          | (a, b) => xe_fn (Nat.succ nv) fun w => xe_set C 1 (.inl (t, m, nv)) fun C' => fL (aRm 3 L) fun L1 => some [((w, V, (nv, a, b) :: AR, K, LD, OR, NE, [nv] :: TO, DF, g), 139, C', 197, (3, .inl (-1, [])) :: L1, S, fr)]) none
      | _ => none
    | _, _ => none
noncomputable def aMove (G : aG) (s : aS) : Option (List aS) := match s with
  | (e, k, C, pc, L, S, fr) => cond (cond (Nat.beq k 139) (Nat.beq pc 159) false) (match xe_as L 0, xe_as L 1, xe_as L 2, xe_as L 3 with
    | some (.inr z), some (.inl F), some (.inl n), some (.inl i) => cond (Nat.beq z 0) (aMoveK G e C L S fr F n i) none
    | _, _, _, _ => none) none
theorem mv_told {σ : aσ} {r : Nat} {F n ln : Nat} (hF : F ≤ 5) (hn : n + ln ≤ 30) (ht : toldS σ [r]) {τ : aσ} {v : Nat} (hv : τ v = mvf (σ r) F n ln 0) : toldS τ [v] := by
  intro j hj
  rw [hv]
  by_cases h : 30 * F + n ≤ j ∧ j < 30 * F + n + ln
  · have key : ∀ q, q < 5 → mvf (σ r) F n ln 0 (5 * j + q) = σ r (5 * (j - n) + q) := fun q hq => by
      unfold mvf
      rw [if_pos (by omega), show 5 * j + q - 5 * n = 5 * (j - n) + q by omega]
    have k0 := key 0 (by omega)
    rw [Nat.add_zero, Nat.add_zero] at k0
    rw [k0, key 1 (by omega), key 2 (by omega), key 3 (by omega), key 4 (by omega)]
    exact ht (j - n) (by omega)
  · have key : ∀ q, q < 5 → mvf (σ r) F n ln 0 (5 * j + q) = σ r (5 * j + q) := fun q hq => by
      unfold mvf
      rw [if_neg (by omega)]
    have k0 := key 0 (by omega)
    rw [Nat.add_zero] at k0
    rw [k0, key 1 (by omega), key 2 (by omega), key 3 (by omega), key 4 (by omega)]
    exact ht j hj
theorem move_ok {G : aG} {Φ : Option Value → xC → Prop} {σ : aσ} {s : aS} {ss : List aS} (ha : aMove G s = some ss) (hw : wfs s) (hs : satS G σ s) : Sim G Φ σ s ss := by
  obtain ⟨e, k, C, pc, L, S, fr⟩ := s
  unfold aMove at ha
  dsimp only at ha
  have h9 := cond_so ha
  clear ha
  obtain ⟨q0, ha⟩ := h9
  obtain ⟨q0, q1⟩ := cond_tf q0
  have ek := Nat.eq_of_beq_eq_true q0
  have ep := Nat.eq_of_beq_eq_true q1
  subst ek; subst ep
  cases l0 : xe_as L 0 with
  | none => rw [l0] at ha; cases ha
  | some v0 =>
  cases l1 : xe_as L 1 with
  | none => rw [l0, l1] at ha; cases v0 <;> cases ha
  | some v1 =>
  cases l2 : xe_as L 2 with
  | none => rw [l0, l1, l2] at ha; cases v0 <;> cases v1 <;> cases ha
  | some v2 =>
  cases l3 : xe_as L 3 with
  | none => rw [l0, l1, l2, l3] at ha; cases v0 <;> cases v1 <;> cases v2 <;> cases ha
  | some v3 =>
  rw [l0, l1, l2, l3] at ha
  cases v0 with
  | inl a => cases ha
  | inr z =>
  cases v1 with
  | inr a => cases ha
  | inl F =>
  cases v2 with
  | inr a => cases ha
  | inl n =>
  cases v3 with
  | inr a => cases ha
  | inl i =>
  have h8 : cond (Nat.beq z 0) (aMoveK G e C L S fr F n i) none = some ss := ha
  clear ha
  have h9 := cond_so h8
  clear h8
  obtain ⟨qz, ha⟩ := h9
  have ez := Nat.eq_of_beq_eq_true qz
  subst ez
  obtain ⟨nv, V, AR, K, LD, OR, NE, TO, DF, gg⟩ := e
  unfold aMoveK at ha
  dsimp only at ha
  split at ha
  · rename_i ci fs t m r hC0 hC1
    split at ha
    · rename_i p hf0
      rw [fF_eq] at ha
      have h9 := cond_so ha
      clear ha
      obtain ⟨g1, ha⟩ := h9
      obtain ⟨g1, g2⟩ := cond_tf g1
      obtain ⟨a1, g1⟩ := cond_tf g1
      obtain ⟨a2, g1⟩ := cond_tf g1
      obtain ⟨a3, g1⟩ := cond_tf g1
      obtain ⟨a4, a5⟩ := cond_tf g1
      obtain ⟨b1, g2⟩ := cond_tf g2
      obtain ⟨b2, g2⟩ := cond_tf g2
      obtain ⟨b3, g2⟩ := cond_tf g2
      obtain ⟨b4, g2⟩ := cond_tf g2
      obtain ⟨b5, b6⟩ := cond_tf g2
      simp only [xe_fn_eq, xe_set_eq, fL_eq] at ha
      have hss : ss = [((Nat.succ nv, V, (nv, (vrg AR r).1, (vrg AR r).2) :: AR, K, LD, OR, NE, [nv] :: TO, DF, gg), 139, C.set 1 (.inl (t, m, nv)), 197, (3, .inl (-1, [])) :: aRm 3 L, S, fr)] := (Option.some.inj ha).symm
      clear ha
      have hB : aBD σ := hs.1.1
      have hV : aRG σ V := hs.1.2.1
      have hA : aRA σ AR := hs.1.2.2.1
      have hK : aKK σ K := hs.1.2.2.2.1
      have hT : aTOs σ TO := hs.1.2.2.2.2.2.2.2.1
      have rF := prB_c hB hV hK b3
      have rn := prB_c hB hV hK b4
      have rl := prB_c hB hV hK b5
      have rs := pr2_c hB hV hK b6
      rw [lsub_c, lsub_c, lcst_c] at rs
      have ei := congrArg (cF σ) (lEq_eq b1)
      rw [ladd_c, lcst_c, lmul_c] at ei
      have ht : toldS σ [r] := hT _ (tol_mem b2)
      have hC1' : C[1]? = some (.inl (t, m, r)) := by rw [← xe_nth_eq]; exact hC1
      have w2 : wH nv C := hw.2.1
      have w3 : wL nv L := hw.2.2.1
      have w4 : wS nv S := hw.2.2.2.1
      have w5 : wR nv fr := hw.2.2.2.2
      obtain ⟨Fn, hFn⟩ : ∃ q : Nat, cF σ F = (q : Int) := ⟨(cF σ F).toNat, by omega⟩
      obtain ⟨nn, hnn⟩ : ∃ q : Nat, cF σ n = (q : Int) := ⟨(cF σ n).toNat, by omega⟩
      obtain ⟨lnn, hln⟩ : ∃ q : Nat, cF σ (ldiv5 (ladd i (1, []))) = (q : Int) := ⟨(cF σ (ldiv5 (ladd i (1, [])))).toNat, by omega⟩
      obtain ⟨y, hy⟩ : ∃ y : Nat → Int, y = mvf (σ r) Fn nn lnn 0 := ⟨_, rfl⟩
      have hyr : ∀ j, ∃ j', y j = σ r j' := fun j => by
        rw [hy]
        unfold mvf
        split
        · exact ⟨_, rfl⟩
        · exact ⟨_, rfl⟩
      have hy1 : ∀ j, (vrg AR r).1 ≤ y j ∧ y j ≤ (vrg AR r).2 := fun j => by
        obtain ⟨j', e⟩ := hyr j
        rw [e]
        exact vra_c hB hA r j'
      have hy2 : ∀ j, aMN ≤ y j ∧ y j ≤ aMX := fun j => by
        obtain ⟨j', e⟩ := hyr j
        rw [e]
        exact hB r j'
      have hle := Nat.le_succ nv
      have hag := aUp_ag σ nv y
      obtain ⟨n1, n2⟩ := nwA_sat hs.1 hw.1 hy1 hy2
      have htold : toldS (aUp σ nv y) [nv] := mv_told (σ := σ) (r := r) (F := Fn) (n := nn) (ln := lnn) (by omega) (by omega) ht (by rw [aUp_at, hy])
      obtain ⟨r1, r2⟩ := retold_add n1 n2 htold (fun c hc => by
        rcases List.mem_cons.mp hc with e | e
        · rw [e]; exact Nat.lt_succ_self nv
        · exact absurd e List.not_mem_nil)
      have eH : cH (aUp σ nv y) (C.set 1 (.inl (t, m, nv))) = (cH σ C).set 1 (.inl (0, 900, .inl (fun j => Int32.ofInt (mvf (σ r) Fn nn lnn 0 j)))) := by
        rw [cH_set, ← cH_ag hag w2]
        show (cH σ C).set 1 (.inl (t, m, .inl (fun j => Int32.ofInt (aUp σ nv y nv j)))) = _
        rw [aUp_at, hy, Nat.eq_of_beq_eq_true a2, Nat.eq_of_beq_eq_true a3]
      have hwg : wF nv gg := hw.1.2.2.2.2.2.2.2.2
      rw [hss]
      refine Or.inr ⟨_, List.mem_singleton.mpr rfl, aUp σ nv y, hag, hle, ⟨r2, set_w (wH_le hle w2) (c := .inl (t, m, nv)) (Nat.lt_succ_self nv), consL_w (v := .inl (-1, [])) lcst_w (rm_w (wL_le hle w3)), wS_le hle w4, wR_le hle w5⟩, ⟨r1, ?_, ?_, hs.2.2.2⟩, fun ggo => ?_⟩
      · show phi G.2.1 (cH (aUp σ nv y) (C.set 1 (.inl (t, m, nv)))) ≤ cF (aUp σ nv y) gg
        rw [eH, ← cF_ag hag hwg]
        have hps := phi_set (PH := G.2.1) (C := cH σ C) (p := 1) (c := .inl (0, 900, .inl (fun j => Int32.ofInt (mvf (σ r) Fn nn lnn 0 j)))) (D := phiK ((cH σ C).set 1 (.inl (0, 900, .inl (fun j => Int32.ofInt (mvf (σ r) Fn nn lnn 0 j)))))[1]? - phiK (cH σ C)[1]?) (by omega) hs.2.2.2
        rw [if_neg (fun h => by rw [nmem_of h] at a5; cases a5)] at hps
        have hP0 : phi G.2.1 (cH σ C) ≤ cF σ gg := hs.2.1
        omega
      · show pmax G.2.1 (C.set 1 (.inl (t, m, nv))) ≤ G.2.2.1
        rw [pmax_set (PH := G.2.1) (d := .inl (t, m, nv)) hC1' rfl]
        exact hs.2.2.1
      · have ggo : RP 139 (cH (aUp σ nv y) (C.set 1 (.inl (t, m, nv)))) 197 (cL (aUp σ nv y) ((3, .inl (-1, [])) :: aRm 3 L)) (S.map (cV (aUp σ nv y))) (kont (aUp σ nv y) Φ fr) := ggo
        rw [eH, ← cL_ag hag (consL_w (v := .inl (-1, [])) lcst_w (rm_w w3)), ← cS_ag hag w4, ← kont_ag hag Φ w5] at ggo
        show RP 139 (cH σ C) 159 (cL σ L) (S.map (cV σ)) (kont σ Φ fr)
        have k1 : (cH σ C)[0]? = some (.inr (5, fs.map (cV σ))) := by
          rw [← xe_nth_eq, cH_get hC0, ← Nat.eq_of_beq_eq_true a1]
          rfl
        have k3 : (fs.map (cV σ))[0]? = some (.ref 1) := by
          rw [xe_nth_eq] at hf0
          rw [List.getElem?_map, hf0, ← Nat.eq_of_beq_eq_true a4]
          rfl
        have k4 : (cH σ C)[1]? = some (.inl (0, 900, .inl (fun j => Int32.ofInt (σ r j)))) := by
          rw [← xe_nth_eq, cH_get hC1, ← Nat.eq_of_beq_eq_true a2, ← Nat.eq_of_beq_eq_true a3]
          rfl
        have hself : (cH σ C).set 1 (.inl (0, 900, .inl (fun j => Int32.ofInt (mvf (σ r) Fn nn lnn (5 * lnn) j)))) = cH σ C := by
          have e0 : (fun j => Int32.ofInt (mvf (σ r) Fn nn lnn (5 * lnn) j)) = fun j => Int32.ofInt (σ r j) := by
            funext j
            unfold mvf
            rw [if_neg (by omega)]
          rw [e0]
          apply List.ext_getElem?
          intro q
          by_cases hq : 1 = q
          · subst hq
            rw [List.getElem?_set_self (List.getElem?_eq_some_iff.mp k4).1, k4]
          · rw [List.getElem?_set_ne hq]
        have hm := move_loop (Φ := kont σ Φ fr) (C0 := cH σ C) (S := S.map (cV σ)) (g := σ r) (F := Fn) (n := nn) (ln := lnn) k1 k3 (List.getElem?_eq_some_iff.mp k4).1 (by omega) (by omega) (5 * lnn) (cL σ L) (Nat.le_refl _) (cL_C1 σ L) (by rw [as_cL, l0]; rfl) (by rw [as_cL, l1]; show some (Value.int (Int32.ofInt (cF σ F))) = _; rw [hFn]) (by rw [as_cL, l2]; show some (Value.int (Int32.ofInt (cF σ n))) = _; rw [hnn]) (by rw [as_cL, l3]; show some (Value.int (Int32.ofInt (cF σ i))) = _; rw [show cF σ i = ((5 * lnn : Nat) : Int) - 1 by omega]) (fun L' c1 c2 c3 => by
          refine RP_sub ⟨fun j w hj => ?_, cL_C1 σ _, c1⟩ ggo
          rw [as_cL] at hj
          have hj : (cond (Nat.beq 3 j) (some (.inl (-1, []) : aV)) (xe_as (aRm 3 L) j)).map (cV σ) = some w := hj
          cases j3 : Nat.beq 3 j with
          | true =>
            rw [j3] at hj
            rw [← Nat.eq_of_beq_eq_true j3, c2]
            have hj : some (Value.int (Int32.ofInt (cF σ (-1, [])))) = some w := hj
            rw [lcst_c] at hj
            exact hj
          | false =>
            rw [j3] at hj
            simp only [cond_false] at hj
            rw [as_aRm, j3] at hj
            have n3 : j ≠ 3 := fun e => by rw [e] at j3; cases j3
            rw [c3 j n3, as_cL]
            exact hj)
        rw [hself] at hm
        exact hm
    · cases ha
  · cases ha
/-! what a store at a constant place leaves; facts that can't be -/
noncomputable def ldc5 (r nid : Nat) (i : Int) (l : List (Nat × aF × aF)) : List (Nat × aF × aF) → List (Nat × aF × aF) := List.rec (motive := fun _ => List (Nat × aF × aF) → List (Nat × aF × aF)) (fun a => a) (fun q _ ih a => cond (Nat.beq q.1 r) (match q.2.1.2 with
  | [] => cond (cond (iLe 0 q.2.1.1) (cond (iEq q.2.1.1 i) false true) false) (ih ((nid, q.2.1, q.2.2) :: a)) (ih a)
  | _ => ih a) (ih a)) l
theorem ldc5_mem {r nid : Nat} {i : Int} {l a : List (Nat × aF × aF)} {z : Nat × aF × aF} (h : z ∈ ldc5 r nid i l a) : z ∈ a ∨ ∃ q ∈ l, q.1 = r ∧ q.2.1.2 = [] ∧ 0 ≤ q.2.1.1 ∧ q.2.1.1 ≠ i ∧ z = (nid, q.2.1, q.2.2) := by
  induction l generalizing a with
  | nil => exact Or.inl h
  | cons q t ih =>
    have h : z ∈ cond (Nat.beq q.1 r) (match q.2.1.2 with
      | [] => cond (cond (iLe 0 q.2.1.1) (cond (iEq q.2.1.1 i) false true) false) (ldc5 r nid i t ((nid, q.2.1, q.2.2) :: a)) (ldc5 r nid i t a)
      | _ => ldc5 r nid i t a) (ldc5 r nid i t a) := h
    have up : ∀ a', z ∈ ldc5 r nid i t a' → z ∈ a' ∨ ∃ q' ∈ q :: t, q'.1 = r ∧ q'.2.1.2 = [] ∧ 0 ≤ q'.2.1.1 ∧ q'.2.1.1 ≠ i ∧ z = (nid, q'.2.1, q'.2.2) := fun a' h => by
      rcases ih h with h | ⟨y, y1, y2⟩
      · exact Or.inl h
      · exact Or.inr ⟨y, List.mem_cons_of_mem _ y1, y2⟩
    cases hr : Nat.beq q.1 r with
    | false => rw [hr] at h; exact up _ h
    | true =>
      rw [hr] at h
      simp only [cond_true] at h
      cases hl : q.2.1.2 with
      | cons y u => rw [hl] at h; exact up _ h
      | nil =>
        rw [hl] at h
        dsimp only at h
        cases hc : (cond (iLe 0 q.2.1.1) (cond (iEq q.2.1.1 i) false true) false) with
        | false => rw [hc] at h; exact up _ h
        | true =>
          rw [hc] at h
          obtain ⟨c1, c2⟩ := cond_tf hc
          rcases up _ h with h | h
          · rcases List.mem_cons.mp h with e | e
            · refine Or.inr ⟨q, List.mem_cons_self, Nat.eq_of_beq_eq_true hr, hl, iLe_le c1, (fun e2 => ?_), e⟩
              rw [e2, iEq_self] at c2
              cases c2
            · exact Or.inl e
          · exact Or.inr h
noncomputable def aCarry (e : aE) (C : aH) : Option aE := match e with
  | (nv, V, AR, K, LD, OR, NE, TO, DF, g) => match cid C 2 with
    | some nid => match dff DF nid with
      | some (r, i, _) => match i.2 with
        | [] => cond (iLe 0 i.1) (some (nv, V, AR, K, ldc5 r nid i.1 LD LD, OR, NE, TO, DF, g)) none
        | _ => none
      | none => none
    | none => none
theorem carry_c {σ : aσ} {e e' : aE} {C : aH} (h : aCarry e C = some e') (hs : sat σ e) (hw : wfe e.1 e) : sat σ e' ∧ wfe e.1 e' ∧ e'.1 = e.1 ∧ gE e' = gE e := by
  obtain ⟨nv, V, AR, K, LD, OR, NE, TO, DF, g⟩ := e
  unfold aCarry at h
  dsimp only at h
  cases hc : cid C 2 with
  | none => rw [hc] at h; cases h
  | some nid =>
    rw [hc] at h
    dsimp only at h
    cases hd : dff DF nid with
    | none => rw [hd] at h; cases h
    | some q =>
      obtain ⟨r, i, v⟩ := q
      rw [hd] at h
      dsimp only at h
      cases hi : i.2 with
      | cons y u => rw [hi] at h; cases h
      | nil =>
        rw [hi] at h
        have h9 := cond_so h
        clear h
        obtain ⟨c1, h⟩ := h9
        have he : e' = (nv, V, AR, K, ldc5 r nid i.1 LD LD, OR, NE, TO, DF, g) := (Option.some.inj h).symm
        subst he
        obtain ⟨s0, s1, s2, s3, s4, s5, s6, s7, s8⟩ := hs
        obtain ⟨w1, w2, w3, w4, w5, w6, w7, w8, w9⟩ := hw
        have s4 : aLDs σ LD := s4
        have hdf := s8 _ (xe_as_mem hd)
        have hwd := w8 _ (xe_as_mem hd)
        have ei : cF σ i = i.1 := by show i.1 + cT σ i.2 = i.1; rw [hi]; show i.1 + 0 = i.1; omega
        have c1 := iLe_le c1
        refine ⟨⟨s0, s1, s2, s3, fun z hz => ?_, s5, s6, s7, s8⟩, ⟨w1, w2, w3, fun z hz => ?_, w5, w6, w7, w8, w9⟩, rfl, rfl⟩
        · rcases ldc5_mem hz with h | ⟨q, q1, q2, q3, q4, q5, q6⟩
          · exact s4 z h
          · rw [q6]
            show σ nid (cF σ q.2.1).toNat = cF σ q.2.2
            have eq : cF σ q.2.1 = q.2.1.1 := by show q.2.1.1 + cT σ q.2.1.2 = q.2.1.1; rw [q3]; show q.2.1.1 + 0 = q.2.1.1; omega
            have h1 := hdf.2 (cF σ q.2.1).toNat
            have h1 : σ nid (cF σ q.2.1).toNat = if (cF σ q.2.1).toNat = (cF σ i).toNat then cF σ v else σ r (cF σ q.2.1).toNat := h1
            rw [h1, if_neg (by rw [eq, ei]; omega), ← q2]
            exact s4 q q1
        · rcases ldc5_mem hz with h | ⟨q, q1, q2, q3, q4, q5, q6⟩
          · exact w4 z h
          · rw [q6]
            exact ⟨hwd.1, (w4 q q1).2.1, (w4 q q1).2.2⟩
noncomputable def aPrune (V : List (Nat × Int × Int)) (K : List aF) : Bool := lAny (fun a => lAny (fun b => iLe (bhi V (ladd a b)) (-1)) K) K
theorem prune_c {σ : aσ} {V : List (Nat × Int × Int)} {K : List aF} (hB : aBD σ) (hV : aRG σ V) (hK : aKK σ K) (h : aPrune V K = true) : False := by
  obtain ⟨a, a1, a2⟩ := lAny_true h
  obtain ⟨b, b1, b2⟩ := lAny_true a2
  have h1 := hK a a1
  have h2 := hK b b1
  have h3 := bhi_c hB hV (ladd a b)
  rw [ladd_c] at h3
  have h4 := iLe_le b2
  omega
noncomputable def aMC (G : aG) (FIN : aE → aH → Option aF → Bool) (cn tf mn : Nat) (j : Nat) (s : aS) : Option (List aS) := cond (Nat.beq j 100) (aCnt cn tf mn 40 72 s) (cond (Nat.beq j 201) (aCnt cn tf mn 116 148 s) (cond (Nat.beq j 202) (aMove G s) (cond (Nat.beq j 203) (match s with
  | (e, k, C, pc, L, S, fr) => match aCarry e C with
    | some e1 => aStep G FIN (e1, k, C, pc, L, S, fr)
    | none => none) (cond (Nat.beq j 204) (match s with
  | (e, _, _, _, _, _, _) => cond (aPrune e.2.1 e.2.2.2.1) (some []) none) none))))
theorem mc_ok {G : aG} {FIN : aE → aH → Option aF → Bool} {Φ : Option Value → xC → Prop} {σ σ0 : aσ} {n0 cn tf mn : Nat} (hSM : SumOK G) (hF : FinOK FIN Φ n0 σ0) (hcn : ∀ j : Nat, σ0 cn j = cntN (σ0 tf) (j : Int) (σ0 mn 0).toNat) (h1 : cn < n0) (h2 : tf < n0) (h3 : mn < n0) {j : Nat} {s : aS} {ss : List aS} (ha : aMC G FIN cn tf mn j s = some ss) (hw : wfs s) (hs : satS G σ s) (hn : n0 ≤ s.1.1) (h0 : aAg n0 σ0 σ) : Sim G Φ σ s ss := by
  have hcn2 : ∀ j : Nat, σ cn j = cntN (σ tf) (j : Int) (σ mn 0).toNat := fun j => by
    rw [← h0 cn h1, ← h0 tf h2, ← h0 mn h3]
    exact hcn j
  unfold aMC at ha
  cases q1 : Nat.beq j 100 with
  | true => rw [q1] at ha; exact cnt_ok (Or.inl ⟨rfl, rfl⟩) hcn2 ha hw hs
  | false =>
  rw [q1] at ha
  simp only [cond_false] at ha
  cases q2 : Nat.beq j 201 with
  | true => rw [q2] at ha; exact cnt_ok (Or.inr ⟨rfl, rfl⟩) hcn2 ha hw hs
  | false =>
  rw [q2] at ha
  simp only [cond_false] at ha
  cases q3 : Nat.beq j 202 with
  | true => rw [q3] at ha; exact move_ok ha hw hs
  | false =>
  rw [q3] at ha
  simp only [cond_false] at ha
  obtain ⟨e, k, C, pc, L, S, fr⟩ := s
  cases q4 : Nat.beq j 203 with
  | true =>
    rw [q4] at ha
    simp only [cond_true] at ha
    cases hc : aCarry e C with
    | none => rw [hc] at ha; cases ha
    | some e1 =>
      rw [hc] at ha
      obtain ⟨a1, a2, a3, a4⟩ := carry_c hc hs.1 hw.1
      have hw' : wfs (e1, k, C, pc, L, S, fr) := by
        unfold wfs
        rw [show (e1, k, C, pc, L, S, fr).1.1 = e.1 from a3]
        exact ⟨a2, hw.2⟩
      have hs' : satS G σ (e1, k, C, pc, L, S, fr) := by
        refine ⟨a1, ?_, hs.2.2⟩
        show phi G.2.1 (cH σ C) ≤ cF σ (gE e1)
        rw [a4]
        exact hs.2.1
      rcases aStep_ok ha hSM hF (by show n0 ≤ e1.1; rw [a3]; exact hn) h0 hw' hs' with hg | ⟨s', b1, τ, b2, b3, b4, b5, b6⟩
      · exact Or.inl hg
      · have b2 : aAg e1.1 σ τ := b2
        have b3 : e1.1 ≤ s'.1.1 := b3
        rw [a3] at b2 b3
        exact Or.inr ⟨s', b1, τ, b2, b3, b4, b5, b6⟩
  | false =>
  rw [q4] at ha
  simp only [cond_false] at ha
  cases q5 : Nat.beq j 204 with
  | true =>
    rw [q5] at ha
    simp only [cond_true] at ha
    exact absurd (prune_c hs.1.1 hs.1.2.1 hs.1.2.2.2.1 (cond_so ha).1) not_false
  | false => rw [q5] at ha; cases ha
