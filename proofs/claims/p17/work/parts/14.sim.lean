/-! ONE STEP IS RIGHT: what the interpreter's step comes to, the executor comes to -/
def Sim (G : aG) (Φ : Option Value → xC → Prop) (σ : aσ) (s : aS) (ss : List aS) : Prop := goal σ Φ s ∨ ∃ s' ∈ ss, ∃ τ : aσ, aAg s.1.1 σ τ ∧ s.1.1 ≤ s'.1.1 ∧ wfs s' ∧ satS G τ s' ∧ (goal τ Φ s' → goal σ Φ s)
theorem RP_i {k : Nat} {C : xC} {pc : Nat} {L : xL} {S : List Value} {Φ : Option Value → xC → Prop} {C1 : xC} {k1 pc1 : Nat} {L1 : xL} {S1 : List Value} {i : Instr} {len : Nat} (hsp : xspot k pc = false) (hlk : xe_lk (xm_t (xMT k)) pc = some (i, len)) (h : ∀ ih : xH, xe_i xMT ih k C pc L S i = ih k C1 pc1 L1 S1) (g : RP k C1 pc1 L1 S1 Φ) : RP k C pc L S Φ := by
  refine RP_step 1 0 (fun n => ?_) g
  show xe_b xMT xmac (xe xMT xmac n) k C pc L S = _
  unfold xe_b
  rw [xe_fn_eq, xmac_none hsp]
  simp only [hlk]
  exact h _
theorem RP_m {k : Nat} {C : xC} {pc : Nat} {L : xL} {S : List Value} {Φ : Option Value → xC → Prop} {C1 : xC} {pc1 : Nat} {L1 : xL} {S1 : List Value} (h : xmac k C pc L S = some (C1, pc1, L1, S1)) (g : RP k C1 pc1 L1 S1 Φ) : RP k C pc L S Φ := by
  refine RP_step 1 0 (fun n => ?_) g
  show xe_b xMT xmac (xe xMT xmac n) k C pc L S = _
  unfold xe_b
  rw [xe_fn_eq, h]
  rfl
theorem as_cL (σ : aσ) (L : aL) (j : Nat) : xe_as (cL σ L) j = (xe_as L j).map (cV σ) := by
  induction L with
  | nil => rfl
  | cons q t ih =>
    show cond (Nat.beq q.1 j) (some (cV σ q.2)) (xe_as (cL σ t) j) = (cond (Nat.beq q.1 j) (some q.2) (xe_as t j)).map (cV σ)
    cases Nat.beq q.1 j with
    | true => rfl
    | false => exact ih
theorem nth_cH (σ : aσ) (C : aH) (p : Nat) : xe_nth (cH σ C) p = (xe_nth C p).map (cK σ) := by
  rw [xe_nth_eq, xe_nth_eq]
  simp [cH]
theorem nth_cS (σ : aσ) (S : List aV) (p : Nat) : xe_nth (S.map (cV σ)) p = (xe_nth S p).map (cV σ) := by
  rw [xe_nth_eq, xe_nth_eq]
  simp
theorem cV_cat (σ : aσ) (v : aV) : (cV σ v).category = 1 := by cases v <;> rfl
theorem st_cL (σ : aσ) (L : aL) (j : Nat) (v : aV) : cL σ ((j, v) :: aRm j L) = xe_st (cL σ L) j (cV σ v) := by
  unfold xe_st
  show (j, cV σ v) :: cL σ (aRm j L) = _
  congr 1
  induction L with
  | nil => rfl
  | cons q t ih =>
    show cL σ (cond (Nat.beq q.1 j) (aRm j t) (q :: aRm j t)) = List.filter _ ((q.1, cV σ q.2) :: cL σ t)
    rw [List.filter_cons]
    cases hb : Nat.beq q.1 j with
    | true =>
      have e := Nat.eq_of_beq_eq_true hb
      rw [if_neg (by simp [e])]
      exact ih
    | false =>
      have e : ¬ q.1 = j := fun e => by rw [e, Nat.beq_refl] at hb; cases hb
      rw [if_pos (by simp [e, cV_cat])]
      show (q.1, cV σ q.2) :: cL σ (aRm j t) = _
      rw [ih]
theorem as_w {n : Nat} {L : aL} (h : wL n L) {j : Nat} {v : aV} (hv : xe_as L j = some v) : wV n v := h _ (xe_as_mem hv)
theorem nth_w {n : Nat} {C : aH} (h : wH n C) {p : Nat} {c : aK} (hc : xe_nth C p = some c) : wK n c := by
  rw [xe_nth_eq] at hc
  exact h _ (List.mem_of_getElem? hc)
theorem rm_w {n j : Nat} {L : aL} (h : wL n L) : wL n (aRm j L) := by
  induction L with
  | nil => exact h
  | cons q t ih =>
    have ht : wL n t := fun r hr => h r (List.mem_cons_of_mem _ hr)
    show wL n (cond (Nat.beq q.1 j) (aRm j t) (q :: aRm j t))
    cases Nat.beq q.1 j with
    | true => exact ih ht
    | false =>
      intro r hr
      rcases List.mem_cons.mp hr with e | e
      · rw [e]; exact h q List.mem_cons_self
      · exact ih ht r e
theorem cons_w {n : Nat} {v : aV} {S : List aV} (h1 : wV n v) (h2 : wS n S) : wS n (v :: S) := fun r hr => by
  rcases List.mem_cons.mp hr with e | e
  · rw [e]; exact h1
  · exact h2 r e
theorem consL_w {n j : Nat} {v : aV} {S : aL} (h1 : wV n v) (h2 : wL n S) : wL n ((j, v) :: S) := fun r hr => by
  rcases List.mem_cons.mp hr with e | e
  · rw [e]; exact h1
  · exact h2 r e
theorem tail_w {n : Nat} {v : aV} {S : List aV} (h : wS n (v :: S)) : wV n v ∧ wS n S := ⟨h v List.mem_cons_self, fun r hr => h r (List.mem_cons_of_mem _ hr)⟩
/-- nothing new: other locals, another stack, more known -/
theorem sim_e {G : aG} {Φ : Option Value → xC → Prop} {σ : aσ} {e e1 : aE} {k pc k1 pc1 : Nat} {C : aH} {L L1 : aL} {S S1 : List aV} {fr fr1 : List aR} {ss : List aS} (hw : wfs (e, k, C, pc, L, S, fr)) (hs : satS G σ (e, k, C, pc, L, S, fr)) (he : sat σ e1) (hwe : wfe e.1 e1) (h1 : e1.1 = e.1) (hg : gE e1 = gE e) (hL : wL e.1 L1) (hS : wS e.1 S1) (hR : wR e.1 fr1) (hm : (e1, k1, C, pc1, L1, S1, fr1) ∈ ss) (g : goal σ Φ (e1, k1, C, pc1, L1, S1, fr1) → goal σ Φ (e, k, C, pc, L, S, fr)) : Sim G Φ σ (e, k, C, pc, L, S, fr) ss := by
  obtain ⟨s0, s1, s2⟩ := hs
  refine Or.inr ⟨_, hm, σ, fun _ _ => rfl, by show e.1 ≤ e1.1; omega, ?_, ⟨he, ?_, s2⟩, g⟩
  · unfold wfs
    rw [h1]
    exact ⟨hwe, hw.2.1, hL, hS, hR⟩
  · show phi G.2.1 (cH σ C) ≤ cF σ (gE e1)
    rw [hg]
    exact s1
theorem sim_s {G : aG} {Φ : Option Value → xC → Prop} {σ : aσ} {e : aE} {k pc pc1 : Nat} {C : aH} {L L1 : aL} {S S1 : List aV} {fr : List aR} {i : Instr} {len : Nat} (hsp : xspot k pc = false) (hlk : xe_lk (xm_t (xMT k)) pc = some (i, len)) (hw : wfs (e, k, C, pc, L, S, fr)) (hs : satS G σ (e, k, C, pc, L, S, fr)) (hL : wL e.1 L1) (hS : wS e.1 S1) (h : ∀ ih : xH, xe_i xMT ih k (cH σ C) pc (cL σ L) (S.map (cV σ)) i = ih k (cH σ C) pc1 (cL σ L1) (S1.map (cV σ))) : Sim G Φ σ (e, k, C, pc, L, S, fr) [(e, k, C, pc1, L1, S1, fr)] :=
  sim_e hw hs hs.1 hw.1 rfl rfl hL hS hw.2.2.2.2 (List.mem_singleton.mpr rfl) (fun g => RP_i (k1 := k) hsp hlk h g)
theorem push_ok {G : aG} {Φ : Option Value → xC → Prop} {σ : aσ} {e : aE} {k pc pc1 : Nat} {C : aH} {L : aL} {S T : List aV} {fr : List aR} {i : Instr} {len : Nat} {f : aF} {ss : List aS} (ha : aPush e k C pc1 L T fr f = some ss) (hsp : xspot k pc = false) (hlk : xe_lk (xm_t (xMT k)) pc = some (i, len)) (hw : wfs (e, k, C, pc, L, S, fr)) (hs : satS G σ (e, k, C, pc, L, S, fr)) (hf : wF e.1 f) (hT : wS e.1 T) (h : ∀ ih : xH, xe_i xMT ih k (cH σ C) pc (cL σ L) (S.map (cV σ)) i = ih k (cH σ C) pc1 (cL σ L) (.int (Int32.ofInt (cF σ f)) :: T.map (cV σ))) : Sim G Φ σ (e, k, C, pc, L, S, fr) ss := by
  unfold aPush at ha
  rw [fF_eq] at ha
  cases ha
  exact sim_s hsp hlk hw hs hw.2.2.1 (cons_w (v := .inl f) hf hT) h
/-- a new number -/
theorem sim_n {G : aG} {Φ : Option Value → xC → Prop} {σ : aσ} {nv : Nat} {V AR : List (Nat × Int × Int)} {K : List aF} {LD OR : List (Nat × aF × aF)} {NE : List aF} {TO : List (List Nat)} {DF : List (Nat × Nat × aF × aF)} {g : aF} {k pc pc1 : Nat} {C : aH} {L : aL} {S T : List aV} {fr : List aR} {lo hi : Int} {LD1 OR1 : List (Nat × aF × aF)} {x : Int32} (hw : wfs ((nv, V, AR, K, LD, OR, NE, TO, DF, g), k, C, pc, L, S, fr)) (hs : satS G σ ((nv, V, AR, K, LD, OR, NE, TO, DF, g), k, C, pc, L, S, fr)) (hx : lo ≤ x.toInt ∧ x.toInt ≤ hi) (hT : wS nv T)
    (hLD : aLDs (aUp σ nv (fun _ => x.toInt)) LD1 ∧ ∀ q ∈ LD1, q.1 < nv + 1 ∧ wF (nv + 1) q.2.1 ∧ wF (nv + 1) q.2.2) (hOR : aORs (aUp σ nv (fun _ => x.toInt)) OR1 ∧ ∀ q ∈ OR1, q.1 < nv + 1 ∧ wF (nv + 1) q.2.1 ∧ wF (nv + 1) q.2.2)
    (hgo : RP k (cH σ C) pc1 (cL σ L) (.int x :: T.map (cV σ)) (kont σ Φ fr) → goal σ Φ ((nv, V, AR, K, LD, OR, NE, TO, DF, g), k, C, pc, L, S, fr)) : Sim G Φ σ ((nv, V, AR, K, LD, OR, NE, TO, DF, g), k, C, pc, L, S, fr) [((nv + 1, (nv, lo, hi) :: V, AR, K, LD1, OR1, NE, TO, DF, g), k, C, pc1, L, .inl (0, [(nv, 1)]) :: T, fr)] := by
  obtain ⟨w1, w2, w3, w4, w5⟩ := hw
  obtain ⟨s1, s2, s3⟩ := hs
  have w1 : wfe nv (nv, V, AR, K, LD, OR, NE, TO, DF, g) := w1
  have w2 : wH nv C := w2
  have w3 : wL nv L := w3
  have w5 : wR nv fr := w5
  have hle := Nat.le_succ nv
  obtain ⟨a1, a2⟩ := nw_sat (x := x.toInt) s1 w1 hx (oi_le x)
  have hag := aUp_ag σ nv (fun _ => x.toInt)
  obtain ⟨t0, t1, t2, t3, t4, t5, t6, t7, t8⟩ := a1
  obtain ⟨u1, u2, u3, u4, u5, u6, u7, u8, u9⟩ := a2
  refine Or.inr ⟨_, List.mem_singleton.mpr rfl, aUp σ nv (fun _ => x.toInt), hag, hle, ⟨⟨u1, u2, u3, hLD.2, hOR.2, u6, u7, u8, u9⟩, wH_le hle w2, wL_le hle w3, cons_w (v := .inl (0, [(nv, 1)])) (lvar_w (Nat.lt_succ_self nv)) (wS_le hle hT), wR_le hle w5⟩, ⟨⟨t0, t1, t2, t3, hLD.1, hOR.1, t6, t7, t8⟩, ?_, s3⟩, fun h => hgo ?_⟩
  · show phi G.2.1 (cH (aUp σ nv (fun _ => x.toInt)) C) ≤ _
    rw [← cH_ag hag w2, ← cF_ag hag w1.2.2.2.2.2.2.2.2]
    exact s2
  · have h : RP k (cH (aUp σ nv (fun _ => x.toInt)) C) pc1 (cL (aUp σ nv (fun _ => x.toInt)) L) (.int (Int32.ofInt (cF (aUp σ nv (fun _ => x.toInt)) (0, [(nv, 1)]))) :: T.map (cV (aUp σ nv (fun _ => x.toInt)))) (kont (aUp σ nv (fun _ => x.toInt)) Φ fr) := h
    rw [← cH_ag hag w2, ← cL_ag hag w3, ← cS_ag hag hT, ← kont_ag hag Φ w5, lvar_c, aUp_at, oi_of] at h
    exact h
theorem ld_up {σ : aσ} {n : Nat} {x : Nat → Int} {l : List (Nat × aF × aF)} (w : ∀ q ∈ l, q.1 < n ∧ wF n q.2.1 ∧ wF n q.2.2) (h : aLDs σ l) : aLDs (aUp σ n x) l ∧ ∀ q ∈ l, q.1 < n + 1 ∧ wF (n + 1) q.2.1 ∧ wF (n + 1) q.2.2 := by
  have hag := aUp_ag σ n x
  exact ⟨fun q hq => by rw [← cF_ag hag (w q hq).2.1, ← cF_ag hag (w q hq).2.2, ← hag q.1 (w q hq).1]; exact h q hq, fun q hq => ⟨Nat.lt_succ_of_lt (w q hq).1, wF_le (Nat.le_succ n) (w q hq).2.1, wF_le (Nat.le_succ n) (w q hq).2.2⟩⟩
theorem or_up {σ : aσ} {n : Nat} {x : Nat → Int} {l : List (Nat × aF × aF)} (w : ∀ q ∈ l, q.1 < n ∧ wF n q.2.1 ∧ wF n q.2.2) (h : aORs σ l) : aORs (aUp σ n x) l ∧ ∀ q ∈ l, q.1 < n + 1 ∧ wF (n + 1) q.2.1 ∧ wF (n + 1) q.2.2 := by
  have hag := aUp_ag σ n x
  exact ⟨fun q hq => by rw [← cF_ag hag (w q hq).2.1, ← cF_ag hag (w q hq).2.2, ← hag q.1 (w q hq).1]; exact h q hq, fun q hq => ⟨Nat.lt_succ_of_lt (w q hq).1, wF_le (Nat.le_succ n) (w q hq).2.1, wF_le (Nat.le_succ n) (w q hq).2.2⟩⟩
/-- a new number on top of the stack -/
theorem rng_ok {G : aG} {Φ : Option Value → xC → Prop} {σ : aσ} {e : aE} {k pc pc1 : Nat} {C : aH} {L : aL} {S T : List aV} {fr : List aR} {lo hi : Int} {ss : List aS} {x : Int32} (ha : aRng e k C pc1 L T fr lo hi = some ss) (hw : wfs (e, k, C, pc, L, S, fr)) (hs : satS G σ (e, k, C, pc, L, S, fr)) (hx : lo ≤ x.toInt ∧ x.toInt ≤ hi) (hT : wS e.1 T) (g : RP k (cH σ C) pc1 (cL σ L) (.int x :: T.map (cV σ)) (kont σ Φ fr) → goal σ Φ (e, k, C, pc, L, S, fr)) : Sim G Φ σ (e, k, C, pc, L, S, fr) ss := by
  obtain ⟨nv, V, AR, K, LD, OR, NE, TO, DF, gg⟩ := e
  unfold aRng at ha
  rw [nw_eq] at ha
  cases ha
  exact sim_n hw hs hx hT (ld_up hw.1.2.2.2.1 hs.1.2.2.2.2.1) (or_up hw.1.2.2.2.2.1 hs.1.2.2.2.2.2.1) g
theorem full_ok {G : aG} {Φ : Option Value → xC → Prop} {σ : aσ} {e : aE} {k pc pc1 : Nat} {C : aH} {L : aL} {S T : List aV} {fr : List aR} {ss : List aS} {x : Int32} (ha : aFull e k C pc1 L T fr = some ss) (hw : wfs (e, k, C, pc, L, S, fr)) (hs : satS G σ (e, k, C, pc, L, S, fr)) (hT : wS e.1 T) (g : RP k (cH σ C) pc1 (cL σ L) (.int x :: T.map (cV σ)) (kont σ Φ fr) → goal σ Φ (e, k, C, pc, L, S, fr)) : Sim G Φ σ (e, k, C, pc, L, S, fr) ss := rng_ok (lo := aMN) (hi := aMX) ha hw hs (oi_le x) hT g
theorem orf_mem {OR : List (Nat × aF × aF)} {m w : aF} {v : Nat} (h : orf OR m w = some v) : (v, m, w) ∈ OR := by
  induction OR with
  | nil => cases h
  | cons q t ih =>
    have h : cond (lEq q.2.1 m) (cond (lEq q.2.2 w) (some q.1) (orf t m w)) (orf t m w) = some v := h
    cases h1 : lEq q.2.1 m with
    | true =>
      rw [h1] at h
      cases h2 : lEq q.2.2 w with
      | true =>
        rw [h2] at h
        cases h
        rw [← lEq_eq h1, ← lEq_eq h2]
        exact List.mem_cons_self
      | false => rw [h2] at h; exact List.mem_cons_of_mem _ (ih h)
    | false => rw [h1] at h; exact List.mem_cons_of_mem _ (ih h)
/-- the machine's operation of a number -/
def aOp : Nat → Int32 → Int32 → Int32
  | 0 => fun x y => x + y
  | 1 => fun x y => x - y
  | 2 => fun x y => x * y
  | 3 => fun x y => x &&& y
  | 4 => fun x y => x ||| y
  | 5 => fun x y => x <<< (y &&& 31)
  | 6 => fun x y => x ^^^ y
  | 7 => fun x y => x >>> (y &&& 31)
  | _ => fun x y => (x.toUInt32 >>> (y.toUInt32 &&& Int32.toUInt32 31)).toInt32
theorem add_ok {G : aG} {Φ : Option Value → xC → Prop} {σ : aσ} {e : aE} {o k pc : Nat} {C : aH} {L : aL} {S : List aV} {fr : List aR} {i : Instr} {len : Nat} {ss : List aS} (ha : aAdd o e k C (pc + 1) L S fr = some ss) (hsp : xspot k pc = false) (hlk : xe_lk (xm_t (xMT k)) pc = some (i, len)) (hi : ∀ (ih : xH) (C : xC) (L : xL) (S : List Value), xe_i xMT ih k C pc L S i = xe_bin (aOp o) S (ih k C (pc + 1) L)) (hw : wfs (e, k, C, pc, L, S, fr)) (hs : satS G σ (e, k, C, pc, L, S, fr)) : Sim G Φ σ (e, k, C, pc, L, S, fr) ss := by
  unfold aAdd at ha
  split at ha
  · rename_i y x T
    obtain ⟨hy, hT⟩ := tail_w hw.2.2.2.1
    obtain ⟨hx, hT⟩ := tail_w hT
    have hT : wS e.1 T := hT
    have hx : wF e.1 x := hx
    have hy : wF e.1 y := hy
    have hB : aBD σ := hs.1.1
    have hV : aRG σ e.2.1 := hs.1.2.1
    have hst : ∀ ih : xH, xe_i xMT ih k (cH σ C) pc (cL σ L) ((Sum.inl y :: Sum.inl x :: T).map (cV σ)) i = ih k (cH σ C) (pc + 1) (cL σ L) (.int (aOp o (Int32.ofInt (cF σ x)) (Int32.ofInt (cF σ y))) :: T.map (cV σ)) := fun ih => (hi ih _ _ _).trans (xe_push_eq _ _ _)
    have hgo : RP k (cH σ C) (pc + 1) (cL σ L) (.int (aOp o (Int32.ofInt (cF σ x)) (Int32.ofInt (cF σ y))) :: T.map (cV σ)) (kont σ Φ fr) → goal σ Φ (e, k, C, pc, L, Sum.inl y :: Sum.inl x :: T, fr) := fun g => RP_i (k1 := k) hsp hlk hst g
    split at ha
    · refine push_ok ha hsp hlk hw hs (ladd_w hx hy) hT (fun ih => ?_)
      rw [ladd_c, Int32.ofInt_add]
      exact hst ih
    · refine push_ok ha hsp hlk hw hs (lsub_w hx hy) hT (fun ih => ?_)
      rw [lsub_c, Int32.ofInt_sub]
      exact hst ih
    · split at ha
      · rename_i hx0
        refine push_ok ha hsp hlk hw hs (lmul_w hy) hT (fun ih => ?_)
        have : cF σ x = x.1 := by show x.1 + cT σ x.2 = x.1; rw [hx0]; show x.1 + 0 = x.1; omega
        rw [lmul_c, Int32.ofInt_mul, ← this]
        exact hst ih
      · split at ha
        · rename_i hy0
          refine push_ok ha hsp hlk hw hs (lmul_w hx) hT (fun ih => ?_)
          have : cF σ y = y.1 := by show y.1 + cT σ y.2 = y.1; rw [hy0]; show y.1 + 0 = y.1; omega
          rw [lmul_c, Int.mul_comm, Int32.ofInt_mul, ← this]
          exact hst ih
        · exact full_ok ha hw hs hT hgo
    · cases q1 : (cond (pr0 e.2.1 y) (iLe (bhi e.2.1 y) aMX) false) with
      | true =>
        rw [q1] at ha
        obtain ⟨b1, b2⟩ := cond_tf q1
        have c1 := pr0_c hB hV b1
        have c2 := bhi_c hB hV y
        have b2 := iLe_le b2
        have e1 := oi_toInt (x := cF σ y) (by show -2147483648 ≤ _; omega) (by omega)
        refine rng_ok ha hw hs ?_ hT hgo
        have := nb_and (x := Int32.ofInt (cF σ x)) (y := Int32.ofInt (cF σ y)) (by omega)
        show 0 ≤ (Int32.ofInt (cF σ x) &&& Int32.ofInt (cF σ y)).toInt ∧ (Int32.ofInt (cF σ x) &&& Int32.ofInt (cF σ y)).toInt ≤ _
        omega
      | false =>
        rw [q1] at ha
        simp only [cond_false] at ha
        cases q2 : (cond (pr0 e.2.1 x) (iLe (bhi e.2.1 x) aMX) false) with
        | true =>
          rw [q2] at ha
          obtain ⟨b1, b2⟩ := cond_tf q2
          have c1 := pr0_c hB hV b1
          have c2 := bhi_c hB hV x
          have b2 := iLe_le b2
          have e1 := oi_toInt (x := cF σ x) (by show -2147483648 ≤ _; omega) (by omega)
          refine rng_ok ha hw hs ?_ hT hgo
          have := nb_and2 (x := Int32.ofInt (cF σ x)) (y := Int32.ofInt (cF σ y)) (by omega)
          show 0 ≤ (Int32.ofInt (cF σ x) &&& Int32.ofInt (cF σ y)).toInt ∧ (Int32.ofInt (cF σ x) &&& Int32.ofInt (cF σ y)).toInt ≤ _
          omega
        | false =>
          rw [q2] at ha
          exact full_ok ha hw hs hT hgo
    · obtain ⟨nv, V, AR, K, LD, OR, NE, TO, DF, gg⟩ := e
      dsimp only at ha
      split at ha
      · rename_i v hv
        cases ha
        have hm := orf_mem hv
        have h1 := hs.1.2.2.2.2.2.1 _ hm
        have h2 := hw.1.2.2.2.2.1 _ hm
        refine sim_s hsp hlk hw hs hw.2.2.1 (cons_w (v := .inl (0, [(v, 1)])) (lvar_w h2.1) hT) (fun ih => ?_)
        rw [hst ih]
        show _ = ih k (cH σ C) (pc + 1) (cL σ L) (.int (Int32.ofInt (cF σ (0, [(v, 1)]))) :: T.map (cV σ))
        rw [lvar_c]
        have h1 : Int32.ofInt (σ v 0) = Int32.ofInt (cF σ x) ||| Int32.ofInt (cF σ y) := h1
        rw [h1]
        rfl
      · rw [xe_fn_eq] at ha
        cases ha
        have ho := or_up (x := fun _ => (Int32.ofInt (cF σ x) ||| Int32.ofInt (cF σ y)).toInt) hw.1.2.2.2.2.1 hs.1.2.2.2.2.2.1
        have hag := aUp_ag σ nv (fun _ => (Int32.ofInt (cF σ x) ||| Int32.ofInt (cF σ y)).toInt)
        refine sim_n (x := Int32.ofInt (cF σ x) ||| Int32.ofInt (cF σ y)) hw hs (oi_le _) hT (ld_up hw.1.2.2.2.1 hs.1.2.2.2.2.1) ⟨fun q hq => ?_, fun q hq => ?_⟩ hgo
        · rcases List.mem_cons.mp hq with e | e
          · rw [e]
            show Int32.ofInt (aUp σ nv _ nv 0) = _
            rw [aUp_at, oi_of, ← cF_ag hag hx, ← cF_ag hag hy]
          · exact ho.1 q e
        · rcases List.mem_cons.mp hq with e | e
          · rw [e]
            exact ⟨Nat.lt_succ_self nv, wF_le (Nat.le_succ nv) hx, wF_le (Nat.le_succ nv) hy⟩
          · exact ho.2 q e
    · cases q1 : (cond (lEq x (1, [])) (cond (pr0 e.2.1 y) (iLe (bhi e.2.1 y) 30) false) false) with
      | true =>
        rw [q1] at ha
        obtain ⟨b0, b1⟩ := cond_tf q1
        obtain ⟨b1, b2⟩ := cond_tf b1
        have c1 := pr0_c hB hV b1
        have c2 := bhi_c hB hV y
        have c3 := blo_c hB hV y
        have b1 := iLe_le b1
        have b2 := iLe_le b2
        have e0 := lEq_eq b0
        refine rng_ok ha hw hs ?_ hT hgo
        show _ ≤ (Int32.ofInt (cF σ x) <<< (Int32.ofInt (cF σ y) &&& 31)).toInt ∧ (Int32.ofInt (cF σ x) <<< (Int32.ofInt (cF σ y) &&& 31)).toInt ≤ _
        rw [e0, lcst_c, show Int32.ofInt 1 = 1 from rfl, nb_shl2 c1 (by omega)]
        exact ⟨Int.ofNat_le.mpr (Nat.pow_le_pow_right (by omega) (by omega)), Int.ofNat_le.mpr (Nat.pow_le_pow_right (by omega) (by omega))⟩
      | false =>
        rw [q1] at ha
        exact full_ok ha hw hs hT hgo
    · exact full_ok ha hw hs hT hgo
  · cases ha
