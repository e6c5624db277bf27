/-! WHAT IS KNOWN, step by step -/
abbrev gE (e : aE) : aF := e.2.2.2.2.2.2.2.2.2
theorem bT_up {V : List (Nat × Int × Int)} {v : Nat} {c : Int} {t : List (Nat × Int)} (up : Bool) : bT V up ((v, c) :: t) = Int.rec (motive := fun _ => Int) (fun _ => c * (cond up (vrg V v).2 (vrg V v).1)) (fun _ => c * (cond up (vrg V v).1 (vrg V v).2)) c + bT V up t := rfl
theorem bT_one {σ : aσ} {V : List (Nat × Int × Int)} (hB : aBD σ) (hV : aRG σ V) (l : List (Nat × Int)) : ∀ q ∈ l, (q.2 = 1 → cT σ l ≤ bT V true l - (vrg V q.1).2 + σ q.1 0) ∧ (q.2 = -1 → cT σ l ≤ bT V true l + (vrg V q.1).1 - σ q.1 0) := by
  induction l with
  | nil => exact fun q h => absurd h List.not_mem_nil
  | cons r t ih =>
    obtain ⟨v, c⟩ := r
    have e1 : cT σ ((v, c) :: t) = c * σ v 0 + cT σ t := rfl
    have b0 := (bT_c hB hV t).2
    have b1 := (bT_c hB hV ((v, c) :: t)).2
    intro q hq
    rcases List.mem_cons.mp hq with e | e
    · subst e
      refine ⟨fun h => ?_, fun h => ?_⟩
      · have h : c = 1 := h
        subst h
        rw [e1, bT_up]
        show 1 * σ v 0 + cT σ t ≤ 1 * (vrg V v).2 + bT V true t - (vrg V v).2 + σ v 0
        omega
      · have h : c = -1 := h
        subst h
        rw [e1, bT_up]
        show -1 * σ v 0 + cT σ t ≤ -1 * (vrg V v).1 + bT V true t + (vrg V v).1 - σ v 0
        omega
    · obtain ⟨i1, i2⟩ := ih q e
      obtain ⟨h1, h2⟩ := vrg_c hB hV v
      have key : c * σ v 0 ≤ bT V true ((v, c) :: t) - bT V true t := by
        rw [bT_up]
        cases c with
        | ofNat m =>
          have a2 := Int.mul_le_mul_of_nonneg_left h2 (Int.natCast_nonneg m)
          show Int.ofNat m * σ v 0 ≤ Int.ofNat m * (vrg V v).2 + bT V true t - bT V true t
          have a2 : Int.ofNat m * σ v 0 ≤ Int.ofNat m * (vrg V v).2 := a2
          omega
        | negSucc m =>
          have a1 := Int.mul_le_mul_of_nonpos_left (show Int.negSucc m ≤ (0 : Int) by omega) h1
          show Int.negSucc m * σ v 0 ≤ Int.negSucc m * (vrg V v).1 + bT V true t - bT V true t
          omega
      rw [e1]
      exact ⟨fun h => by have := i1 h; omega, fun h => by have := i2 h; omega⟩
theorem rfv_ex {β : Type} {σ : aσ} {V0 : List (Nat × Int × Int)} {h : Int} {n : Nat} (hB : aBD σ) (hV0 : aRG σ V0) (l : List (Nat × Int)) (hn : ∀ q ∈ l, q.1 < n) (hl : ∀ q ∈ l, (q.2 = 1 → (vrg V0 q.1).2 - h ≤ σ q.1 0) ∧ (q.2 = -1 → σ q.1 0 ≤ h + (vrg V0 q.1).1)) (V : List (Nat × Int × Int)) (hV : aRG σ V) (hw : ∀ q ∈ V, q.1 < n) (k : List (Nat × Int × Int) → β) : ∃ V', rfv V0 h l V k = k V' ∧ aRG σ V' ∧ ∀ q ∈ V', q.1 < n := by
  induction l generalizing V with
  | nil => exact ⟨V, rfl, hV, hw⟩
  | cons r t ih =>
    obtain ⟨v, c⟩ := r
    have ih := fun V hV hw => ih (fun q hq => hn q (List.mem_cons_of_mem _ hq)) (fun q hq => hl q (List.mem_cons_of_mem _ hq)) V hV hw
    obtain ⟨l1, l2⟩ := hl (v, c) List.mem_cons_self
    have hv := hn (v, c) List.mem_cons_self
    obtain ⟨h1, h2⟩ := vrg_c hB hV0 v
    have e : rfv V0 h ((v, c) :: t) V k = cond (iEq c 1) (fI (Int.sub (vrg V0 v).2 h) fun a' => cond (iLe a' (vrg V0 v).1) (rfv V0 h t V k) (rfv V0 h t ((v, a', (vrg V0 v).2) :: V) k)) (cond (iEq c (-1)) (fI (Int.add h (vrg V0 v).1) fun b' => cond (iLe (vrg V0 v).2 b') (rfv V0 h t V k) (rfv V0 h t ((v, (vrg V0 v).1, b') :: V) k)) (rfv V0 h t V k)) := rfl
    rw [e]
    cases q1 : iEq c 1 with
    | true =>
      have hc := iEq_eq q1
      have l1 := l1 hc
      simp only [cond_true, fI_eq]
      cases iLe (Int.sub (vrg V0 v).2 h) (vrg V0 v).1 with
      | true => exact ih V hV hw
      | false =>
        refine ih _ (fun q hq => ?_) (fun q hq => ?_)
        · rcases List.mem_cons.mp hq with e | e
          · subst e; exact ⟨l1, h2⟩
          · exact hV q e
        · rcases List.mem_cons.mp hq with e | e
          · subst e; exact hv
          · exact hw q e
    | false =>
      simp only [cond_false]
      cases q2 : iEq c (-1) with
      | true =>
        have hc := iEq_eq q2
        have l2 := l2 hc
        simp only [cond_true, fI_eq]
        cases iLe (vrg V0 v).2 (Int.add h (vrg V0 v).1) with
        | true => exact ih V hV hw
        | false =>
          refine ih _ (fun q hq => ?_) (fun q hq => ?_)
          · rcases List.mem_cons.mp hq with e | e
            · subst e; exact ⟨h1, l2⟩
            · exact hV q e
          · rcases List.mem_cons.mp hq with e | e
            · subst e; exact hv
            · exact hw q e
      | false => exact ih V hV hw
theorem refn_c {σ : aσ} {n : Nat} {e : aE} {f : aF} (hs : sat σ e) (hw : wfe n e) (hf : wF n f) (h0 : 0 ≤ cF σ f) : ∃ e', refn e f = some e' ∧ sat σ e' ∧ wfe n e' ∧ e'.1 = e.1 ∧ gE e' = gE e := by
  obtain ⟨nv, V, AR, K, LD, OR, NE, TO, DF, g⟩ := e
  have e : refn (nv, V, AR, K, LD, OR, NE, TO, DF, g) f = cond (pr0 V f) (some (nv, V, AR, K, LD, OR, NE, TO, DF, g)) (fI (bhi V f) fun h => cond (iLe 0 h) (rfv V h f.2 V fun V' => fF f fun f' => some (nv, V', AR, cond (lsing f') K (f' :: K), LD, OR, NE, TO, DF, g)) none) := rfl
  rw [e]
  cases pr0 V f with
  | true => exact ⟨_, rfl, hs, hw, rfl, rfl⟩
  | false =>
    obtain ⟨s0, s1, s2, s3, s4, s5, s6, s7, s8⟩ := hs
    obtain ⟨w1, w2, w3, w4, w5, w6, w7, w8, w9⟩ := hw
    have s1 : aRG σ V := s1
    simp only [cond_false, fI_eq]
    cases hq : iLe 0 (bhi V f) with
    | false =>
      have := iLe_false hq
      have := bhi_c s0 s1 f
      omega
    | true =>
      simp only [cond_true, fF_eq]
      obtain ⟨V', h1, h2, h3⟩ := rfv_ex (β := Option aE) (h := bhi V f) s0 s1 f.2 hf (fun q hq => by
        obtain ⟨b1, b2⟩ := bT_one s0 s1 f.2 q hq
        have e1 : cF σ f = f.1 + cT σ f.2 := rfl
        have e2 : bhi V f = f.1 + bT V true f.2 := rfl
        exact ⟨fun h => by have := b1 h; omega, fun h => by have := b2 h; omega⟩) V s1 w1 (fun V' => some (nv, V', AR, cond (lsing f) K (f :: K), LD, OR, NE, TO, DF, g))
      refine ⟨_, h1, ⟨s0, h2, s2, ?_, s4, s5, s6, s7, s8⟩, ⟨h3, w2, ?_, w4, w5, w6, w7, w8, w9⟩, rfl, rfl⟩
      · show aKK σ (cond (lsing f) K (f :: K))
        cases lsing f with
        | true => exact s3
        | false =>
          intro q hq
          rcases List.mem_cons.mp hq with e | e
          · rw [e]; exact h0
          · exact s3 q e
      · show ∀ q ∈ cond (lsing f) K (f :: K), wF n q
        cases lsing f with
        | true => exact w3
        | false =>
          intro q hq
          rcases List.mem_cons.mp hq with e | e
          · rw [e]; exact hf
          · exact w3 q e
def cmpP (c : Nat) (x y : Int) : Prop := match c with
  | 0 => x = y
  | 1 => x ≠ y
  | 2 => x < y
  | 3 => y ≤ x
  | 4 => y < x
  | _ => x ≤ y
theorem cnd_c {σ : aσ} {n : Nat} {e : aE} {c : Nat} {x y : aF} {r : Option aE} (h : cnd e c x y = some r) (hs : sat σ e) (hw : wfe n e) (hx : wF n x) (hy : wF n y) : (aMN ≤ cF σ x ∧ cF σ x ≤ aMX) ∧ (aMN ≤ cF σ y ∧ cF σ y ≤ aMX) ∧ (cmpP c (cF σ x) (cF σ y) → ∃ e', r = some e' ∧ sat σ e' ∧ wfe n e' ∧ e'.1 = e.1 ∧ gE e' = gE e) := by
  obtain ⟨nv, V, AR, K, LD, OR, NE, TO, DF, g⟩ := e
  unfold cnd at h
  obtain ⟨h1, h2⟩ := cond_so h
  obtain ⟨h3, h4⟩ := cond_tf h1
  refine ⟨inr_c hs.1 hs.2.1 h3, inr_c hs.1 hs.2.1 h4, fun hc => ?_⟩
  rw [fF_eq] at h2
  have hd : cF σ (lsub x y) = cF σ x - cF σ y := lsub_c σ x y
  have hwd : wF n (lsub x y) := lsub_w hx hy
  generalize hD : lsub x y = d at h2 hd hwd
  clear h h1 h3 h4 hD
  have h2 := Option.some.inj h2
  subst h2
  match c, hc with
  | 0, hc =>
    have hc : cF σ x = cF σ y := hc
    obtain ⟨e1, a1, a2, a3, a4, a5⟩ := refn_c hs hw hwd (by omega)
    obtain ⟨e2, b1, b2, b3, b4, b5⟩ := refn_c (f := lmul (-1) d) a2 a3 (lmul_w hwd) (by rw [lmul_c]; omega)
    refine ⟨e2, ?_, b2, b3, b4.trans a4, b5.trans a5⟩
    show (match refn (nv, V, AR, K, LD, OR, NE, TO, DF, g) d with
      | some e' => refn e' (lmul (-1) d)
      | none => none) = some e2
    rw [a1]
    exact b1
  | 1, hc =>
    have hc : cF σ x ≠ cF σ y := hc
    show ∃ e', (cond (lEq d (0, [])) none (cond (pr1 V K d) (refn (nv, V, AR, K, LD, OR, NE, TO, DF, g) (ladd d (-1, []))) (cond (pr1 V K (lmul (-1) d)) (refn (nv, V, AR, K, LD, OR, NE, TO, DF, g) (lsub (-1, []) d)) (some (nv, V, AR, K, LD, OR, d :: NE, TO, DF, g))))) = some e' ∧ _
    cases q1 : lEq d (0, []) with
    | true =>
      rw [lEq_eq q1, lcst_c] at hd
      omega
    | false =>
      simp only [cond_false]
      cases q2 : pr1 V K d with
      | true =>
        have := pr1_c hs.1 hs.2.1 hs.2.2.2.1 q2
        exact refn_c hs hw (ladd_w hwd lcst_w) (by rw [ladd_c, lcst_c]; omega)
      | false =>
        simp only [cond_false]
        cases q3 : pr1 V K (lmul (-1) d) with
        | true =>
          have := pr1_c hs.1 hs.2.1 hs.2.2.2.1 q3
          rw [lmul_c] at this
          exact refn_c hs hw (lsub_w lcst_w hwd) (by rw [lsub_c, lcst_c]; omega)
        | false =>
          obtain ⟨s0, s1, s2, s3, s4, s5, s6, s7, s8⟩ := hs
          obtain ⟨w1, w2, w3, w4, w5, w6, w7, w8, w9⟩ := hw
          refine ⟨_, rfl, ⟨s0, s1, s2, s3, s4, s5, ?_, s7, s8⟩, ⟨w1, w2, w3, w4, w5, ?_, w7, w8, w9⟩, rfl, rfl⟩
          · intro q hq
            rcases List.mem_cons.mp hq with e | e
            · rw [e, hd]; omega
            · exact s6 q e
          · intro q hq
            rcases List.mem_cons.mp hq with e | e
            · rw [e]; exact hwd
            · exact w6 q e
  | 2, hc =>
    have hc : cF σ x < cF σ y := hc
    exact refn_c hs hw (lsub_w lcst_w hwd) (by rw [lsub_c, lcst_c]; omega)
  | 3, hc =>
    have hc : cF σ y ≤ cF σ x := hc
    exact refn_c hs hw hwd (by omega)
  | 4, hc =>
    have hc : cF σ y < cF σ x := hc
    exact refn_c hs hw (ladd_w hwd lcst_w) (by rw [ladd_c, lcst_c]; omega)
  | m + 5, hc =>
    have hc : cF σ x ≤ cF σ y := hc
    exact refn_c hs hw (lmul_w hwd) (by rw [lmul_c]; omega)
/-! new names -/
def aUp (σ : aσ) (n : Nat) (x : Nat → Int) : aσ := fun i => if i = n then x else σ i
theorem aUp_ag (σ : aσ) (n : Nat) (x : Nat → Int) : aAg n σ (aUp σ n x) := fun i hi => by
  show σ i = if i = n then x else σ i
  rw [if_neg (by omega)]
theorem aUp_at (σ : aσ) (n : Nat) (x : Nat → Int) : aUp σ n x n = x := by
  show (if n = n then x else σ n) = x
  rw [if_pos rfl]
theorem aUp_bd {σ : aσ} {n : Nat} {x : Nat → Int} (hB : aBD σ) (hx : ∀ j, aMN ≤ x j ∧ x j ≤ aMX) : aBD (aUp σ n x) := fun v j => by
  show aMN ≤ (if v = n then x else σ v) j ∧ (if v = n then x else σ v) j ≤ aMX
  split
  · exact hx j
  · exact hB v j
theorem nw_eq {β : Type} (nv : Nat) (V AR : List (Nat × Int × Int)) (K : List aF) (LD OR : List (Nat × aF × aF)) (NE : List aF) (TO : List (List Nat)) (DF : List (Nat × Nat × aF × aF)) (g : aF) (lo hi : Int) (k : aE → aF → β) : nw (nv, V, AR, K, LD, OR, NE, TO, DF, g) lo hi k = k (nv + 1, (nv, lo, hi) :: V, AR, K, LD, OR, NE, TO, DF, g) (0, [(nv, 1)]) := by
  unfold nw
  simp only [xe_fn_eq, fI_eq]
theorem sat_up {σ : aσ} {e : aE} (hs : sat σ e) (hw : wfe e.1 e) {x : Nat → Int} (hx : ∀ j, aMN ≤ x j ∧ x j ≤ aMX) : sat (aUp σ e.1 x) e := sat_ag (aUp_ag σ e.1 x) hw (aUp_bd hs.1 hx) hs
theorem nw_sat {σ : aσ} {nv : Nat} {V AR : List (Nat × Int × Int)} {K : List aF} {LD OR : List (Nat × aF × aF)} {NE : List aF} {TO : List (List Nat)} {DF : List (Nat × Nat × aF × aF)} {g : aF} {lo hi x : Int} (hs : sat σ (nv, V, AR, K, LD, OR, NE, TO, DF, g)) (hw : wfe nv (nv, V, AR, K, LD, OR, NE, TO, DF, g)) (hx : lo ≤ x ∧ x ≤ hi) (hx2 : aMN ≤ x ∧ x ≤ aMX) : sat (aUp σ nv (fun _ => x)) (nv + 1, (nv, lo, hi) :: V, AR, K, LD, OR, NE, TO, DF, g) ∧ wfe (nv + 1) (nv + 1, (nv, lo, hi) :: V, AR, K, LD, OR, NE, TO, DF, g) := by
  have h := sat_up hs hw (x := fun _ => x) (fun _ => hx2)
  obtain ⟨s0, s1, s2, s3, s4, s5, s6, s7, s8⟩ := h
  obtain ⟨w1, w2, w3, w4, w5, w6, w7, w8, w9⟩ := wfe_le (Nat.le_succ nv) hw
  refine ⟨⟨s0, ?_, s2, s3, s4, s5, s6, s7, s8⟩, ⟨?_, w2, w3, w4, w5, w6, w7, w8, w9⟩⟩
  · intro q hq
    rcases List.mem_cons.mp hq with e | e
    · rw [e]
      show lo ≤ aUp σ nv (fun _ => x) nv 0 ∧ aUp σ nv (fun _ => x) nv 0 ≤ hi
      rw [aUp_at]
      exact hx
    · exact s1 q e
  · intro q hq
    rcases List.mem_cons.mp hq with e | e
    · rw [e]; exact Nat.lt_succ_self nv
    · exact w1 q e
theorem nwA_sat {σ : aσ} {nv : Nat} {V AR : List (Nat × Int × Int)} {K : List aF} {LD OR : List (Nat × aF × aF)} {NE : List aF} {TO : List (List Nat)} {DF : List (Nat × Nat × aF × aF)} {g : aF} {lo hi : Int} {x : Nat → Int} (hs : sat σ (nv, V, AR, K, LD, OR, NE, TO, DF, g)) (hw : wfe nv (nv, V, AR, K, LD, OR, NE, TO, DF, g)) (hx : ∀ j, lo ≤ x j ∧ x j ≤ hi) (hx2 : ∀ j, aMN ≤ x j ∧ x j ≤ aMX) : sat (aUp σ nv x) (nv + 1, V, (nv, lo, hi) :: AR, K, LD, OR, NE, TO, DF, g) ∧ wfe (nv + 1) (nv + 1, V, (nv, lo, hi) :: AR, K, LD, OR, NE, TO, DF, g) := by
  have h := sat_up hs hw (x := x) hx2
  obtain ⟨s0, s1, s2, s3, s4, s5, s6, s7, s8⟩ := h
  obtain ⟨w1, w2, w3, w4, w5, w6, w7, w8, w9⟩ := wfe_le (Nat.le_succ nv) hw
  refine ⟨⟨s0, s1, ?_, s3, s4, s5, s6, s7, s8⟩, ⟨w1, ?_, w3, w4, w5, w6, w7, w8, w9⟩⟩
  · intro q hq j
    rcases List.mem_cons.mp hq with e | e
    · rw [e]
      show lo ≤ aUp σ nv x nv j ∧ aUp σ nv x nv j ≤ hi
      rw [aUp_at]
      exact hx j
    · exact s2 q e j
  · intro q hq
    rcases List.mem_cons.mp hq with e | e
    · rw [e]; exact Nat.lt_succ_self nv
    · exact w2 q e
/-! told INSTRUCTIONS -/
theorem nws_c {β : Type} {AR : List (Nat × Int × Int)} {K : List aF} {LD OR : List (Nat × aF × aF)} {NE : List aF} {TO : List (List Nat)} {DF : List (Nat × Nat × aF × aF)} {g : aF} (rs : List (Int × Int)) (σ : aσ) (nv : Nat) (V : List (Nat × Int × Int)) (xs : List Int) (hs : sat σ (nv, V, AR, K, LD, OR, NE, TO, DF, g)) (hw : wfe nv (nv, V, AR, K, LD, OR, NE, TO, DF, g)) (hr : rngP rs xs) (hx : ∀ x ∈ xs, aMN ≤ x ∧ x ≤ aMX) (k : aE → List aF → β) : ∃ (nv' : Nat) (V' : List (Nat × Int × Int)) (fs : List aF) (τ : aσ), nws rs (nv, V, AR, K, LD, OR, NE, TO, DF, g) k = k (nv', V', AR, K, LD, OR, NE, TO, DF, g) fs ∧ nv ≤ nv' ∧ aAg nv σ τ ∧ sat τ (nv', V', AR, K, LD, OR, NE, TO, DF, g) ∧ wfe nv' (nv', V', AR, K, LD, OR, NE, TO, DF, g) ∧ fs.map (cF τ) = xs ∧ ∀ f ∈ fs, wF nv' f := by
  induction rs generalizing σ nv V xs k with
  | nil =>
    cases xs with
    | nil => exact ⟨nv, V, [], σ, rfl, Nat.le_refl nv, fun _ _ => rfl, hs, hw, rfl, fun f hf => absurd hf List.not_mem_nil⟩
    | cons x t => cases hr
  | cons r t ih =>
    cases xs with
    | nil => cases hr
    | cons x xt =>
      obtain ⟨h1, h2⟩ := hr
      have hxt : ∀ x ∈ xt, aMN ≤ x ∧ x ≤ aMX := fun y hy => hx y (List.mem_cons_of_mem _ hy)
      have e : nws (r :: t) (nv, V, AR, K, LD, OR, NE, TO, DF, g) k = cond (iEq r.1 r.2) (nws t (nv, V, AR, K, LD, OR, NE, TO, DF, g) fun e' fs => k e' ((r.1, []) :: fs)) (nw (nv, V, AR, K, LD, OR, NE, TO, DF, g) r.1 r.2 fun e1 f => nws t e1 fun e' fs => k e' (f :: fs)) := rfl
      rw [e]
      cases hq : iEq r.1 r.2 with
      | true =>
        have hq := iEq_eq hq
        obtain ⟨nv', V', fs, τ, a1, a2, a3, a4, a5, a6, a7⟩ := ih σ nv V xt hs hw h2 hxt (fun e' fs => k e' ((r.1, []) :: fs))
        refine ⟨nv', V', (r.1, []) :: fs, τ, a1, a2, a3, a4, a5, ?_, fun f hf => ?_⟩
        · rw [List.map_cons, a6, lcst_c, show r.1 = x by omega]
        · rcases List.mem_cons.mp hf with e | e
          · rw [e]; exact lcst_w
          · exact a7 f e
      | false =>
        simp only [cond_false, nw_eq]
        obtain ⟨b1, b2⟩ := nw_sat (x := x) hs hw h1 (hx x List.mem_cons_self)
        obtain ⟨nv', V', fs, τ, a1, a2, a3, a4, a5, a6, a7⟩ := ih (aUp σ nv (fun _ => x)) (nv + 1) ((nv, r.1, r.2) :: V) xt b1 b2 h2 hxt (fun e' fs => k e' ((0, [(nv, 1)]) :: fs))
        refine ⟨nv', V', (0, [(nv, 1)]) :: fs, τ, a1, by omega, fun i hi => (aUp_ag σ nv _ i hi).trans (a3 i (by omega)), a4, a5, ?_, fun f hf => ?_⟩
        · rw [List.map_cons, a6, lvar_c, ← a3 nv (Nat.lt_succ_self nv), aUp_at]
        · rcases List.mem_cons.mp hf with e | e
          · rw [e]; exact lvar_w (by omega)
          · exact a7 f e
theorem ldot_c (τ : aσ) (c : Int) (ks : List Int) (fs : List aF) : cF τ (ldot c ks fs) = dotI c ks (fs.map (cF τ)) := by
  induction ks generalizing fs with
  | nil => exact lcst_c τ c
  | cons k t ih =>
    cases fs with
    | nil => exact lcst_c τ c
    | cons f u =>
      show cF τ (ladd (lmul k f) (ldot c t u)) = k * cF τ f + dotI c t (u.map (cF τ))
      rw [ladd_c, lmul_c, ih]
theorem ldot_w {n : Nat} {c : Int} (ks : List Int) {fs : List aF} (h : ∀ f ∈ fs, wF n f) : wF n (ldot c ks fs) := by
  induction ks generalizing fs with
  | nil => exact lcst_w
  | cons k t ih =>
    cases fs with
    | nil => exact lcst_w
    | cons f u => exact ladd_w (lmul_w (h f List.mem_cons_self)) (ih (fun g hg => h g (List.mem_cons_of_mem _ hg)))
/-- keys and numbers: each load is right -/
def keysP (σ : aσ) : List (Nat × aF) → List Int → Prop
  | [], [] => True
  | y :: ys, x :: xs => σ y.1 (cF σ y.2).toNat = x ∧ keysP σ ys xs
  | _, _ => False
theorem keysP_ag {n : Nat} {σ τ : aσ} (h : aAg n σ τ) {ks : List (Nat × aF)} (hk : ∀ y ∈ ks, y.1 < n ∧ wF n y.2) {xs : List Int} (hp : keysP σ ks xs) : keysP τ ks xs := by
  induction ks generalizing xs with
  | nil =>
    cases xs with
    | nil => trivial
    | cons x u => cases hp
  | cons y t ih =>
    cases xs with
    | nil => cases hp
    | cons x u =>
      obtain ⟨a1, a2⟩ := hk y List.mem_cons_self
      refine ⟨?_, ih (fun z hz => hk z (List.mem_cons_of_mem _ hz)) hp.2⟩
      rw [← cF_ag h a2, ← h y.1 a1]
      exact hp.1
theorem tcK_c {β : Type} {τ : aσ} {n : Nat} {fs : List aF} {xs : List Int} (a6 : fs.map (cF τ) = xs) (a7 : ∀ f ∈ fs, wF n f) (l : List (Int × List Int)) (K : List aF) (b0 : ∀ z ∈ l, 0 ≤ dotI z.1 z.2 xs) (b1 : aKK τ K) (b2 : ∀ f ∈ K, wF n f) (k : List aF → β) : ∃ K2, tcK fs l K k = k K2 ∧ aKK τ K2 ∧ ∀ f ∈ K2, wF n f := by
  induction l generalizing K with
  | nil => exact ⟨K, rfl, b1, b2⟩
  | cons z t ih =>
    show ∃ K2, fF (ldot z.1 z.2 fs) (fun f => tcK fs t (f :: K) k) = k K2 ∧ _
    rw [fF_eq]
    refine ih _ (fun y hy => b0 y (List.mem_cons_of_mem _ hy)) (fun f hf => ?_) (fun f hf => ?_)
    · rcases List.mem_cons.mp hf with e | e
      · rw [e, ldot_c, a6]; exact b0 z List.mem_cons_self
      · exact b1 f e
    · rcases List.mem_cons.mp hf with e | e
      · rw [e]; exact ldot_w z.2 a7
      · exact b2 f e
theorem tcL_c {β : Type} {τ : aσ} {n : Nat} (ys : List (Nat × aF)) (gs : List aF) (LD : List (Nat × aF × aF)) (c1 : ∀ y ∈ ys, y.1 < n ∧ wF n y.2) (c2 : keysP τ ys (gs.map (cF τ))) (c3 : ∀ f ∈ gs, wF n f) (b1 : aLDs τ LD) (b2 : ∀ q ∈ LD, q.1 < n ∧ wF n q.2.1 ∧ wF n q.2.2) (k : List (Nat × aF × aF) → β) : ∃ LD2, tcL ys gs LD k = k LD2 ∧ aLDs τ LD2 ∧ ∀ q ∈ LD2, q.1 < n ∧ wF n q.2.1 ∧ wF n q.2.2 := by
  induction ys generalizing gs LD with
  | nil => exact ⟨LD, rfl, b1, b2⟩
  | cons y t ih =>
    cases gs with
    | nil => cases c2
    | cons z u =>
      show ∃ LD2, fF y.2 (fun y2 => tcL t u ((y.1, y2, z) :: LD) k) = k LD2 ∧ _
      rw [fF_eq]
      obtain ⟨d1, d2⟩ := c2
      refine ih u _ (fun x hx => c1 x (List.mem_cons_of_mem _ hx)) d2 (fun f hf => c3 f (List.mem_cons_of_mem _ hf)) (fun q hq => ?_) (fun q hq => ?_)
      · rcases List.mem_cons.mp hq with e | e
        · rw [e]; exact d1
        · exact b1 q e
      · rcases List.mem_cons.mp hq with e | e
        · rw [e]; exact ⟨(c1 y List.mem_cons_self).1, (c1 y List.mem_cons_self).2, c3 z List.mem_cons_self⟩
        · exact b2 q e
theorem tcase_c {β : Type} {σ : aσ} {e : aE} {ks : List (Nat × aF)} {q : aTo} {op : Int} {xs : List Int} (hs : sat σ e) (hw : wfe e.1 e) (hk : ∀ y ∈ ks, y.1 < e.1 ∧ wF e.1 y.2) (hp : keysP σ ks (op :: xs)) (hx : ∀ x ∈ xs, aMN ≤ x ∧ x ≤ aMX) (h1 : op = q.1) (h2 : rngP q.2.1 xs) (h3 : ∀ z ∈ q.2.2, 0 ≤ dotI z.1 z.2 xs) (k : aE → β) : ∃ (e' : aE) (τ : aσ), tcase e ks q k = k e' ∧ e.1 ≤ e'.1 ∧ aAg e.1 σ τ ∧ sat τ e' ∧ wfe e'.1 e' ∧ gE e' = gE e := by
  obtain ⟨nv, V, AR, K, LD, OR, NE, TO, DF, g⟩ := e
  obtain ⟨qo, qr, qc⟩ := q
  have h1 : op = qo := h1
  subst h1
  obtain ⟨nv', V', fs, τ, a1, a2, a3, a4, a5, a6, a7⟩ := nws_c (β := β) qr σ nv V xs hs hw h2 hx (fun e1 fs => match e1 with
  | (nv, V, AR, K, LD, OR, NE, TO, DF, g) => tcK fs qc K fun K' => tcL ks ((op, []) :: fs) LD fun LD' => k (nv, V, AR, K', LD', OR, NE, TO, DF, g))
  have hp := keysP_ag a3 hk hp
  have hk : ∀ y ∈ ks, y.1 < nv' ∧ wF nv' y.2 := fun y hy => ⟨Nat.lt_of_lt_of_le (hk y hy).1 a2, wF_le a2 (hk y hy).2⟩
  obtain ⟨s0, s1, s2, s3, s4, s5, s6, s7, s8⟩ := a4
  obtain ⟨w1, w2, w3, w4, w5, w6, w7, w8, w9⟩ := a5
  obtain ⟨K2, d1, d2, d3⟩ := tcK_c (β := β) a6 a7 qc K h3 s3 w3 (fun K' => tcL ks ((op, []) :: fs) LD fun LD' => k (nv', V', AR, K', LD', OR, NE, TO, DF, g))
  obtain ⟨LD2, e1, e2, e3⟩ := tcL_c (β := β) ks ((op, []) :: fs) LD hk (by rw [List.map_cons, a6, lcst_c]; exact hp) (fun f hf => by
    rcases List.mem_cons.mp hf with e | e
    · rw [e]; exact lcst_w
    · exact a7 f e) s4 w4 (fun LD' => k (nv', V', AR, K2, LD', OR, NE, TO, DF, g))
  exact ⟨_, τ, a1.trans (d1.trans e1), a2, a3, ⟨s0, s1, s2, d2, e2, s5, s6, s7, s8⟩, ⟨w1, w2, d3, e3, w5, w6, w7, w8, w9⟩, rfl⟩
theorem cids_w {n : Nat} {C : aH} (hC : wH n C) {ps cs : List Nat} (h : cids C ps = some cs) : ∀ c ∈ cs, c < n := by
  induction ps generalizing cs with
  | nil => cases h; exact fun c hc => absurd hc List.not_mem_nil
  | cons p t ih =>
    have h : (match cid C p with
      | some i => match cids C t with
        | some t => some (i :: t)
        | none => none
      | none => none) = some cs := h
    split at h
    · rename_i i hi
      split at h
      · rename_i u hu
        cases h
        intro c hc
        rcases List.mem_cons.mp hc with e | e
        · rw [e]
          unfold cid at hi
          split at hi
          · rename_i t0 n0 i0 hx
            cases hi
            rw [xe_nth_eq] at hx
            exact hC _ (List.mem_of_getElem? hx)
          · cases hi
        · exact ih hu c e
      · cases h
    · cases h
theorem ldiv5_w {n : Nat} {f : aF} (h : wF n f) : wF n (ldiv5 f) := by
  obtain ⟨a, l⟩ := f
  show ∀ q ∈ (List.rec (motive := fun _ => List (Nat × Int)) [] (fun q _ ih => (q.1, Int.ediv q.2 5) :: ih) l : List (Nat × Int)), q.1 < n
  induction l with
  | nil => exact fun q hq => absurd hq List.not_mem_nil
  | cons r t ih =>
    intro q hq
    rcases List.mem_cons.mp hq with e | e
    · rw [e]; exact h r List.mem_cons_self
    · exact ih (fun z hz => h z (List.mem_cons_of_mem _ hz)) q e
theorem tat_c {σ : aσ} {V : List (Nat × Int × Int)} {K : List aF} (hB : aBD σ) (hV : aRG σ V) (hK : aKK σ K) {cs : List Nat} {f : aF} (h : tat V K cs f = true) : ∃ j : Nat, j < 180 ∧ cF σ f = (if cs.length = 1 then 5 * (j : Int) else (j : Int)) := by
  unfold tat at h
  split at h
  · rw [fF_eq] at h
    obtain ⟨h1, h2⟩ := cond_tf h
    obtain ⟨a1, a2⟩ := prB_c hB hV hK h2
    refine ⟨(cF σ (ldiv5 f)).toNat, by omega, ?_⟩
    rw [if_pos (show List.length [_] = 1 from rfl)]
    have e : cF σ f = cF σ (lmul 5 (ldiv5 f)) := congrArg (cF σ) (lEq_eq h1)
    rw [lmul_c] at e
    omega
  · rename_i hn
    obtain ⟨a1, a2⟩ := prB_c hB hV hK h
    refine ⟨(cF σ f).toNat, by omega, ?_⟩
    rw [if_neg]
    · omega
    · intro hl
      match cs, hl with
      | [c], _ => exact hn c rfl
theorem aTL_bd {q : aTo} (hq : q ∈ aTL) {xs : List Int} (hr : rngP q.2.1 xs) : ∀ x ∈ xs, aMN ≤ x ∧ x ≤ aMX := by
  have hb : ∀ q ∈ aTL, ∀ r ∈ q.2.1, aMN ≤ r.1 ∧ r.2 ≤ aMX := by decide
  have hb := hb q hq
  generalize q.2.1 = rs at hr hb
  induction rs generalizing xs with
  | nil => cases xs with
    | nil => exact fun x hx => absurd hx List.not_mem_nil
    | cons x t => cases hr
  | cons r t ih => cases xs with
    | nil => cases hr
    | cons x u =>
      intro y hy
      have := hb r List.mem_cons_self
      rcases List.mem_cons.mp hy with e | e
      · rw [e]; have := hr.1; omega
      · exact ih hr.2 (fun r hr => hb r (List.mem_cons_of_mem _ hr)) y e
theorem tkeys_w {n : Nat} {cs : List Nat} {f : aF} (hc : ∀ c ∈ cs, c < n) (hf : wF n f) : ∀ y ∈ tkeys cs f, y.1 < n ∧ wF n y.2 := by
  unfold tkeys
  split
  · rename_i c
    have h := hc c List.mem_cons_self
    intro y hy
    simp only [List.mem_cons, List.not_mem_nil, or_false] at hy
    rcases hy with rfl | rfl | rfl | rfl | rfl
    · exact ⟨h, hf⟩
    · exact ⟨h, ladd_w hf lcst_w⟩
    · exact ⟨h, ladd_w hf lcst_w⟩
    · exact ⟨h, ladd_w hf lcst_w⟩
    · exact ⟨h, ladd_w hf lcst_w⟩
  · intro y hy
    obtain ⟨c, h1, h2⟩ := List.mem_map.mp hy
    rw [← h2]
    exact ⟨hc c h1, hf⟩
/-- a place of INSTRUCTIONS: it is one of the kinds -/
theorem told_c {σ : aσ} {cs : List Nat} {f : aF} (ht : toldS σ cs) (hj : ∃ j : Nat, j < 180 ∧ cF σ f = (if cs.length = 1 then 5 * (j : Int) else (j : Int))) : ∃ (q : aTo) (op : Int) (xs : List Int), q ∈ aTL ∧ keysP σ (tkeys cs f) (op :: xs) ∧ op = q.1 ∧ rngP q.2.1 xs ∧ ∀ z ∈ q.2.2, 0 ≤ dotI z.1 z.2 xs := by
  obtain ⟨j, hj1, hj2⟩ := hj
  match cs, ht with
  | [c], ht =>
    rw [if_pos (show List.length [c] = 1 from rfl)] at hj2
    obtain ⟨q, q1, q2, q3, q4⟩ := ht j hj1
    refine ⟨q, _, _, q1, ?_, q2, q3, q4⟩
    refine ⟨?_, ?_, ?_, ?_, ?_, trivial⟩
    · show σ c (cF σ f).toNat = _
      rw [hj2]; congr 1
    · show σ c (cF σ (ladd f (1, []))).toNat = _
      rw [ladd_c, lcst_c, hj2]; congr 1
    · show σ c (cF σ (ladd f (2, []))).toNat = _
      rw [ladd_c, lcst_c, hj2]; congr 1
    · show σ c (cF σ (ladd f (3, []))).toNat = _
      rw [ladd_c, lcst_c, hj2]; congr 1
    · show σ c (cF σ (ladd f (4, []))).toNat = _
      rw [ladd_c, lcst_c, hj2]; congr 1
  | [c0, c1, c2, c3, c4], ht =>
    rw [if_neg (by simp)] at hj2
    obtain ⟨q, q1, q2, q3, q4⟩ := ht j hj1
    have e : (cF σ f).toNat = j := by omega
    refine ⟨q, _, _, q1, ?_, q2, q3, q4⟩
    refine ⟨?_, ?_, ?_, ?_, ?_, trivial⟩
    · show σ c0 (cF σ f).toNat = _
      rw [e]
    · show σ c1 (cF σ f).toNat = _
      rw [e]
    · show σ c2 (cF σ f).toNat = _
      rw [e]
    · show σ c3 (cF σ f).toNat = _
      rw [e]
    · show σ c4 (cF σ f).toNat = _
      rw [e]
theorem tokR_c {σ : aσ} {V : List (Nat × Int × Int)} {K : List aF} (hB : aBD σ) (hV : aRG σ V) (hK : aKK σ K) {rs : List (Int × Int)} {fs : List aF} (h : tokR V K rs fs = true) : rngP rs (fs.map (cF σ)) := by
  induction rs generalizing fs with
  | nil => cases fs with
    | nil => trivial
    | cons f t => cases h
  | cons r t ih => cases fs with
    | nil => cases h
    | cons f u =>
      obtain ⟨h1, h2⟩ := cond_tf (show cond (prB V K f r.1 r.2) (tokR V K t u) false = true from h)
      exact ⟨prB_c hB hV hK h1, ih h2⟩
theorem tok_c {σ : aσ} {V : List (Nat × Int × Int)} {K : List aF} (hB : aBD σ) (hV : aRG σ V) (hK : aKK σ K) {f : aF} {fs : List aF} (h : tok V K (f :: fs) = true) : toldP (cF σ f) (fs.map (cF σ)) := by
  unfold tok at h
  obtain ⟨q, h1, h2⟩ := lAny_true h
  obtain ⟨h2, h3⟩ := cond_tf h2
  obtain ⟨h3, h4⟩ := cond_tf h3
  have a := prB_c hB hV hK h2
  refine ⟨q, h1, by omega, tokR_c hB hV hK h3, fun z hz => ?_⟩
  rw [← ldot_c]
  exact pr2_c hB hV hK (lAll_true h4 z hz)
theorem retold_add {σ : aσ} {nv : Nat} {V AR : List (Nat × Int × Int)} {K : List aF} {LD OR : List (Nat × aF × aF)} {NE : List aF} {TO : List (List Nat)} {DF : List (Nat × Nat × aF × aF)} {g : aF} (hs : sat σ (nv, V, AR, K, LD, OR, NE, TO, DF, g)) (hw : wfe nv (nv, V, AR, K, LD, OR, NE, TO, DF, g)) {cs : List Nat} (h1 : toldS σ cs) (h2 : ∀ c ∈ cs, c < nv) : sat σ (nv, V, AR, K, LD, OR, NE, cs :: TO, DF, g) ∧ wfe nv (nv, V, AR, K, LD, OR, NE, cs :: TO, DF, g) := by
  obtain ⟨s0, s1, s2, s3, s4, s5, s6, s7, s8⟩ := hs
  obtain ⟨w1, w2, w3, w4, w5, w6, w7, w8, w9⟩ := hw
  refine ⟨⟨s0, s1, s2, s3, s4, s5, s6, fun l hl => ?_, s8⟩, ⟨w1, w2, w3, w4, w5, w6, fun l hl => ?_, w8, w9⟩⟩
  · rcases List.mem_cons.mp hl with e | e
    · rw [e]; exact h1
    · exact s7 l e
  · rcases List.mem_cons.mp hl with e | e
    · rw [e]; exact h2
    · exact w7 l e
theorem retold_c {σ : aσ} {e e' : aE} {CP : List Nat} {C : aH} (h : retold e CP C = some e') (hs : sat σ e) (hw : wfe e.1 e) (hC : wH e.1 C) : sat σ e' ∧ wfe e.1 e' ∧ e'.1 = e.1 ∧ gE e' = gE e := by
  obtain ⟨nv, V, AR, K, LD, OR, NE, TO, DF, g⟩ := e
  have hV : aRG σ V := hs.2.1
  have hK : aKK σ K := hs.2.2.2.1
  have hT : aTOs σ TO := hs.2.2.2.2.2.2.2.1
  have hD : aDFs σ DF := hs.2.2.2.2.2.2.2.2
  have hB := hs.1
  unfold retold at h
  dsimp only at h
  split at h
  · rename_i n5 hc
    have hcw := cids_w hC hc
    cases q4 : dff DF n5 with
    | none => rw [q4] at h; cases h
    | some d4 =>
    obtain ⟨n4, i4, v4⟩ := d4
    rw [q4] at h
    dsimp only at h
    cases q3 : dff DF n4 with
    | none => rw [q3] at h; cases h
    | some d3 =>
    obtain ⟨n3, i3, v3⟩ := d3
    rw [q3] at h
    dsimp only at h
    cases q2 : dff DF n3 with
    | none => rw [q2] at h; cases h
    | some d2 =>
    obtain ⟨n2, i2, v2⟩ := d2
    rw [q2] at h
    dsimp only at h
    cases q1 : dff DF n2 with
    | none => rw [q1] at h; cases h
    | some d1 =>
    obtain ⟨n1, i1, v1⟩ := d1
    rw [q1] at h
    dsimp only at h
    cases q0 : dff DF n1 with
    | none => rw [q0] at h; cases h
    | some d0 =>
    obtain ⟨n0, i0, v0⟩ := d0
    rw [q0] at h
    dsimp only at h
    obtain ⟨c1, h⟩ := cond_so h
    obtain ⟨c2, h⟩ := cond_so h
    obtain ⟨c3, h⟩ := cond_so h
    obtain ⟨c4, h⟩ := cond_so h
    cases h
    obtain ⟨e1, c3⟩ := cond_tf c3
    obtain ⟨e2, c3⟩ := cond_tf c3
    obtain ⟨e3, e4⟩ := cond_tf c3
    have e1 := lEq_eq e1
    have e2 := lEq_eq e2
    have e3 := lEq_eq e3
    have e4 := lEq_eq e4
    obtain ⟨jj, hj1, hj2⟩ := tat_c hB hV hK c2
    rw [if_pos (show List.length [n0] = 1 from rfl)] at hj2
    have ht := hT _ (tol_mem c1)
    have hv := tok_c hB hV hK c4
    have f4 := (hD _ (xe_as_mem q4)).2
    have f3 := (hD _ (xe_as_mem q3)).2
    have f2 := (hD _ (xe_as_mem q2)).2
    have f1 := (hD _ (xe_as_mem q1)).2
    have f0 := (hD _ (xe_as_mem q0)).2
    dsimp only at f4 f3 f2 f1 f0
    rw [e4, ladd_c, lcst_c, hj2, show (5 * (jj : Int) + 4).toNat = 5 * jj + 4 by omega] at f4
    rw [e3, ladd_c, lcst_c, hj2, show (5 * (jj : Int) + 3).toNat = 5 * jj + 3 by omega] at f3
    rw [e2, ladd_c, lcst_c, hj2, show (5 * (jj : Int) + 2).toNat = 5 * jj + 2 by omega] at f2
    rw [e1, ladd_c, lcst_c, hj2, show (5 * (jj : Int) + 1).toNat = 5 * jj + 1 by omega] at f1
    rw [hj2, show (5 * (jj : Int)).toNat = 5 * jj by omega] at f0
    have key : toldS σ [n5] := by
      intro j hj
      by_cases hjj : j = jj
      · subst hjj
        have g0 : σ n5 (5 * j) = cF σ v0 := by rw [f4, if_neg (by omega), f3, if_neg (by omega), f2, if_neg (by omega), f1, if_neg (by omega), f0, if_pos rfl]
        have g1 : σ n5 (5 * j + 1) = cF σ v1 := by rw [f4, if_neg (by omega), f3, if_neg (by omega), f2, if_neg (by omega), f1, if_pos rfl]
        have g2 : σ n5 (5 * j + 2) = cF σ v2 := by rw [f4, if_neg (by omega), f3, if_neg (by omega), f2, if_pos rfl]
        have g3 : σ n5 (5 * j + 3) = cF σ v3 := by rw [f4, if_neg (by omega), f3, if_pos rfl]
        have g4 : σ n5 (5 * j + 4) = cF σ v4 := by rw [f4, if_pos rfl]
        rw [g0, g1, g2, g3, g4]
        exact hv
      · have gg : ∀ r, r < 5 → σ n5 (5 * j + r) = σ n0 (5 * j + r) := fun r hr => by rw [f4, if_neg (by omega), f3, if_neg (by omega), f2, if_neg (by omega), f1, if_neg (by omega), f0, if_neg (by omega)]
        rw [show 5 * j = 5 * j + 0 from rfl, gg 0 (by omega), gg 1 (by omega), gg 2 (by omega), gg 3 (by omega), gg 4 (by omega)]
        exact ht j hj
    obtain ⟨r1, r2⟩ := retold_add hs hw key hcw
    exact ⟨r1, r2, rfl, rfl⟩
  · rename_i n0 n1 n2 n3 n4 hc
    have hcw := cids_w hC hc
    split at h
    · rename_i o0 i0 v0 o1 i1 v1 o2 i2 v2 o3 i3 v3 o4 i4 v4 q0 q1 q2 q3 q4
      obtain ⟨c1, h⟩ := cond_so h
      obtain ⟨c3, h⟩ := cond_so h
      obtain ⟨c4, h⟩ := cond_so h
      cases h
      obtain ⟨e1, c3⟩ := cond_tf c3
      obtain ⟨e2, c3⟩ := cond_tf c3
      obtain ⟨e3, e4⟩ := cond_tf c3
      have e1 := lEq_eq e1
      have e2 := lEq_eq e2
      have e3 := lEq_eq e3
      have e4 := lEq_eq e4
      have ht := hT _ (tol_mem c1)
      have hv := tok_c hB hV hK c4
      have f4 := (hD _ (xe_as_mem q4)).2
      have f3 := (hD _ (xe_as_mem q3)).2
      have f2 := (hD _ (xe_as_mem q2)).2
      have f1 := (hD _ (xe_as_mem q1)).2
      have f0 := (hD _ (xe_as_mem q0)).2
      dsimp only at f4 f3 f2 f1 f0
      rw [e4] at f4
      rw [e3] at f3
      rw [e2] at f2
      rw [e1] at f1
      have key : toldS σ [n0, n1, n2, n3, n4] := by
        intro j hj
        by_cases hjj : j = (cF σ i0).toNat
        · rw [f0, f1, f2, f3, f4, if_pos hjj, if_pos hjj, if_pos hjj, if_pos hjj, if_pos hjj]
          exact hv
        · rw [f0, f1, f2, f3, f4, if_neg hjj, if_neg hjj, if_neg hjj, if_neg hjj, if_neg hjj]
          exact ht j hj
      obtain ⟨r1, r2⟩ := retold_add hs hw key hcw
      exact ⟨r1, r2, rfl, rfl⟩
    · cases h
  · cases h
