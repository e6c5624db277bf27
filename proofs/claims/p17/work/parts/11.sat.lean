/-! WHAT IS KNOWN HOLDS, and what a state stands for -/
def rngP : List (Int × Int) → List Int → Prop
  | [], [] => True
  | r :: rs, x :: xs => (r.1 ≤ x ∧ x ≤ r.2) ∧ rngP rs xs
  | _, _ => False
def dotI (c : Int) : List Int → List Int → Int
  | k :: ks, x :: xs => k * x + dotI c ks xs
  | _, _ => c
/-- a told INSTRUCTION -/
def toldP (op : Int) (xs : List Int) : Prop := ∃ q ∈ aTL, op = q.1 ∧ rngP q.2.1 xs ∧ ∀ z ∈ q.2.2, 0 ≤ dotI z.1 z.2 xs
def toldS (σ : aσ) : List Nat → Prop
  | [c] => ∀ j, j < 180 → toldP (σ c (5 * j)) [σ c (5 * j + 1), σ c (5 * j + 2), σ c (5 * j + 3), σ c (5 * j + 4)]
  | [c0, c1, c2, c3, c4] => ∀ j, j < 180 → toldP (σ c0 j) [σ c1 j, σ c2 j, σ c3 j, σ c4 j]
  | _ => False
theorem toldS_ag {n : Nat} {σ τ : aσ} (h : aAg n σ τ) {l : List Nat} (hl : ∀ c ∈ l, c < n) (ht : toldS σ l) : toldS τ l := by
  match l, hl, ht with
  | [c], hl, ht =>
    have e := h c (hl c (by simp))
    show ∀ j, j < 180 → toldP (τ c (5 * j)) [τ c (5 * j + 1), τ c (5 * j + 2), τ c (5 * j + 3), τ c (5 * j + 4)]
    rw [← e]
    exact ht
  | [c0, c1, c2, c3, c4], hl, ht =>
    have e0 := h c0 (hl c0 (by simp))
    have e1 := h c1 (hl c1 (by simp))
    have e2 := h c2 (hl c2 (by simp))
    have e3 := h c3 (hl c3 (by simp))
    have e4 := h c4 (hl c4 (by simp))
    show ∀ j, j < 180 → toldP (τ c0 j) [τ c1 j, τ c2 j, τ c3 j, τ c4 j]
    rw [← e0, ← e1, ← e2, ← e3, ← e4]
    exact ht
def aLDs (σ : aσ) (l : List (Nat × aF × aF)) : Prop := ∀ q ∈ l, σ q.1 (cF σ q.2.1).toNat = cF σ q.2.2
def aORs (σ : aσ) (l : List (Nat × aF × aF)) : Prop := ∀ q ∈ l, Int32.ofInt (σ q.1 0) = Int32.ofInt (cF σ q.2.1) ||| Int32.ofInt (cF σ q.2.2)
def aNEs (σ : aσ) (l : List aF) : Prop := ∀ f ∈ l, cF σ f ≠ 0
def aTOs (σ : aσ) (l : List (List Nat)) : Prop := ∀ c ∈ l, toldS σ c
def aDFs (σ : aσ) (l : List (Nat × Nat × aF × aF)) : Prop := ∀ q ∈ l, 0 ≤ cF σ q.2.2.1 ∧ ∀ j, σ q.1 j = if j = (cF σ q.2.2.1).toNat then cF σ q.2.2.2 else σ q.2.1 j
def sat (σ : aσ) (e : aE) : Prop := aBD σ ∧ aRG σ e.2.1 ∧ aRA σ e.2.2.1 ∧ aKK σ e.2.2.2.1 ∧ aLDs σ e.2.2.2.2.1 ∧ aORs σ e.2.2.2.2.2.1 ∧ aNEs σ e.2.2.2.2.2.2.1 ∧ aTOs σ e.2.2.2.2.2.2.2.1 ∧ aDFs σ e.2.2.2.2.2.2.2.2.1
/-- all names are known ones -/
def wfe (n : Nat) (e : aE) : Prop := (∀ q ∈ e.2.1, q.1 < n) ∧ (∀ q ∈ e.2.2.1, q.1 < n) ∧ (∀ f ∈ e.2.2.2.1, wF n f) ∧ (∀ q ∈ e.2.2.2.2.1, q.1 < n ∧ wF n q.2.1 ∧ wF n q.2.2) ∧ (∀ q ∈ e.2.2.2.2.2.1, q.1 < n ∧ wF n q.2.1 ∧ wF n q.2.2) ∧ (∀ f ∈ e.2.2.2.2.2.2.1, wF n f) ∧ (∀ l ∈ e.2.2.2.2.2.2.2.1, ∀ c ∈ l, c < n) ∧ (∀ q ∈ e.2.2.2.2.2.2.2.2.1, q.1 < n ∧ q.2.1 < n ∧ wF n q.2.2.1 ∧ wF n q.2.2.2) ∧ wF n e.2.2.2.2.2.2.2.2.2
theorem wfe_le {n m : Nat} (h : n ≤ m) {e : aE} (w : wfe n e) : wfe m e := by
  obtain ⟨w1, w2, w3, w4, w5, w6, w7, w8, w9⟩ := w
  exact ⟨fun q hq => Nat.lt_of_lt_of_le (w1 q hq) h, fun q hq => Nat.lt_of_lt_of_le (w2 q hq) h, fun f hf => wF_le h (w3 f hf), fun q hq => ⟨Nat.lt_of_lt_of_le (w4 q hq).1 h, wF_le h (w4 q hq).2.1, wF_le h (w4 q hq).2.2⟩, fun q hq => ⟨Nat.lt_of_lt_of_le (w5 q hq).1 h, wF_le h (w5 q hq).2.1, wF_le h (w5 q hq).2.2⟩, fun f hf => wF_le h (w6 f hf), fun l hl c hc => Nat.lt_of_lt_of_le (w7 l hl c hc) h, fun q hq => ⟨Nat.lt_of_lt_of_le (w8 q hq).1 h, Nat.lt_of_lt_of_le (w8 q hq).2.1 h, wF_le h (w8 q hq).2.2.1, wF_le h (w8 q hq).2.2.2⟩, wF_le h w9⟩
theorem sat_ag {n : Nat} {σ τ : aσ} {e : aE} (h : aAg n σ τ) (w : wfe n e) (hB : aBD τ) (s : sat σ e) : sat τ e := by
  obtain ⟨w1, w2, w3, w4, w5, w6, w7, w8, w9⟩ := w
  obtain ⟨s0, s1, s2, s3, s4, s5, s6, s7, s8⟩ := s
  refine ⟨hB, fun q hq => ?_, fun q hq j => ?_, fun f hf => ?_, fun q hq => ?_, fun q hq => ?_, fun f hf => ?_, fun l hl => ?_, fun q hq => ?_⟩
  · rw [← h q.1 (w1 q hq)]; exact s1 q hq
  · rw [← h q.1 (w2 q hq)]; exact s2 q hq j
  · rw [← cF_ag h (w3 f hf)]; exact s3 f hf
  · rw [← cF_ag h (w4 q hq).2.1, ← cF_ag h (w4 q hq).2.2, ← h q.1 (w4 q hq).1]; exact s4 q hq
  · rw [← cF_ag h (w5 q hq).2.1, ← cF_ag h (w5 q hq).2.2, ← h q.1 (w5 q hq).1]; exact s5 q hq
  · rw [← cF_ag h (w6 f hf)]; exact s6 f hf
  · exact toldS_ag h (w7 l hl) (s7 l hl)
  · rw [← cF_ag h (w8 q hq).2.2.1, ← cF_ag h (w8 q hq).2.2.2, ← h q.1 (w8 q hq).1, ← h q.2.1 (w8 q hq).2.1]; exact s8 q hq
/-! what a state stands for -/
def cV (σ : aσ) : aV → Value
  | .inl f => .int (Int32.ofInt (cF σ f))
  | .inr p => .ref p
def cK (σ : aσ) : aK → va_E
  | .inl a => .inl (a.1, a.2.1, .inl (fun j => Int32.ofInt (σ a.2.2 j)))
  | .inr b => .inr (b.1, b.2.map (cV σ))
def cH (σ : aσ) (C : aH) : xC := C.map (cK σ)
def cL (σ : aσ) (L : aL) : xL := L.map (fun q => (q.1, cV σ q.2))
def wV (n : Nat) : aV → Prop
  | .inl f => wF n f
  | .inr _ => True
def wK (n : Nat) : aK → Prop
  | .inl a => a.2.2 < n
  | .inr b => ∀ v ∈ b.2, wV n v
def wH (n : Nat) (C : aH) : Prop := ∀ c ∈ C, wK n c
def wL (n : Nat) (L : aL) : Prop := ∀ q ∈ L, wV n q.2
def wS (n : Nat) (S : List aV) : Prop := ∀ v ∈ S, wV n v
def wR (n : Nat) (fr : List aR) : Prop := ∀ q ∈ fr, wL n q.2.2.1 ∧ wS n q.2.2.2
theorem wV_le {n m : Nat} (h : n ≤ m) {v : aV} (w : wV n v) : wV m v := by
  cases v with
  | inl f => exact wF_le h w
  | inr p => trivial
theorem wK_le {n m : Nat} (h : n ≤ m) {v : aK} (w : wK n v) : wK m v := by
  cases v with
  | inl f => exact Nat.lt_of_lt_of_le w h
  | inr p => exact fun v hv => wV_le h (w v hv)
theorem wH_le {n m : Nat} (h : n ≤ m) {v : aH} (w : wH n v) : wH m v := fun c hc => wK_le h (w c hc)
theorem wL_le {n m : Nat} (h : n ≤ m) {v : aL} (w : wL n v) : wL m v := fun c hc => wV_le h (w c hc)
theorem wS_le {n m : Nat} (h : n ≤ m) {v : List aV} (w : wS n v) : wS m v := fun c hc => wV_le h (w c hc)
theorem wR_le {n m : Nat} (h : n ≤ m) {v : List aR} (w : wR n v) : wR m v := fun c hc => ⟨wL_le h (w c hc).1, wS_le h (w c hc).2⟩
theorem cV_ag {n : Nat} {σ τ : aσ} (h : aAg n σ τ) {v : aV} (w : wV n v) : cV σ v = cV τ v := by
  cases v with
  | inl f => show Value.int (Int32.ofInt (cF σ f)) = Value.int (Int32.ofInt (cF τ f)); rw [cF_ag h w]
  | inr p => rfl
theorem cS_ag {n : Nat} {σ τ : aσ} (h : aAg n σ τ) {S : List aV} (w : wS n S) : S.map (cV σ) = S.map (cV τ) := List.map_congr_left fun v hv => cV_ag h (w v hv)
theorem cK_ag {n : Nat} {σ τ : aσ} (h : aAg n σ τ) {c : aK} (w : wK n c) : cK σ c = cK τ c := by
  cases c with
  | inl a =>
    show (Sum.inl (a.1, a.2.1, .inl (fun j => Int32.ofInt (σ a.2.2 j))) : va_E) = Sum.inl (a.1, a.2.1, .inl (fun j => Int32.ofInt (τ a.2.2 j)))
    rw [h a.2.2 w]
  | inr b =>
    show (Sum.inr (b.1, b.2.map (cV σ)) : va_E) = Sum.inr (b.1, b.2.map (cV τ))
    rw [cS_ag h w]
theorem cH_ag {n : Nat} {σ τ : aσ} (h : aAg n σ τ) {C : aH} (w : wH n C) : cH σ C = cH τ C := List.map_congr_left fun v hv => cK_ag h (w v hv)
theorem cL_ag {n : Nat} {σ τ : aσ} (h : aAg n σ τ) {L : aL} (w : wL n L) : cL σ L = cL τ L := List.map_congr_left fun v hv => by rw [cV_ag h (w v hv)]
def kont (σ : aσ) (Φ : Option Value → xC → Prop) : List aR → Option Value → xC → Prop
  | [], r, C => Φ r C
  | q :: t, none, C => RP q.1 C q.2.1 (cL σ q.2.2.1) (q.2.2.2.map (cV σ)) (kont σ Φ t)
  | q :: t, some (.int v), C => RP q.1 C q.2.1 (cL σ q.2.2.1) (.int v :: q.2.2.2.map (cV σ)) (kont σ Φ t)
  | _ :: _, some _, _ => False
theorem kont_ag {n : Nat} {σ τ : aσ} (h : aAg n σ τ) (Φ : Option Value → xC → Prop) {fr : List aR} (w : wR n fr) : kont σ Φ fr = kont τ Φ fr := by
  induction fr with
  | nil => rfl
  | cons q t ih =>
    have i2 := ih (fun r hr => w r (List.mem_cons_of_mem _ hr))
    obtain ⟨a1, a2⟩ := w q List.mem_cons_self
    funext r C
    cases r with
    | none =>
      show RP q.1 C q.2.1 (cL σ q.2.2.1) (q.2.2.2.map (cV σ)) (kont σ Φ t) = RP q.1 C q.2.1 (cL τ q.2.2.1) (q.2.2.2.map (cV τ)) (kont τ Φ t)
      rw [i2, cL_ag h a1, cS_ag h a2]
    | some v =>
      cases v with
      | int v =>
        show RP q.1 C q.2.1 (cL σ q.2.2.1) (.int v :: q.2.2.2.map (cV σ)) (kont σ Φ t) = RP q.1 C q.2.1 (cL τ q.2.2.1) (.int v :: q.2.2.2.map (cV τ)) (kont τ Φ t)
        rw [i2, cL_ag h a1, cS_ag h a2]
      | _ => rfl
def goal (σ : aσ) (Φ : Option Value → xC → Prop) (s : aS) : Prop := RP s.2.1 (cH σ s.2.2.1) s.2.2.2.1 (cL σ s.2.2.2.2.1) (s.2.2.2.2.2.1.map (cV σ)) (kont σ Φ s.2.2.2.2.2.2)
/-! the measure: bits that are 0 in some rows -/
def zb (x : Int32) : Nat → Int
  | 0 => 0
  | n + 1 => (if x.toBitVec.getLsbD n then 0 else 1) + zb x n
theorem zb_pos (x : Int32) (n : Nat) : 0 ≤ zb x n ∧ zb x n ≤ n := by
  induction n with
  | zero => exact ⟨Int.le_refl 0, Int.le_refl 0⟩
  | succ n ih =>
    have : zb x (n + 1) = (if x.toBitVec.getLsbD n then 0 else 1) + zb x n := rfl
    rw [this]
    split <;> omega
theorem zb_or (x y : Int32) (n : Nat) : zb (x ||| y) n ≤ zb x n ∧ ((∃ i, i < n ∧ (x ||| y).toBitVec.getLsbD i ≠ x.toBitVec.getLsbD i) → zb (x ||| y) n + 1 ≤ zb x n) := by
  induction n with
  | zero => exact ⟨Int.le_refl 0, fun ⟨i, h, _⟩ => absurd h (Nat.not_lt_zero i)⟩
  | succ n ih =>
    have e1 : zb (x ||| y) (n + 1) = (if (x ||| y).toBitVec.getLsbD n then 0 else 1) + zb (x ||| y) n := rfl
    have e2 : zb x (n + 1) = (if x.toBitVec.getLsbD n then 0 else 1) + zb x n := rfl
    have e3 : (x ||| y).toBitVec.getLsbD n = (x.toBitVec.getLsbD n || y.toBitVec.getLsbD n) := by rw [Int32.toBitVec_or, BitVec.getLsbD_or]
    rw [e1, e2]
    refine ⟨?_, fun ⟨i, hi, hne⟩ => ?_⟩
    · rw [e3]
      cases x.toBitVec.getLsbD n <;> cases y.toBitVec.getLsbD n <;> simp <;> omega
    · by_cases hin : i = n
      · subst hin
        rw [e3] at hne ⊢
        revert hne
        cases x.toBitVec.getLsbD i <;> cases y.toBitVec.getLsbD i <;> simp <;> omega
      · have := ih.2 ⟨i, by omega, hne⟩
        rw [e3]
        cases x.toBitVec.getLsbD n <;> cases y.toBitVec.getLsbD n <;> simp <;> omega
theorem zb_ne {x y : Int32} (h : x ≠ y) : ∃ i, i < 32 ∧ x.toBitVec.getLsbD i ≠ y.toBitVec.getLsbD i := by
  refine Classical.byContradiction fun hn => h ?_
  apply Int32.toBitVec_inj.mp
  apply BitVec.eq_of_getLsbD_eq
  intro i hi
  exact Classical.byContradiction fun h2 => hn ⟨i, hi, h2⟩
def rsum (f : Nat → Int32) : Nat → Int
  | 0 => 0
  | n + 1 => zb (f n) 32 + rsum f n
theorem rsum_pos (f : Nat → Int32) (n : Nat) : 0 ≤ rsum f n ∧ rsum f n ≤ 32 * n := by
  induction n with
  | zero => exact ⟨Int.le_refl 0, Int.le_refl 0⟩
  | succ n ih =>
    have := zb_pos (f n) 32
    have : rsum f (n + 1) = zb (f n) 32 + rsum f n := rfl
    omega
theorem rsum_upd (f g : Nat → Int32) (i n : Nat) (h : ∀ j, j ≠ i → g j = f j) : (n ≤ i → rsum g n = rsum f n) ∧ (i < n → rsum g n = rsum f n - zb (f i) 32 + zb (g i) 32) := by
  induction n with
  | zero => exact ⟨fun _ => rfl, fun h => absurd h (Nat.not_lt_zero i)⟩
  | succ n ih =>
    have e1 : rsum g (n + 1) = zb (g n) 32 + rsum g n := rfl
    have e2 : rsum f (n + 1) = zb (f n) 32 + rsum f n := rfl
    refine ⟨fun hn => ?_, fun hn => ?_⟩
    · rw [e1, e2, h n (by omega), ih.1 (by omega)]
    · rw [e1, e2]
      by_cases hin : i = n
      · subst hin
        rw [ih.1 (Nat.le_refl i)]
        omega
      · rw [h n (Ne.symm hin), ih.2 (by omega)]
        omega
def phiK : Option va_E → Int
  | some (.inl (_, n, .inl f)) => rsum f n
  | _ => 0
def phi (PH : List Nat) (C : xC) : Int := (PH.map fun p => phiK C[p]?).sum
theorem phiK_pos (o : Option va_E) : 0 ≤ phiK o := by
  match o with
  | some (.inl (_, n, .inl f)) => exact (rsum_pos f n).1
  | some (.inl (_, n, .inr f)) => exact Int.le_refl 0
  | some (.inr _) => exact Int.le_refl 0
  | none => exact Int.le_refl 0
theorem phi_pos (PH : List Nat) (C : xC) : 0 ≤ phi PH C := by
  induction PH with
  | nil => exact Int.le_refl 0
  | cons p t ih =>
    have := phiK_pos C[p]?
    have e : phi (p :: t) C = phiK C[p]? + phi t C := by simp [phi]
    omega
theorem phi_set {PH : List Nat} {C : xC} {p : Nat} {c : va_E} {D : Int} (hD : phiK (C.set p c)[p]? ≤ phiK C[p]? + D) (hn : PH.Nodup) : phi PH (C.set p c) ≤ phi PH C + (if p ∈ PH then D else 0) := by
  induction PH with
  | nil => simp [phi]
  | cons q t ih =>
    have ih := ih (List.nodup_cons.mp hn).2
    have e1 : phi (q :: t) C = phiK C[q]? + phi t C := by simp [phi]
    have e2 : phi (q :: t) (C.set p c) = phiK (C.set p c)[q]? + phi t (C.set p c) := by simp [phi]
    rw [e1, e2]
    by_cases h : p = q
    · subst h
      rw [if_neg (List.nodup_cons.mp hn).1] at ih
      rw [if_pos List.mem_cons_self]
      omega
    · rw [List.getElem?_set_ne h]
      by_cases h2 : p ∈ t
      · rw [if_pos h2] at ih
        rw [if_pos (List.mem_cons_of_mem _ h2)]
        omega
      · rw [if_neg h2] at ih
        rw [if_neg (fun h3 => (List.mem_cons.mp h3).elim h h2)]
        omega
/-- the bound of the measure -/
def aPM (PH : List Nat) (PM : Int) (C : xC) : Prop := phi PH C ≤ PM
/-- a state's names are known, and what it knows holds; PM bounds the measure of every heap of this shape -/
def wfs (s : aS) : Prop := wfe s.1.1 s.1 ∧ wH s.1.1 s.2.2.1 ∧ wL s.1.1 s.2.2.2.2.1 ∧ wS s.1.1 s.2.2.2.2.2.1 ∧ wR s.1.1 s.2.2.2.2.2.2
/-- the lengths of the rows of the measure -/
def plen (C : aH) (p : Nat) : Int := match C[p]? with
  | some (.inl (_, n, _)) => n
  | _ => 0
def pmax (PH : List Nat) (C : aH) : Int := (PH.map fun p => 32 * plen C p).sum
theorem phi_max (PH : List Nat) (σ : aσ) (C : aH) : phi PH (cH σ C) ≤ pmax PH C := by
  induction PH with
  | nil => exact Int.le_refl 0
  | cons p t ih =>
    have e1 : phi (p :: t) (cH σ C) = phiK (cH σ C)[p]? + phi t (cH σ C) := by simp [phi]
    have e2 : pmax (p :: t) C = 32 * plen C p + pmax t C := by simp [pmax]
    have e3 : (cH σ C)[p]? = C[p]?.map (cK σ) := by simp [cH]
    rw [e1, e2, e3]
    have key : phiK (C[p]?.map (cK σ)) ≤ 32 * plen C p := by
      unfold plen
      cases hc : C[p]? with
      | none => exact Int.le_refl 0
      | some c =>
        rcases c with ⟨a, n, i⟩ | b
        · exact (rsum_pos _ n).2
        · exact Int.le_refl 0
    omega
def satS (G : aG) (σ : aσ) (s : aS) : Prop := sat σ s.1 ∧ phi G.2.1 (cH σ s.2.2.1) ≤ cF σ s.1.2.2.2.2.2.2.2.2.2 ∧ pmax G.2.1 s.2.2.1 ≤ G.2.2.1 ∧ G.2.1.Nodup
