/-! ONE STEP of the abstract interpreter, and its run -/
noncomputable def fV {β : Type} (v : aV) (k : aV → β) : β := match v with
  | .inl f => fF f fun z => k (.inl z)
  | .inr p => xe_fn p fun q => k (.inr q)
noncomputable def fVs {β : Type} (l : List aV) : (List aV → β) → β := List.rec (motive := fun _ => (List aV → β) → β) (fun k => k []) (fun v _ ih k => fV v fun z => ih fun t => k (z :: t)) l
noncomputable def fK {β : Type} (c : aK) (k : aK → β) : β := match c with
  | .inl (t, n, i) => xe_fn i fun j => k (.inl (t, n, j))
  | .inr (ci, fs) => fVs fs fun gs => k (.inr (ci, gs))
noncomputable def fH {β : Type} (C : aH) : (aH → β) → β := List.rec (motive := fun _ => (aH → β) → β) (fun k => k []) (fun v _ ih k => fK v fun z => ih fun t => k (z :: t)) C
noncomputable def fL {β : Type} (l : aL) : (aL → β) → β := List.rec (motive := fun _ => (aL → β) → β) (fun k => k []) (fun q _ ih k => fV q.2 fun z => ih fun t => k ((q.1, z) :: t)) l
noncomputable def vEq (v w : aV) : Bool := match v, w with
  | .inl f, .inl g => lEq f g
  | .inr p, .inr q => Nat.beq p q
  | _, _ => false
noncomputable def vsEq (l : List aV) : List aV → Bool := List.rec (motive := fun _ => List aV → Bool) (fun m => match m with | [] => true | _ => false) (fun q _ ih m => match m with | [] => false | r :: t => cond (vEq q r) (ih t) false) l
noncomputable def kEq (c d : aK) : Bool := match c, d with
  | .inl (t, n, i), .inl (u, m, j) => cond (Nat.beq i j) (cond (Nat.beq t u) (Nat.beq n m) false) false
  | .inr (a, fs), .inr (b, gs) => cond (Nat.beq a b) (vsEq fs gs) false
  | _, _ => false
noncomputable def hEq (l : aH) : aH → Bool := List.rec (motive := fun _ => aH → Bool) (fun m => match m with | [] => true | _ => false) (fun q _ ih m => match m with | [] => false | r :: t => cond (kEq q r) (ih t) false) l
noncomputable def aLEq (l : aL) : aL → Bool := List.rec (motive := fun _ => aL → Bool) (fun m => match m with | [] => true | _ => false) (fun q _ ih m => match m with | [] => false | r :: t => cond (Nat.beq q.1 r.1) (cond (vEq q.2 r.2) (ih t) false) false) l
noncomputable def rEq (l : List aR) : List aR → Bool := List.rec (motive := fun _ => List aR → Bool) (fun m => match m with | [] => true | _ => false) (fun q _ ih m => match m with | [] => false | r :: t => cond (Nat.beq q.1 r.1) (cond (Nat.beq q.2.1 r.2.1) (cond (aLEq q.2.2.1 r.2.2.1) (cond (vsEq q.2.2.2 r.2.2.2) (ih t) false) false) false) false) l
/-- a contract: the ranges of the arguments, of the answer, the fields and the rows that change -/
abbrev aSm : Type := List (Int × Int) × Option (Int × Int) × List (Nat × Nat) × List Nat
/-- a slot of a state and its range: (0, j, 0) a local, (1, p, j) a field, (2, 0, 0) the measure, (3, p, 0) a row -/
abbrev aSl : Type := Nat × Nat × Nat × Int × Int
/-- a loop: slots whose range is kept, other slots that change, sums that are not below 0, sums that don't grow, the sum that falls, are INSTRUCTIONS put -/
abbrev aTp : Type := List aSl × List aSl × List (Int × List (Nat × Int)) × List (List (Nat × Int)) × (Int × List (Nat × Int)) × Bool
/-- the side: where the INSTRUCTIONS lie, the rows of the measure, its bound, the contracts, the invariant's slots, the heap with a name in each of them -/
abbrev aG : Type := List Nat × List Nat × Int × (Nat → Nat → Option aSm) × List aSl × aH
noncomputable def nmem (n : Nat) (l : List Nat) : Bool := lAny (fun m => Nat.beq n m) l
noncomputable def sIdx (l : List aSl) (a b c : Nat) : Nat → Option Nat := List.rec (motive := fun _ => Nat → Option Nat) (fun _ => none) (fun q _ ih n => cond (cond (Nat.beq q.1 a) (cond (Nat.beq q.2.1 b) (Nat.beq q.2.2.1 c) false) false) (some n) (ih (Nat.succ n))) l
noncomputable def repV (sl : List aSl) (n p : Nat) (fs : List aV) : Nat → List aV := List.rec (motive := fun _ => Nat → List aV) (fun _ => []) (fun v _ ih j => (match sIdx sl 1 p j n with
  | some i => .inl (0, [(i, 1)])
  | none => v) :: ih (Nat.succ j)) fs
noncomputable def repK (sl : List aSl) (n p : Nat) (c : aK) : aK := match c with
  | .inl (t, m, i) => .inl (t, m, match sIdx sl 3 p 0 n with
    | some v => v
    | none => i)
  | .inr (ci, fs) => .inr (ci, repV sl n p fs 0)
noncomputable def repH (sl : List aSl) (n : Nat) (C : aH) : Nat → aH := List.rec (motive := fun _ => Nat → aH) (fun _ => []) (fun c _ ih p => repK sl n p c :: ih (Nat.succ p)) C
noncomputable def repL (sl : List aSl) (n : Nat) (L : aL) : aL := List.rec (motive := fun _ => aL) [] (fun q _ ih => (q.1, match sIdx sl 0 q.1 0 n with
  | some i => .inl (0, [(i, 1)])
  | none => q.2) :: ih) L
noncomputable def repG (sl : List aSl) (n : Nat) (g : aF) : aF := match sIdx sl 2 0 0 n with
  | some i => (0, [(i, 1)])
  | none => g
/-- the form in a slot -/
noncomputable def sform (C : aH) (L : aL) (g : aF) (q : aSl) : Option aF := cond (Nat.beq q.1 0) (match xe_as L q.2.1 with
  | some (.inl f) => some f
  | _ => none) (cond (Nat.beq q.1 1) (match xe_nth C q.2.1 with
  | some (.inr (_, fs)) => match xe_nth fs q.2.2.1 with
    | some (.inl f) => some f
    | _ => none
  | _ => none) (cond (Nat.beq q.1 2) (some g) none))
/-- the forms of slots whose range is kept -/
noncomputable def sforms (V : List (Nat × Int × Int)) (K : List aF) (C : aH) (L : aL) (g : aF) (sl : List aSl) : Option (List aF) := List.rec (motive := fun _ => Option (List aF)) (some []) (fun q _ ih => match sform C L g q with
  | some f => cond (cond (cond (Nat.beq q.1 2) (iLe q.2.2.2.1 0) (pr2 V K (lsub f (q.2.2.2.1, [])))) (cond (pr2 V K (lsub (q.2.2.2.2, []) f)) (cond (iLe aMN q.2.2.2.1) (iLe q.2.2.2.2 aMX) false) false) false) (match ih with
    | some t => some (f :: t)
    | none => none) none
  | none => none) sl
/-- other slots: a number, or a row in its range -/
noncomputable def sfree (AR : List (Nat × Int × Int)) (C : aH) (L : aL) (g : aF) (sl : List aSl) : Bool := lAll (fun q => cond (Nat.beq q.1 3) (match cid C q.2.1 with
  | some i => match vrg AR i with
    | (a, b) => cond (iLe q.2.2.2.1 a) (iLe b q.2.2.2.2) false
  | none => false) (cond (Nat.beq q.1 2) false (match sform C L g q with
  | some _ => cond (iEq q.2.2.2.1 aMN) (iEq q.2.2.2.2 aMX) false
  | none => false))) sl
noncomputable def lcb (c : Int) (ks : List (Nat × Int)) (fs : List aF) : aF := List.rec (motive := fun _ => aF) (c, []) (fun q _ ih => match xe_nth fs q.1 with
  | some f => ladd (lmul q.2 f) ih
  | none => ih) ks
noncomputable def lcok (ks : List (Nat × Int)) (fs : List aF) : Bool := lAll (fun q => match xe_nth fs q.1 with
  | some _ => true
  | none => false) ks
noncomputable def lmap {α β : Type} (f : α → β) (l : List α) : List β := List.rec (motive := fun _ => List β) [] (fun q _ ih => f q :: ih) l
noncomputable def fFs {β : Type} (l : List aF) : (List aF → β) → β := List.rec (motive := fun _ => (List aF → β) → β) (fun k => k []) (fun v _ ih k => fF v fun z => ih fun t => k (z :: t)) l
noncomputable def sumsE (V : List (Nat × Int × Int)) (K : List aF) (fs : List aF) (l : List (List (Nat × Int))) : List aF → Bool := List.rec (motive := fun _ => List aF → Bool) (fun es => match es with | [] => true | _ => false) (fun z _ ih es => match es with
  | e :: r => cond (lcok z fs) (cond (pr2 V K (lsub e (lcb 0 z fs))) (ih r) false) false
  | [] => false) l
/-- do the sums of a state fit? ents: what may not be passed -/
noncomputable def sums (V : List (Nat × Int × Int)) (K : List aF) (t : aTp) (ents : List aF) (fs : List aF) : Bool := cond (lAll (fun (z : Int × List (Nat × Int)) => cond (lcok z.2 fs) (pr2 V K (lcb z.1 z.2 fs)) false) t.2.2.1) (sumsE V K fs t.2.2.2.1 ents) false
noncomputable def aK2 (xs : List aF) (l : List (List (Nat × Int))) : List aF → List aF := List.rec (motive := fun _ => List aF → List aF) (fun _ => []) (fun z _ ih es => match es with
  | e :: r => lsub e (lcb 0 z xs) :: ih r
  | [] => []) l
noncomputable def tfit (CP : List Nat) (C : aH) (TO : List (List Nat)) (b : Bool) : Bool := cond b (match cids C CP with
  | some cs => tol TO cs
  | none => false) true
/-- new names for slots, from n on: their ranges -/
noncomputable def nmV (sl : List aSl) : Nat → List (Nat × Int × Int) → List (Nat × Int × Int) := List.rec (motive := fun _ => Nat → List (Nat × Int × Int) → List (Nat × Int × Int)) (fun _ V => V) (fun q _ ih n V => cond (Nat.beq q.1 3) (ih (Nat.succ n) V) (ih (Nat.succ n) ((n, q.2.2.2.1, q.2.2.2.2) :: V))) sl
noncomputable def nmA (sl : List aSl) : Nat → List (Nat × Int × Int) → List (Nat × Int × Int) := List.rec (motive := fun _ => Nat → List (Nat × Int × Int) → List (Nat × Int × Int)) (fun _ V => V) (fun q _ ih n V => cond (Nat.beq q.1 3) (ih (Nat.succ n) ((n, q.2.2.2.1, q.2.2.2.2) :: V)) (ih (Nat.succ n) V)) sl
noncomputable def fR {β : Type} (l : List (Nat × Int × Int)) : (List (Nat × Int × Int) → β) → β := List.rec (motive := fun _ => (List (Nat × Int × Int) → β) → β) (fun k => k []) (fun q _ ih k => match q with
  | (v, a, b) => xe_fn v fun v => fI a fun a => fI b fun b => ih fun t => k ((v, a, b) :: t)) l
noncomputable def nvars (sl : List aSl) : Nat → List aF := List.rec (motive := fun _ => Nat → List aF) (fun _ => []) (fun _ _ ih n => (0, [(n, 1)]) :: ih (Nat.succ n)) sl
/-- a loop that runs: method, place, the state at its head, its template, the name from which its names go, what may not be passed -/
abbrev aAc : Type := Nat × Nat × aS × aTp × Nat × List aF
noncomputable def aJ {β : Type} (pc : Nat) (off : Int) (go : Nat → Option β) : Option β := xe_jmp pc off go
noncomputable def aRm (j : Nat) (L : aL) : aL := List.rec (motive := fun _ => aL) [] (fun q _ ih => cond (Nat.beq q.1 j) ih (q :: ih)) L
noncomputable def aFull (e : aE) (k : Nat) (C : aH) (pc : Nat) (L : aL) (S : List aV) (fr : List aR) : Option (List aS) := nw e aMN aMX fun e1 f => some [(e1, k, C, pc, L, .inl f :: S, fr)]
noncomputable def aRng (e : aE) (k : Nat) (C : aH) (pc : Nat) (L : aL) (S : List aV) (fr : List aR) (lo hi : Int) : Option (List aS) := nw e lo hi fun e1 f => some [(e1, k, C, pc, L, .inl f :: S, fr)]
noncomputable def aPush (e : aE) (k : Nat) (C : aH) (pc : Nat) (L : aL) (S : List aV) (fr : List aR) (f : aF) : Option (List aS) := fF f fun z => some [(e, k, C, pc, L, .inl z :: S, fr)]
noncomputable def orf (OR : List (Nat × aF × aF)) (m w : aF) : Option Nat := List.rec (motive := fun _ => Option Nat) none (fun q _ ih => cond (lEq q.2.1 m) (cond (lEq q.2.2 w) (some q.1) ih) ih) OR
noncomputable def aAdd (o : Nat) (e : aE) (k : Nat) (C : aH) (pc : Nat) (L : aL) (S : List aV) (fr : List aR) : Option (List aS) := match S with
  | .inl y :: .inl x :: T => match o with
    | 0 => aPush e k C pc L T fr (ladd x y)
    | 1 => aPush e k C pc L T fr (lsub x y)
    | 2 => match x.2 with
      | [] => aPush e k C pc L T fr (lmul x.1 y)
      | _ => match y.2 with
        | [] => aPush e k C pc L T fr (lmul y.1 x)
        | _ => aFull e k C pc L T fr
    | 3 => cond (cond (pr0 e.2.1 y) (iLe (bhi e.2.1 y) aMX) false) (aRng e k C pc L T fr 0 (bhi e.2.1 y)) (cond (cond (pr0 e.2.1 x) (iLe (bhi e.2.1 x) aMX) false) (aRng e k C pc L T fr 0 (bhi e.2.1 x)) (aFull e k C pc L T fr))
    | 4 => match e with
      | (nv, V, AR, K, LD, OR, NE, TO, DF, g) => match orf OR x y with
        | some v => some [((nv, V, AR, K, LD, OR, NE, TO, DF, g), k, C, pc, L, .inl (0, [(v, 1)]) :: T, fr)]
        | none => xe_fn (Nat.succ nv) fun w => some [((w, (nv, aMN, aMX) :: V, AR, K, LD, (nv, x, y) :: OR, NE, TO, DF, g), k, C, pc, L, .inl (0, [(nv, 1)]) :: T, fr)]
    | 5 => cond (cond (lEq x (1, [])) (cond (pr0 e.2.1 y) (iLe (bhi e.2.1 y) 30) false) false) (aRng e k C pc L T fr (Int.ofNat (Nat.pow 2 (Int.toNat (blo e.2.1 y)))) (Int.ofNat (Nat.pow 2 (Int.toNat (bhi e.2.1 y))))) (aFull e k C pc L T fr)
    | _ => aFull e k C pc L T fr
  | _ => none
noncomputable def aBr (e : aE) (k : Nat) (C : aH) (pc : Nat) (L : aL) (T : List aV) (fr : List aR) (c d : Nat) (off : Int) (x y : aF) : Option (List aS) := match cnd e c x y with
  | none => none
  | some r1 => match cnd e d x y with
    | none => none
    | some r2 => xe_jmp pc off fun t => match r1, r2 with
      | some e1, some e2 => some [(e1, k, C, t, L, T, fr), (e2, k, C, pc + 3, L, T, fr)]
      | some e1, none => some [(e1, k, C, t, L, T, fr)]
      | none, some e2 => some [(e2, k, C, pc + 3, L, T, fr)]
      | none, none => some []
noncomputable def aBr1 (e : aE) (k : Nat) (C : aH) (pc : Nat) (L : aL) (S : List aV) (fr : List aR) (c d : Nat) (off : Int) : Option (List aS) := match S with
  | .inl x :: T => aBr e k C pc L T fr c d off x (0, [])
  | _ => none
noncomputable def aBr2 (e : aE) (k : Nat) (C : aH) (pc : Nat) (L : aL) (S : List aV) (fr : List aR) (c d : Nat) (off : Int) : Option (List aS) := match S with
  | .inl y :: .inl x :: T => aBr e k C pc L T fr c d off x y
  | _ => none
/-- a way more, where it can be -/
noncomputable def aWay (e : aE) (k : Nat) (C : aH) (pc : Nat) (L : aL) (T : List aV) (fr : List aR) (c : Nat) (off : Int) (x : aF) (v : Int) (r : Option (List aS)) : Option (List aS) := match cnd e c x (v, []) with
  | none => none
  | some none => r
  | some (some e1) => match r with
    | none => none
    | some l => xe_jmp pc off fun t => some ((e1, k, C, t, L, T, fr) :: l)
noncomputable def aSwtR (e : aE) (k : Nat) (C : aH) (pc : Nat) (L : aL) (T : List aV) (fr : List aR) (dflt lo hi : Int) (x : aF) (offs : List Int) : Int → Option (List aS) := List.rec (motive := fun _ => Int → Option (List aS)) (fun _ => aWay e k C pc L T fr 2 dflt x lo (aWay e k C pc L T fr 4 dflt x hi (some []))) (fun off _ ih v => aWay e k C pc L T fr 0 off x v (fI (Int.add v 1) ih)) offs
noncomputable def aSwt (e : aE) (k : Nat) (C : aH) (pc : Nat) (L : aL) (S : List aV) (fr : List aR) (dflt lo hi : Int) (offs : Array Int) : Option (List aS) := match S with
  | .inl x :: T => match x.2 with
    | [] => cond (cond (iLe aMN x.1) (iLe x.1 aMX) false) (cond (cond (iLe lo x.1) (iLe x.1 hi) false) (match xe_nth offs.toList (Int.toNat (Int.sub x.1 lo)) with
      | some off => xe_jmp pc off fun t => some [(e, k, C, t, L, T, fr)]
      | none => none) (xe_jmp pc dflt fun t => some [(e, k, C, t, L, T, fr)])) none
    | _ => cond (iEq (Int.add lo (Int.ofNat offs.toList.length)) (Int.add hi 1)) (aSwtR e k C pc L T fr dflt lo hi x offs.toList lo) none
  | _ => none
noncomputable def aSwlR (k : Nat) (C : aH) (pc : Nat) (L : aL) (T : List aV) (fr : List aR) (dflt : Int) (x : aF) (ps : List (Int × Int)) : aE → Option (List aS) := List.rec (motive := fun _ => aE → Option (List aS)) (fun e1 => xe_jmp pc dflt fun t => some [(e1, k, C, t, L, T, fr)]) (fun q _ ih e1 => aWay e1 k C pc L T fr 0 q.2 x q.1 (match cnd e1 1 x (q.1, []) with
    | none => none
    | some none => some []
    | some (some e2) => ih e2)) ps
noncomputable def aSwl (e : aE) (k : Nat) (C : aH) (pc : Nat) (L : aL) (S : List aV) (fr : List aR) (dflt : Int) (ps : Array (Int × Int)) : Option (List aS) := match S with
  | .inl x :: T => cond (cond (Nat.ble 1 ps.toList.length) ((ps.toList.zip (ps.toList.drop 1)).all (fun (a, next) => a.1 < next.1)) false) (aSwlR k C pc L T fr dflt x ps.toList e) none
  | _ => none
noncomputable def aAld (tag : Nat) (e : aE) (k : Nat) (C : aH) (pc : Nat) (L : aL) (S : List aV) (fr : List aR) : Option (List aS) := match S with
  | .inl i :: .inr p :: T => match xe_nth C p with
    | some (.inl (t, n, r)) => cond (cond (Nat.beq t tag) (cond (Nat.ble n 2147483647) (prB e.2.1 e.2.2.2.1 i 0 (Int.sub (Int.ofNat n) 1)) false) false) (match ldf e.2.2.2.2.1 r i with
      | some f => some [(e, k, C, pc, L, .inl f :: T, fr)]
      | none => match vrg e.2.2.1 r with
        | (a, b) => nw e a b fun e1 f => match e1 with
          | (nv, V, AR, K, LD, OR, NE, TO, DF, g) => some [((nv, V, AR, K, (r, i, f) :: LD, OR, NE, TO, DF, g), k, C, pc, L, .inl f :: T, fr)]) none
    | _ => none
  | _ => none
noncomputable def imin (a b : Int) : Int := cond (iLe a b) a b
noncomputable def imax (a b : Int) : Int := cond (iLe a b) b a
/-- the measure behind a store of v at i of the row r, which held m there -/
noncomputable def aMs (V AR : List (Nat × Int × Int)) (OR : List (Nat × aF × aF)) (NE : List aF) (PM : Int) (g : aF) (r : Nat) (m : Option aF) (v : aF) : aF := match m with
  | some m => cond (lAny (fun (q : Nat × aF × aF) => cond (lEq v (0, [(q.1, 1)])) (lEq q.2.1 m) false) OR) (cond (lAny (fun d => cond (lEq d (lsub v m)) true (lEq d (lsub m v))) NE) (ladd g (-1, [])) g) (cond (lEq v (1, [])) (cond (cond (iEq (blo V m) 0) (iEq (bhi V m) 0) false) (ladd g (-1, [])) (match vrg AR r with
    | (a, b) => cond (cond (iLe 0 a) (iLe b 1) false) g (PM, []))) (PM, []))
  | none => cond (lEq v (1, [])) (match vrg AR r with
    | (a, b) => cond (cond (iLe 0 a) (iLe b 1) false) g (PM, [])) (PM, [])
noncomputable def aAst (G : aG) (tag : Nat) (e : aE) (k : Nat) (C : aH) (pc : Nat) (L : aL) (S : List aV) (fr : List aR) : Option (List aS) := match S with
  | .inl v :: .inl i :: .inr p :: T => match xe_nth C p with
    | some (.inl (t, n, r)) => match e with
      | (nv, V, AR, K, LD, OR, NE, TO, DF, g) => cond (cond (Nat.beq t tag) (cond (cond (Nat.ble n 2147483647) (prB V K i 0 (Int.sub (Int.ofNat n) 1)) false) (cond (Nat.beq tag 0) true (cond (pr0 V v) (iLe (bhi V v) 1) false)) false) false) (match vrg AR r with
        | (a, b) => fF (cond (nmem p G.2.1) (aMs V AR OR NE G.2.2.1 g r (ldf LD r i) v) g) fun g' => xe_fn (Nat.succ nv) fun w => xe_set C p (.inl (t, n, nv)) fun C' => cond (inr V v) (cond (cond (cond (iEq a aMN) (iEq b aMX) false) true (prB V K v a b)) (some [((w, V, (nv, a, b) :: AR, K, (nv, i, v) :: LD, OR, NE, TO, (nv, r, i, v) :: DF, g'), k, C', pc, L, T, fr)]) (fI (imin a (blo V v)) fun a' => fI (imax b (bhi V v)) fun b' => some [((w, V, (nv, a', b') :: AR, K, (nv, i, v) :: LD, OR, NE, TO, (nv, r, i, v) :: DF, g'), k, C', pc, L, T, fr)])) (some [((w, V, (nv, aMN, aMX) :: AR, K, LD, OR, NE, TO, DF, g'), k, C', pc, L, T, fr)])) none
    | _ => none
  | _ => none
noncomputable def aPop (n : Nat) : List aV → List aV → Option (List aV × List aV) := Nat.rec (motive := fun _ => List aV → List aV → Option (List aV × List aV)) (fun S As => some (As, S)) (fun _ ih S As => match S with
  | v :: T => ih T (v :: As)
  | [] => none) n
noncomputable def aArgs (vs : List aV) : Nat → aL := List.rec (motive := fun _ => Nat → aL) (fun _ => []) (fun v _ ih i => (i, v) :: ih (Nat.succ i)) vs
/-- the heap keeps the invariant -/
noncomputable def aInv (G : aG) (e : aE) (C : aH) : Bool := match e with
  | (_, V, AR, K, _, _, _, TO, _, _) => cond (cond (hEq (repH G.2.2.2.2.1 0 C 0) G.2.2.2.2.2) (tfit G.1 C TO true) false) (lAll (fun q => cond (Nat.beq q.1 3) (match cid C q.2.1 with
    | some i => match vrg AR i with
      | (a, b) => cond (iLe q.2.2.2.1 a) (iLe b q.2.2.2.2) false
    | none => false) (match sform C [] (0, []) q with
    | some f => cond (cond (iEq q.2.2.2.1 aMN) (iEq q.2.2.2.2 aMX) false) true (cond (cond (iLe aMN q.2.2.2.1) (iLe q.2.2.2.2 aMX) false) (prB V K f q.2.2.2.1 q.2.2.2.2) false)
    | none => false)) G.2.2.2.2.1) false
noncomputable def aAok (V : List (Nat × Int × Int)) (K : List aF) (rs : List (Int × Int)) : List aV → Bool := List.rec (motive := fun _ => List aV → Bool) (fun vs => match vs with | [] => true | _ => false) (fun r _ ih vs => match vs with
  | .inl f :: t => cond (cond (cond (iEq r.1 aMN) (iEq r.2 aMX) false) true (prB V K f r.1 r.2)) (ih t) false
  | _ => false) rs
noncomputable def aInM (sm : aSm) (q : aSl) : Bool := cond (Nat.beq q.1 3) (nmem q.2.1 sm.2.2.2) (lAny (fun (z : Nat × Nat) => cond (Nat.beq z.1 q.2.1) (Nat.beq z.2 q.2.2.1) false) sm.2.2.1)
/-- the slots of the invariant that a contract lets change -/
noncomputable def smSl (sm : aSm) (l : List aSl) : List aSl := List.rec (motive := fun _ => List aSl) [] (fun q _ ih => cond (aInM sm q) (q :: ih) ih) l
noncomputable def aSum (G : aG) (sm : aSm) (e : aE) (k : Nat) (C : aH) (pc : Nat) (L : aL) (As rest : List aV) (fr : List aR) : Option (List aS) := match e with
  | (nv, V, AR, K, LD, OR, NE, TO, DF, g) => cond (cond (aInv G (nv, V, AR, K, LD, OR, NE, TO, DF, g) C) (aAok V K sm.1 As) false) (match smSl sm G.2.2.2.2.1 with
    | sl => fH (repH sl nv C 0) fun C' => fR (nmV sl nv V) fun V' => fR (nmA sl nv AR) fun AR' => xe_fn (nv + sl.length) fun w => match cids C' G.1 with
      | some cs => match sm.2.1 with
        | none => some [((w, V', AR', K, LD, OR, NE, cs :: TO, DF, (G.2.2.1, [])), k, C', pc, L, rest, fr)]
        | some (a, b) => nw (w, V', AR', K, LD, OR, NE, cs :: TO, DF, (G.2.2.1, [])) a b fun e1 f => some [(e1, k, C', pc, L, .inl f :: rest, fr)]
      | none => none) none
noncomputable def aCall (G : aG) (k' : Nat) (e : aE) (k : Nat) (C : aH) (pc : Nat) (L : aL) (vs rest : List aV) (fr : List aR) : Option (List aS) := cond (cond (Nat.ble rest.length 8) (Nat.ble vs.length (xm_n (xMT k'))) false) (match (match vs with
    | .inr p :: _ => G.2.2.2.1 k' p
    | _ => none) with
  | some sm => aSum G sm e k C (pc + 3) L (vs.drop 1) rest fr
  | none => some [(e, k', C, 0, aArgs vs 0, [], (k, pc + 3, L, rest) :: fr)]) none
noncomputable def aInvoke (G : aG) (virt : Bool) (idx : Nat) (e : aE) (k : Nat) (C : aH) (pc : Nat) (L : aL) (S : List aV) (fr : List aR) : Option (List aS) := match xe_as (xm_I (xMT k)) idx with
  | some (k', n, kd, ci) => match aPop n S [] with
    | some (As, rest) => cond virt (cond (Nat.beq kd 0) (match rest with
        | .inr b :: T => match xe_nth C b with
          | some (.inr (cj, _)) => cond (Nat.beq cj ci) (aCall G k' e k C pc L (.inr b :: As) T fr) none
          | _ => none
        | _ => none) none) (cond (Nat.beq kd 0) none (aCall G k' e k C pc L As rest fr))
    | none => none
  | none => none
noncomputable def aRet (FIN : aE → aH → Option aF → Bool) (e : aE) (C : aH) (f : Option aF) (fr : List aR) : Option (List aS) := match fr with
  | [] => cond (FIN e C f) (some []) none
  | (k, pc, L, S) :: t => match f with
    | none => some [(e, k, C, pc, L, S, t)]
    | some z => some [(e, k, C, pc, L, .inl z :: S, t)]
noncomputable def aIrt (FIN : aE → aH → Option aF → Bool) (ret : Option FieldType) (e : aE) (C : aH) (S : List aV) (fr : List aR) : Option (List aS) := match S, ret with
  | [.inl f], some .int => aRet FIN e C (some f) fr
  | [.inl f], some .boolean => cond (cond (pr0 e.2.1 f) (iLe (bhi e.2.1 f) 1) false) (aRet FIN e C (some f) fr) none
  | _, _ => none
noncomputable def aVrt (FIN : aE → aH → Option aF → Bool) (ret : Option FieldType) (e : aE) (C : aH) (S : List aV) (fr : List aR) : Option (List aS) := match S, ret with
  | [], none => aRet FIN e C none fr
  | _, _ => none
noncomputable def aGet (idx : Nat) (e : aE) (k : Nat) (C : aH) (pc : Nat) (L : aL) (S : List aV) (fr : List aR) : Option (List aS) := match S with
  | .inr p :: T => match xe_as (xm_F (xMT k)) idx with
    | some (ci, j, _) => match xe_nth C p with
      | some (.inr (cj, fs)) => cond (Nat.beq cj ci) (match xe_nth fs j with
        | some v => some [(e, k, C, pc, L, v :: T, fr)]
        | none => none) none
      | _ => none
    | none => none
  | _ => none
noncomputable def aPut (idx : Nat) (e : aE) (k : Nat) (C : aH) (pc : Nat) (L : aL) (S : List aV) (fr : List aR) : Option (List aS) := match S with
  | .inl f :: .inr p :: T => match xe_as (xm_F (xMT k)) idx with
    | some (ci, j, t) => match xe_nth C p with
      | some (.inr (cj, fs)) => cond (cond (Nat.beq cj ci) (cond (Nat.blt j fs.length) (cond (Nat.beq t 0) true (cond (Nat.beq t 1) (cond (pr0 e.2.1 f) (iLe (bhi e.2.1 f) 1) false) false)) false) false) (xe_set fs j (.inl f) fun fs' => xe_set C p (.inr (ci, fs')) fun C' => some [(e, k, C', pc, L, T, fr)]) none
      | _ => none
    | none => none
  | _ => none
noncomputable def aDiv (rem : Bool) (e : aE) (k : Nat) (C : aH) (pc : Nat) (L : aL) (S : List aV) (fr : List aR) : Option (List aS) := match S with
  | .inl y :: .inl x :: T => match y.2 with
    | [] => cond (cond (iLe 1 y.1) (iLe y.1 aMX) false) (cond (cond (pr0 e.2.1 x) (iLe (bhi e.2.1 x) aMX) false) (cond rem (aRng e k C pc L T fr 0 (Int.sub y.1 1)) (aRng e k C pc L T fr 0 (Int.ediv (bhi e.2.1 x) y.1))) (aFull e k C pc L T fr)) none
    | _ => none
  | _ => none
noncomputable def aCpy (G : aG) (e : aE) (k : Nat) (C : aH) (pc : Nat) (L : aL) (S : List aV) (fr : List aR) : Option (List aS) := match S with
  | [.inl n, .inl dp, .inr a, .inl sp, .inr b] => match xe_nth C b with
    | some (.inl (t0, n0, r0)) => match xe_nth C a with
      | some (.inl (t1, n1, r1)) => match e with
        | (nv, V, AR, K, LD, OR, NE, TO, DF, g) => cond (cond (cond (Nat.beq t0 0) (cond (Nat.beq t1 0) (cond (cond (Nat.ble n0 2147483647) (Nat.ble n1 2147483647) false) (cond (nmem a G.2.1) false true) false) false) false) (cond (prB V K n 0 (Int.ofNat n0)) (cond (prB V K sp 0 (Int.ofNat n0)) (cond (prB V K dp 0 (Int.ofNat n1)) (cond (pr2 V K (lsub (lsub (Int.ofNat n0, []) sp) n)) (pr2 V K (lsub (lsub (Int.ofNat n1, []) dp) n)) false) false) false) false) false) (match vrg AR r0, vrg AR r1 with
          | (a0, b0), (a1, b1) => fI (imin a0 a1) fun a' => fI (imax b0 b1) fun b' => xe_fn (Nat.succ nv) fun w => xe_set C a (.inl (t1, n1, nv)) fun C' => some [((w, V, (nv, a', b') :: AR, K, LD, OR, NE, TO, DF, g), k, C', pc, L, [], fr)]) none
      | _ => none
    | _ => none
  | _ => none
noncomputable def aMac (G : aG) (e : aE) (k : Nat) (C : aH) (pc : Nat) (L : aL) (S : List aV) (fr : List aR) : Option (List aS) := cond (Nat.beq k 82) (aDiv false e k C 4 L S fr) (cond (Nat.beq k 83) (aDiv true e k C 4 L S fr) (cond (Nat.beq k 104) (aDiv true e k C 161 L S fr) (aCpy G e k C 14 L S fr)))
/-- one instruction -/
noncomputable def aI (G : aG) (FIN : aE → aH → Option aF → Bool) (i : Instr) (e : aE) (k : Nat) (C : aH) (pc : Nat) (L : aL) (S : List aV) (fr : List aR) : Option (List aS) := match i with
  | .iconst v => aPush e k C (pc + 1) L S fr (v, [])
  | .bipush v => cond (cond (iLe (-128) v) (iLe v 127) false) (aPush e k C (pc + 2) L S fr (v, [])) none
  | .sipush v => cond (cond (iLe (-32768) v) (iLe v 32767) false) (aPush e k C (pc + 3) L S fr (v, [])) none
  | .ldc idx => match xe_as (xm_K (xMT k)) idx with
    | some v => aPush e k C (pc + 2) L S fr (v.toInt, [])
    | none => none
  | .ldc_w idx => match xe_as (xm_K (xMT k)) idx with
    | some v => aPush e k C (pc + 3) L S fr (v.toInt, [])
    | none => none
  | .iload_n j => match xe_as L j.val with
    | some (.inl f) => some [(e, k, C, pc + 1, L, .inl f :: S, fr)]
    | _ => none
  | .iload j => match xe_as L j with
    | some (.inl f) => some [(e, k, C, pc + 2, L, .inl f :: S, fr)]
    | _ => none
  | .aload_n j => match xe_as L j.val with
    | some (.inr f) => some [(e, k, C, pc + 1, L, .inr f :: S, fr)]
    | _ => none
  | .aload j => match xe_as L j with
    | some (.inr f) => some [(e, k, C, pc + 2, L, .inr f :: S, fr)]
    | _ => none
  | .istore_n j => match S with
    | .inl f :: T => cond (Nat.blt j.val (xm_n (xMT k))) (fL (aRm j.val L) fun L' => some [(e, k, C, pc + 1, (j.val, .inl f) :: L', T, fr)]) none
    | _ => none
  | .istore j => match S with
    | .inl f :: T => cond (Nat.blt j (xm_n (xMT k))) (fL (aRm j L) fun L' => some [(e, k, C, pc + 2, (j, .inl f) :: L', T, fr)]) none
    | _ => none
  | .iinc j n => match xe_as L j with
    | some (.inl f) => cond (Nat.blt j (xm_n (xMT k))) (fF (ladd f (n, [])) fun z => fL (aRm j L) fun L' => some [(e, k, C, pc + 3, (j, .inl z) :: L', S, fr)]) none
    | _ => none
  | .iadd => aAdd 0 e k C (pc + 1) L S fr
  | .isub => aAdd 1 e k C (pc + 1) L S fr
  | .imul => aAdd 2 e k C (pc + 1) L S fr
  | .iand => aAdd 3 e k C (pc + 1) L S fr
  | .ior => aAdd 4 e k C (pc + 1) L S fr
  | .ishl => aAdd 5 e k C (pc + 1) L S fr
  | .ixor => aAdd 6 e k C (pc + 1) L S fr
  | .ishr => aAdd 7 e k C (pc + 1) L S fr
  | .iushr => aAdd 8 e k C (pc + 1) L S fr
  | .dup => match S with
    | v :: T => some [(e, k, C, pc + 1, L, v :: v :: T, fr)]
    | _ => none
  | .dup2 => match S with
    | v :: w :: T => some [(e, k, C, pc + 1, L, v :: w :: v :: w :: T, fr)]
    | _ => none
  | .pop => match S with
    | _ :: T => some [(e, k, C, pc + 1, L, T, fr)]
    | _ => none
  | .goto off => xe_jmp pc off fun t => some [(e, k, C, t, L, S, fr)]
  | .ifCond .eq off => aBr1 e k C pc L S fr 0 1 off
  | .ifCond .ne off => aBr1 e k C pc L S fr 1 0 off
  | .ifCond .lt off => aBr1 e k C pc L S fr 2 3 off
  | .ifCond .ge off => aBr1 e k C pc L S fr 3 2 off
  | .ifCond .gt off => aBr1 e k C pc L S fr 4 5 off
  | .ifCond .le off => aBr1 e k C pc L S fr 5 4 off
  | .if_icmp .eq off => aBr2 e k C pc L S fr 0 1 off
  | .if_icmp .ne off => aBr2 e k C pc L S fr 1 0 off
  | .if_icmp .lt off => aBr2 e k C pc L S fr 2 3 off
  | .if_icmp .ge off => aBr2 e k C pc L S fr 3 2 off
  | .if_icmp .gt off => aBr2 e k C pc L S fr 4 5 off
  | .if_icmp .le off => aBr2 e k C pc L S fr 5 4 off
  | .tableswitch dflt lo hi offs => aSwt e k C pc L S fr dflt lo hi offs
  | .lookupswitch dflt ps => aSwl e k C pc L S fr dflt ps
  | .getfield idx => aGet idx e k C (pc + 3) L S fr
  | .putfield idx => aPut idx e k C (pc + 3) L S fr
  | .iaload => aAld 0 e k C (pc + 1) L S fr
  | .baload => aAld 1 e k C (pc + 1) L S fr
  | .iastore => aAst G 0 e k C (pc + 1) L S fr
  | .bastore => aAst G 1 e k C (pc + 1) L S fr
  | .arraylength => match S with
    | .inr p :: T => match xe_nth C p with
      | some (.inl (t, n, _)) => cond (cond (Nat.ble t 1) (Nat.ble n 2147483647) false) (some [(e, k, C, pc + 1, L, .inl (Int.ofNat n, []) :: T, fr)]) none
      | _ => none
    | _ => none
  | .invokevirtual idx => aInvoke G true idx e k C pc L S fr
  | .invokestatic idx => aInvoke G false idx e k C pc L S fr
  | .ireturn => aIrt FIN (xm_r (xMT k)) e C S fr
  | .return_ => aVrt FIN (xm_r (xMT k)) e C S fr
  | _ => none
noncomputable def aStep (G : aG) (FIN : aE → aH → Option aF → Bool) (s : aS) : Option (List aS) := match s with
  | (e, k, C, pc0, L, S, fr) => xe_fn pc0 fun pc => cond (xspot k pc) (aMac G e k C pc L S fr) (match xe_lk (xm_t (xMT k)) pc with
    | none => none
    | some (i, _) => aI G FIN i e k C pc L S fr)
/-- hints: .inl j: the INSTRUCTION at local j is told (from 100 on: a step of its own kind, from 200 on one behind which no loop that ran is known); .inr (.inl ()): one was put; .inr (.inr ts): a loop's head, its templates by the place in local 0 -/
abbrev aHn : Type := Nat ⊕ (Unit ⊕ List (Nat × aTp))
noncomputable def aGo (G : aG) (FIN : aE → aH → Option aF → Bool) (ih : List aAc → aS → Bool) (act : List aAc) (s : aS) : Bool := match aStep G FIN s with
  | none => false
  | some ss => lAll (ih act) ss
noncomputable def aFind (act : List aAc) (k pc : Nat) (fr : List aR) : Option (aS × aTp × Nat × List aF) := List.rec (motive := fun _ => Option (aS × aTp × Nat × List aF)) none (fun q _ ih => cond (Nat.beq q.1 k) (cond (Nat.beq q.2.1 pc) (cond (rEq q.2.2.1.2.2.2.2.2.2 fr) (some q.2.2) ih) ih) ih) act
/-- does a state fit the loop T again? -/
noncomputable def aBack (G : aG) (T : aS) (t : aTp) (n0 : Nat) (ents : List aF) (s : aS) : Bool := match s, T with
  | ((_, V, AR, K, _, _, _, TO, _, g), _, C, _, L, S, _), ((_, _, _, _, _, _, _, _, _, gT), _, CT, _, LT, ST, _) => match sforms V K C L g t.1 with
    | none => false
    | some fs => cond (sfree AR C L g t.2.1) (cond (sums V K t ents fs) (cond (tfit G.1 C TO t.2.2.2.2.2) (cond (hEq (repH (t.1 ++ t.2.1) n0 C 0) CT) (cond (vsEq S ST) (cond (lEq (repG (t.1 ++ t.2.1) n0 g) gT) (cond (lAll (fun (q : Nat × aV) => match xe_as L q.1 with
      | some v => match sIdx (t.1 ++ t.2.1) 0 q.1 0 n0 with
        | some i => match v with
          | .inl _ => vEq q.2 (.inl (0, [(i, 1)]))
          | .inr _ => false
        | none => vEq q.2 v
      | none => false) LT) (pr2 V K (lsub (lsub (lcb t.2.2.2.2.1.1 t.2.2.2.2.1.2 (nvars t.1 n0)) (lcb t.2.2.2.2.1.1 t.2.2.2.2.1.2 fs)) (1, []))) false) false) false) false) false) false) false
noncomputable def aTO (CP : List Nat) (C : aH) (TO : List (List Nat)) (b : Bool) : List (List Nat) := cond b (match cids C CP with
  | some cs => cs :: TO
  | none => TO) TO
noncomputable def aLoop (G : aG) (t : aTp) (s : aS) (k : aS → Nat → List aF → Bool) : Bool := match s with
  | ((nv, V, AR, K, LD, OR, NE, TO, DF, g), m, C, pc, L, S, fr) => match sforms V K C L g t.1 with
    | none => false
    | some fs => fFs (lmap (fun z => lcb 0 z fs) t.2.2.2.1) fun ents => cond (cond (sfree AR C L g t.2.1) (cond (sums V K t ents fs) (cond (tfit G.1 C TO t.2.2.2.2.2) (lcok t.2.2.2.2.1.2 fs) false) false) false) (fH (repH (t.1 ++ t.2.1) nv C 0) fun C' => fL (repL (t.1 ++ t.2.1) nv L) fun L' => fR (nmV (t.1 ++ t.2.1) nv V) fun V' => fR (nmA (t.1 ++ t.2.1) nv AR) fun AR' => fF (repG (t.1 ++ t.2.1) nv g) fun g' => xe_fn (nv + (t.1 ++ t.2.1).length) fun w => fFs (lmap (fun (z : Int × List (Nat × Int)) => lcb z.1 z.2 (nvars t.1 nv)) t.2.2.1) fun K1 => fFs (aK2 (nvars t.1 nv) t.2.2.2.1 ents) fun K2 => cond (pr2 V' (K2 ++ (K1 ++ K)) (lcb t.2.2.2.2.1.1 t.2.2.2.2.1.2 (nvars t.1 nv))) (k ((w, V', AR', K2 ++ (K1 ++ K), LD, OR, NE, aTO G.1 C' TO t.2.2.2.2.2, DF, g'), m, C', pc, L', S, fr) nv ents) false) false
noncomputable def lAllI {α : Type} (p : Nat → α → Bool) (l : List α) : Nat → Bool := List.rec (motive := fun _ => Nat → Bool) (fun _ => true) (fun q _ ih n => cond (p n q) (ih (Nat.succ n)) false) l
noncomputable def aSel (sel : Option Nat) (i : Nat) : Bool := match sel with
  | none => true
  | some j => Nat.beq i j
noncomputable def aHint (HN : List (List (Nat × aHn))) (k pc : Nat) : Option aHn := match xe_nth HN k with
  | some l => xe_as l pc
  | none => none
/-- sel: of the first split on a way, all kinds or one alone -/
noncomputable def ai_b (G : aG) (FIN : aE → aH → Option aF → Bool) (HN : List (List (Nat × aHn))) (MAC : Nat → aS → Option (List aS)) (ih : Option Nat → List aAc → aS → Bool) (sel : Option Nat) (act : List aAc) (s : aS) : Bool := match s with
  | (e, k, C, pc, L, S, fr) => match aHint HN k pc with
    | none => aGo G FIN (ih sel) act (e, k, C, pc, L, S, fr)
    | some (.inl j) => cond (Nat.ble 100 j) (match MAC j (e, k, C, pc, L, S, fr) with
      | some ss => lAll (ih sel (cond (Nat.ble 200 j) [] act)) ss
      | none => false) (match xe_as L j with
      | some (.inl f) => match cids C G.1 with
        | some cs => cond (cond (tol e.2.2.2.2.2.2.2.1 cs) (tat e.2.1 e.2.2.2.1 cs f) false) (match tkeys cs f with
          | ks => lAllI (fun i q => cond (aSel sel i) (tcase e ks q fun e1 => aGo G FIN (ih none) act (e1, k, C, pc, L, S, fr)) true) aTL 0) false
        | none => false
      | _ => false)
    | some (.inr (.inl _)) => match retold e G.1 C with
      | some e1 => aGo G FIN (ih sel) act (e1, k, C, pc, L, S, fr)
      | none => false
    | some (.inr (.inr ts)) => match aFind act k pc fr with
      | some (T, t, n0, ents) => aBack G T t n0 ents (e, k, C, pc, L, S, fr)
      | none => match (match xe_as L 0 with
          | some (.inr p) => xe_as ts p
          | _ => xe_as ts 0) with
        | some t => aLoop G t (e, k, C, pc, L, S, fr) fun T n0 ents => aGo G FIN (ih sel) ((k, pc, T, t, n0, ents) :: act) T
        | none => false
noncomputable def ai (G : aG) (FIN : aE → aH → Option aF → Bool) (HN : List (List (Nat × aHn))) (MAC : Nat → aS → Option (List aS)) (n : Nat) : Option Nat → List aAc → aS → Bool := Nat.rec (motive := fun _ => Option Nat → List aAc → aS → Bool) (fun _ _ _ => false) (fun _ ih => ai_b G FIN HN MAC ih) n
noncomputable def aFrm (sm : aSm) (C : aH) (l : List aSl) : Nat → Bool := List.rec (motive := fun _ => Nat → Bool) (fun _ => true) (fun q _ ih n => cond (aInM sm q) (ih (Nat.succ n)) (cond (cond (Nat.beq q.1 3) (match cid C q.2.1 with
  | some i => Nat.beq i n
  | none => false) (match sform C [] (0, []) q with
  | some f => lEq f (0, [(n, 1)])
  | none => false)) (ih (Nat.succ n)) false)) l
/-- the end of a method with a contract -/
noncomputable def aFin (G : aG) (sm : aSm) (e : aE) (C : aH) (r : Option aF) : Bool := cond (aInv G e C) (cond (aFrm sm C G.2.2.2.2.1 0) (match sm.2.1, r with
  | none, none => true
  | some (a, b), some f => cond (cond (iEq a aMN) (iEq b aMX) false) true (prB e.2.1 e.2.2.2.1 f a b)
  | _, _ => false) false) false
/-- names of arguments -/
noncomputable def aPs (rs : List (Int × Int)) : Nat → List aV := List.rec (motive := fun _ => Nat → List aV) (fun _ => []) (fun _ _ ih n => .inl (0, [(n, 1)]) :: ih (Nat.succ n)) rs
noncomputable def aPr (rs : List (Int × Int)) : Nat → List (Nat × Int × Int) → List (Nat × Int × Int) := List.rec (motive := fun _ => Nat → List (Nat × Int × Int) → List (Nat × Int × Int)) (fun _ V => V) (fun r _ ih n V => (n, r.1, r.2) :: ih (Nat.succ n) V) rs
/-- the run of a method at a place, from the invariant -/
noncomputable def aRun (HN : List (List (Nat × aHn))) (G : aG) (sel : Option Nat) (sm : aSm) (k p n : Nat) : Bool := match cids G.2.2.2.2.2 G.1 with
  | some T => fR (aPr sm.1 G.2.2.2.2.1.length (nmV G.2.2.2.2.1 0 [])) fun V1 => fR (nmA G.2.2.2.2.1 0 []) fun A1 => fH G.2.2.2.2.2 fun C1 => fL (aArgs (.inr p :: aPs sm.1 G.2.2.2.2.1.length) 0) fun L1 => xe_fn (G.2.2.2.2.1.length + sm.1.length) fun w => ai G (aFin G sm) HN (fun _ _ => none) n sel [] ((w, V1, A1, [], [], [], [], [T], [], (G.2.2.1, [])), k, C1, 0, L1, [], [])
  | none => false
