/-! THE ABSTRACT INTERPRETER: numbers are linear forms over named unknowns (sums whose terms are a name and a factor), rows have a name and a range; it runs the executor's methods over all cells of a shape at once. Its words first; part 08 shows that it is right. -/
abbrev aF : Type := Int × List (Nat × Int)
abbrev aV : Type := aF ⊕ Nat
abbrev aK : Type := (Nat × Nat × Nat) ⊕ (Nat × List aV)
abbrev aH : Type := List aK
abbrev aL : Type := List (Nat × aV)
abbrev aR : Type := Nat × Nat × aL × List aV
/-- what is known: the next name; ranges of numbers; ranges of rows; forms that are not below 0; loads (row, place, number); ors; forms that are not 0; rows that hold told INSTRUCTIONS; stores (row, of which row, place, number); the measure -/
abbrev aE : Type := Nat × List (Nat × Int × Int) × List (Nat × Int × Int) × List aF × List (Nat × aF × aF) × List (Nat × aF × aF) × List aF × List (List Nat) × List (Nat × Nat × aF × aF) × aF
abbrev aS : Type := aE × Nat × aH × Nat × aL × List aV × List aR
abbrev aMN : Int := -2147483648
abbrev aMX : Int := 2147483647
/-! forced values -/
noncomputable def fI {β : Type} (x : Int) (k : Int → β) : β := Int.rec (motive := fun _ => β) (fun n => xe_fn n fun m => k (.ofNat m)) (fun n => xe_fn n fun m => k (.negSucc m)) x
noncomputable def fT {β : Type} (l : List (Nat × Int)) : (List (Nat × Int) → β) → β := List.rec (motive := fun _ => (List (Nat × Int) → β) → β) (fun k => k []) (fun q _ ih k => xe_fn q.1 fun v => fI q.2 fun c => ih fun t => k ((v, c) :: t)) l
noncomputable def fF {β : Type} (f : aF) (k : aF → β) : β := fI f.1 fun c => fT f.2 fun t => k (c, t)
noncomputable def fE {β : Type} (e : aE) (k : aE → β) : β := match e with
  | (a, b, c, d, f, g, h, i, j, m) => k (a, b, c, d, f, g, h, i, j, m)
noncomputable def iEq (a b : Int) : Bool := Int.rec (motive := fun _ => Bool) (fun m => Int.rec (motive := fun _ => Bool) (fun n => Nat.beq m n) (fun _ => false) b) (fun m => Int.rec (motive := fun _ => Bool) (fun _ => false) (fun n => Nat.beq m n) b) a
noncomputable def iLe (a b : Int) : Bool := Int.rec (motive := fun _ => Bool) (fun m => Int.rec (motive := fun _ => Bool) (fun n => Nat.ble m n) (fun _ => false) b) (fun m => Int.rec (motive := fun _ => Bool) (fun _ => true) (fun n => Nat.ble n m) b) a
noncomputable def lAny {α : Type} (p : α → Bool) (l : List α) : Bool := List.rec (motive := fun _ => Bool) false (fun q _ ih => cond (p q) true ih) l
noncomputable def lAll {α : Type} (p : α → Bool) (l : List α) : Bool := List.rec (motive := fun _ => Bool) true (fun q _ ih => cond (p q) ih false) l
/-! linear forms -/
noncomputable def lins (v : Nat) (c : Int) (l : List (Nat × Int)) : List (Nat × Int) := List.rec (motive := fun _ => List (Nat × Int)) [(v, c)] (fun q t ih => cond (Nat.beq q.1 v) (fI (Int.add q.2 c) fun z => cond (iEq z 0) t ((v, z) :: t)) (cond (Nat.blt v q.1) ((v, c) :: q :: t) (q :: ih))) l
noncomputable def laT (l m : List (Nat × Int)) : List (Nat × Int) := List.rec (motive := fun _ => List (Nat × Int)) l (fun q _ ih => lins q.1 q.2 ih) m
noncomputable def lmT (k : Int) (m : List (Nat × Int)) : List (Nat × Int) := List.rec (motive := fun _ => List (Nat × Int)) [] (fun q _ ih => (q.1, Int.mul k q.2) :: ih) m
noncomputable def ladd (f g : aF) : aF := (Int.add f.1 g.1, laT f.2 g.2)
noncomputable def lmul (k : Int) (f : aF) : aF := cond (iEq k 0) (0, []) (Int.mul k f.1, lmT k f.2)
noncomputable def lsub (f g : aF) : aF := ladd f (lmul (-1) g)
abbrev lcst (c : Int) : aF := (c, [])
abbrev lvar (v : Nat) : aF := (0, [(v, 1)])
noncomputable def lEqT (l : List (Nat × Int)) : List (Nat × Int) → Bool := List.rec (motive := fun _ => List (Nat × Int) → Bool) (fun m => match m with | [] => true | _ => false) (fun q _ ih m => match m with | [] => false | r :: t => cond (Nat.beq q.1 r.1) (cond (iEq q.2 r.2) (ih t) false) false) l
noncomputable def lEq (f g : aF) : Bool := cond (iEq f.1 g.1) (lEqT f.2 g.2) false
/-! ranges -/
noncomputable def vrg (V : List (Nat × Int × Int)) (v : Nat) : Int × Int := match xe_as V v with
  | some q => q
  | none => (aMN, aMX)
noncomputable def bT (V : List (Nat × Int × Int)) (up : Bool) (l : List (Nat × Int)) : Int := List.rec (motive := fun _ => Int) 0 (fun q _ ih => Int.add (Int.rec (motive := fun _ => Int) (fun _ => match vrg V q.1 with | (a, b) => Int.mul q.2 (cond up b a)) (fun _ => match vrg V q.1 with | (a, b) => Int.mul q.2 (cond up a b)) q.2) ih) l
noncomputable def blo (V : List (Nat × Int × Int)) (f : aF) : Int := Int.add f.1 (bT V false f.2)
noncomputable def bhi (V : List (Nat × Int × Int)) (f : aF) : Int := Int.add f.1 (bT V true f.2)
noncomputable def pr0 (V : List (Nat × Int × Int)) (f : aF) : Bool := iLe 0 (blo V f)
noncomputable def pr1 (V : List (Nat × Int × Int)) (K : List aF) (f : aF) : Bool := cond (pr0 V f) true (lAny (fun g => pr0 V (lsub f g)) K)
noncomputable def pr2 (V : List (Nat × Int × Int)) (K : List aF) (f : aF) : Bool := cond (pr1 V K f) true (lAny (fun g => fF (lsub f g) fun z => lAny (fun h => pr0 V (lsub z h)) K) K)
noncomputable def inr (V : List (Nat × Int × Int)) (f : aF) : Bool := cond (iLe aMN (blo V f)) (iLe (bhi V f) aMX) false
/-- between two numbers -/
noncomputable def prB (V : List (Nat × Int × Int)) (K : List aF) (f : aF) (lo hi : Int) : Bool := cond (pr2 V K (lsub f (lcst lo))) (pr2 V K (lsub (lcst hi) f)) false
noncomputable def lsing (f : aF) : Bool := match f.2 with
  | [(_, c)] => cond (iEq c 1) true (iEq c (-1))
  | _ => false
noncomputable def rfv {β : Type} (V0 : List (Nat × Int × Int)) (h : Int) (l : List (Nat × Int)) : List (Nat × Int × Int) → (List (Nat × Int × Int) → β) → β := List.rec (motive := fun _ => List (Nat × Int × Int) → (List (Nat × Int × Int) → β) → β) (fun V k => k V) (fun q _ ih V k => match vrg V0 q.1 with
  | (a, b) => cond (iEq q.2 1) (fI (Int.sub b h) fun a' => cond (iLe a' a) (ih V k) (ih ((q.1, a', b) :: V) k)) (cond (iEq q.2 (-1)) (fI (Int.add h a) fun b' => cond (iLe b b') (ih V k) (ih ((q.1, a, b') :: V) k)) (ih V k))) l
/-- the form is not below 0: what is known then; none: that can't be -/
noncomputable def refn (e : aE) (f : aF) : Option aE := match e with
  | (nv, V, AR, K, LD, OR, NE, TO, DF, g) => cond (pr0 V f) (some (nv, V, AR, K, LD, OR, NE, TO, DF, g)) (fI (bhi V f) fun h => cond (iLe 0 h) (rfv V h f.2 V fun V' => fF f fun f' => some (nv, V', AR, cond (lsing f') K (f' :: K), LD, OR, NE, TO, DF, g)) none)
/-- compare x and y: 0 eq, 1 ne, 2 lt, 3 ge, 4 gt, 5 le; none: not known to be in range; some none: that can't be -/
noncomputable def cnd (e : aE) (c : Nat) (x y : aF) : Option (Option aE) := match e with
  | (nv, V, AR, K, LD, OR, NE, TO, DF, g) => cond (cond (inr V x) (inr V y) false) (fF (lsub x y) fun d => some (match c with
    | 0 => match refn (nv, V, AR, K, LD, OR, NE, TO, DF, g) d with
      | some e' => refn e' (lmul (-1) d)
      | none => none
    | 1 => cond (lEq d (0, [])) none (cond (pr1 V K d) (refn (nv, V, AR, K, LD, OR, NE, TO, DF, g) (ladd d (-1, []))) (cond (pr1 V K (lmul (-1) d)) (refn (nv, V, AR, K, LD, OR, NE, TO, DF, g) (lsub (-1, []) d)) (some (nv, V, AR, K, LD, OR, d :: NE, TO, DF, g))))
    | 2 => refn (nv, V, AR, K, LD, OR, NE, TO, DF, g) (lsub (-1, []) d)
    | 3 => refn (nv, V, AR, K, LD, OR, NE, TO, DF, g) d
    | 4 => refn (nv, V, AR, K, LD, OR, NE, TO, DF, g) (ladd d (-1, []))
    | _ => refn (nv, V, AR, K, LD, OR, NE, TO, DF, g) (lmul (-1) d))) none
/-- a new name of a number in a range -/
noncomputable def nw {β : Type} (e : aE) (lo hi : Int) (k : aE → aF → β) : β := match e with
  | (nv, V, AR, K, LD, OR, NE, TO, DF, g) => xe_fn nv fun v => fI lo fun lo => fI hi fun hi => xe_fn (Nat.succ v) fun w => k (w, (v, lo, hi) :: V, AR, K, LD, OR, NE, TO, DF, g) (0, [(v, 1)])
/-- a new name of a row whose elements lie in a range -/
noncomputable def nwA {β : Type} (e : aE) (lo hi : Int) (k : aE → Nat → β) : β := match e with
  | (nv, V, AR, K, LD, OR, NE, TO, DF, g) => xe_fn nv fun v => fI lo fun lo => fI hi fun hi => xe_fn (Nat.succ v) fun w => k (w, V, (v, lo, hi) :: AR, K, LD, OR, NE, TO, DF, g) v
/-! told INSTRUCTIONS -/
/-- an op, the ranges of a, b, c, d, and sums that are not below 0 -/
abbrev aTo : Type := Int × List (Int × Int) × List (Int × List Int)
def aTL : List aTo := [(0, [(0, 15), (0, 255), (0, 0), (0, 0)], []), (1, [(0, 15), (0, 15), (1, 8), (0, 0)], [(16, [-1, 0, -1, 0]), (16, [0, -1, -1, 0])]), (2, [(0, 15), (0, 15), (0, 0), (0, 0)], []), (3, [(0, 15), (0, 0), (0, 0), (0, 0)], []), (4, [(0, 15), (0, 0), (0, 0), (0, 0)], []), (5, [(0, 15), (-30, 30), (0, 0), (0, 0)], []), (6, [(0, 15), (1, 8), (0, 15), (0, 15)], [(16, [-1, -1, 0, 0])]), (7, [(0, 15), (0, 15), (1, 8), (0, 15)], [(16, [0, -1, -1, 0])]), (8, [(0, 5), (0, 0), (0, 0), (0, 0)], []), (9, [(0, 0), (0, 0), (0, 0), (0, 0)], []), (10, [(0, 15), (1, 8), (0, 0), (0, 0)], [(16, [-1, -1, 0, 0])]), (11, [(0, 15), (1, 8), (0, 0), (0, 0)], [(16, [-1, -1, 0, 0])])]
noncomputable def ldf (L : List (Nat × aF × aF)) (r : Nat) (i : aF) : Option aF := List.rec (motive := fun _ => Option aF) none (fun q _ ih => cond (Nat.beq q.1 r) (cond (lEq q.2.1 i) (some q.2.2) ih) ih) L
noncomputable def cid (C : aH) (p : Nat) : Option Nat := match xe_nth C p with
  | some (.inl (_, _, i)) => some i
  | _ => none
noncomputable def cids (C : aH) (ps : List Nat) : Option (List Nat) := List.rec (motive := fun _ => Option (List Nat)) (some []) (fun p _ ih => match cid C p with
  | some i => match ih with
    | some t => some (i :: t)
    | none => none
  | none => none) ps
/-- the keys of the five numbers of the INSTRUCTION at a place -/
noncomputable def tkeys (cs : List Nat) (f : aF) : List (Nat × aF) := match cs with
  | [c] => [(c, f), (c, ladd f (1, [])), (c, ladd f (2, [])), (c, ladd f (3, [])), (c, ladd f (4, []))]
  | l => l.map fun c => (c, f)
noncomputable def ldiv5 (f : aF) : aF := (Int.ediv f.1 5, List.rec (motive := fun _ => List (Nat × Int)) [] (fun q _ ih => (q.1, Int.ediv q.2 5) :: ih) f.2)
/-- is f the place of an INSTRUCTION (of 180)? -/
noncomputable def tat (V : List (Nat × Int × Int)) (K : List aF) (cs : List Nat) (f : aF) : Bool := match cs with
  | [_] => fF (ldiv5 f) fun g => cond (lEq f (lmul 5 g)) (prB V K g 0 179) false
  | _ => prB V K f 0 179
/-- names for numbers in ranges: constants where a range has one number -/
noncomputable def nws {β : Type} (rs : List (Int × Int)) : aE → (aE → List aF → β) → β := List.rec (motive := fun _ => aE → (aE → List aF → β) → β) (fun e k => k e []) (fun r _ ih e k => cond (iEq r.1 r.2) (ih e fun e' fs => k e' ((r.1, []) :: fs)) (nw e r.1 r.2 fun e1 f => ih e1 fun e' fs => k e' (f :: fs))) rs
noncomputable def ldot (c : Int) (ks : List Int) : List aF → aF := List.rec (motive := fun _ => List aF → aF) (fun _ => (c, [])) (fun k _ ih fs => match fs with
  | f :: t => ladd (lmul k f) (ih t)
  | [] => (c, [])) ks
noncomputable def tcK {β : Type} (fs : List aF) (l : List (Int × List Int)) : List aF → (List aF → β) → β := List.rec (motive := fun _ => List aF → (List aF → β) → β) (fun K k => k K) (fun z _ ih K k => fF (ldot z.1 z.2 fs) fun f => ih (f :: K) k) l
noncomputable def tcL {β : Type} (ks : List (Nat × aF)) : List aF → List (Nat × aF × aF) → (List (Nat × aF × aF) → β) → β := List.rec (motive := fun _ => List aF → List (Nat × aF × aF) → (List (Nat × aF × aF) → β) → β) (fun _ LD k => k LD) (fun y _ ih gs LD k => match gs with
  | z :: t => fF y.2 fun y2 => ih t ((y.1, y2, z) :: LD) k
  | [] => k LD) ks
/-- what is known where the INSTRUCTION at the keys is one of the kind q -/
noncomputable def tcase {β : Type} (e : aE) (ks : List (Nat × aF)) (q : aTo) (k : aE → β) : β := nws q.2.1 e fun e1 fs => match e1 with
  | (nv, V, AR, K, LD, OR, NE, TO, DF, g) => tcK fs q.2.2 K fun K' => tcL ks ((q.1, []) :: fs) LD fun LD' => k (nv, V, AR, K', LD', OR, NE, TO, DF, g)
noncomputable def tokR (V : List (Nat × Int × Int)) (K : List aF) (rs : List (Int × Int)) : List aF → Bool := List.rec (motive := fun _ => List aF → Bool) (fun hs => match hs with | [] => true | _ => false) (fun r _ ih hs => match hs with
  | h :: t => cond (prB V K h r.1 r.2) (ih t) false
  | [] => false) rs
/-- is the INSTRUCTION with these numbers told? -/
noncomputable def tok (V : List (Nat × Int × Int)) (K : List aF) (fs : List aF) : Bool := match fs with
  | f :: gs => lAny (fun (q : aTo) => cond (prB V K f q.1 q.1) (cond (tokR V K q.2.1 gs) (lAll (fun (z : Int × List Int) => pr2 V K (ldot z.1 z.2 gs)) q.2.2) false) false) aTL
  | [] => false
noncomputable def dff (D : List (Nat × Nat × aF × aF)) (r : Nat) : Option (Nat × aF × aF) := xe_as D r
noncomputable def nlEq (l : List Nat) : List Nat → Bool := List.rec (motive := fun _ => List Nat → Bool) (fun m => match m with | [] => true | _ => false) (fun q _ ih m => match m with | [] => false | r :: t => cond (Nat.beq q r) (ih t) false) l
noncomputable def tol (TO : List (List Nat)) (cs : List Nat) : Bool := lAny (fun l => nlEq l cs) TO
/-- the rows into which an INSTRUCTION was just put hold told ones again -/
noncomputable def retold (e : aE) (CP : List Nat) (C : aH) : Option aE := match e with
  | (nv, V, AR, K, LD, OR, NE, TO, DF, g) => match cids C CP with
    | some [n5] => match dff DF n5 with
      | some (n4, i4, v4) => match dff DF n4 with
        | some (n3, i3, v3) => match dff DF n3 with
          | some (n2, i2, v2) => match dff DF n2 with
            | some (n1, i1, v1) => match dff DF n1 with
              | some (n0, i0, v0) => cond (tol TO [n0]) (cond (tat V K [n0] i0) (cond (cond (lEq i1 (ladd i0 (1, []))) (cond (lEq i2 (ladd i0 (2, []))) (cond (lEq i3 (ladd i0 (3, []))) (lEq i4 (ladd i0 (4, []))) false) false) false) (cond (tok V K [v0, v1, v2, v3, v4]) (some (nv, V, AR, K, LD, OR, NE, [n5] :: TO, DF, g)) none) none) none) none
              | none => none
            | none => none
          | none => none
        | none => none
      | none => none
    | some [n0, n1, n2, n3, n4] => match dff DF n0, dff DF n1, dff DF n2, dff DF n3, dff DF n4 with
      | some (o0, i0, v0), some (o1, i1, v1), some (o2, i2, v2), some (o3, i3, v3), some (o4, i4, v4) => cond (tol TO [o0, o1, o2, o3, o4]) (cond (cond (lEq i1 i0) (cond (lEq i2 i0) (cond (lEq i3 i0) (lEq i4 i0) false) false) false) (cond (tok V K [v0, v1, v2, v3, v4]) (some (nv, V, AR, K, LD, OR, NE, [n0, n1, n2, n3, n4] :: TO, DF, g)) none) none) none
      | _, _, _, _, _ => none
    | _ => none
