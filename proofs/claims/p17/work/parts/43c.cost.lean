/-! cost() exact on both sides -/
noncomputable def aXco (p id a v : Nat) (e : aE) (C : aH) (r : Option aF) : Bool := match cid C p, r with
  | some w, some q => cond (Nat.beq w id) (cond (lEq q (-1, [])) (cond (pr0 e.2.1 (lsub (-1, []) (0, [(a, 1)]))) true (cond (pr0 e.2.1 (lsub (0, [(a, 1)]) (6, []))) true (cond (pr0 e.2.1 (lsub (0, []) (0, [(v, 1)]))) true (pr0 e.2.1 (lsub (0, [(v, 1)]) (100, [])))))) false) (cond (lAny (fun (z : Nat × Nat × aF × aF) => cond (Nat.beq z.1 w) (cond (Nat.beq z.2.1 id) (cond (lEq z.2.2.1 (0, [(a, 1)])) (lEq z.2.2.2 (0, [(v, 1)])) false) false) false) e.2.2.2.2.2.2.2.2.1) (cond (lAny (fun (z : Nat × aF × aF) => cond (Nat.beq z.1 id) (cond (lEq z.2.1 (0, [(a, 1)])) (lEq z.2.2 q) false) false) e.2.2.2.2.1) (cond (pr0 e.2.1 (0, [(a, 1)])) (cond (pr0 e.2.1 (lsub (5, []) (0, [(a, 1)]))) (cond (pr0 e.2.1 (lsub (0, [(v, 1)]) (1, []))) (pr0 e.2.1 (lsub (99, []) (0, [(v, 1)]))) false) false) false) false) false)
  | _, _ => false
/-- what cost(x, y) answers where the row is f, and the new row g -/
def cosP (f : Nat → Int) (x y : Int32) (r : Option Value) (g : Nat → Int) : Prop := (¬ (0 ≤ x.toInt ∧ x.toInt ≤ 5 ∧ 1 ≤ y.toInt ∧ y.toInt ≤ 99) ∧ r = some (.int (-1)) ∧ g = f) ∨ ((0 ≤ x.toInt ∧ x.toInt ≤ 5 ∧ 1 ≤ y.toInt ∧ y.toInt ≤ 99) ∧ r = some (.int (Int32.ofInt (f x.toInt.toNat))) ∧ g = fun j => if j = x.toInt.toNat then y.toInt else f j)
theorem cos_same {f : Nat → Int} {x y : Int32} {r r' : Option Value} {g g' : Nat → Int} (h : cosP f x y r g) (h' : cosP f x y r' g') : r = r' ∧ g = g' := by
  rcases h with ⟨a, b, c⟩ | ⟨a, b, c⟩ <;> rcases h' with ⟨a', b', c'⟩ | ⟨a', b', c'⟩
  · exact ⟨b.trans b'.symm, c.trans c'.symm⟩
  · exact absurd a' a
  · exact absurd a a'
  · exact ⟨b.trans b'.symm, c.trans c'.symm⟩
theorem cos_con {HN : List (List (Nat × aHn))} {G : aG} {sm : aSm} {k n p id : Nat} {lo hi : Int} (hG : aGok G) (hSM : SumOK G) (hr : ∀ q ∈ sm.2.1, aMN ≤ q.1 ∧ q.2 ≤ aMX) (hid : G.2.2.2.2.1[id]? = some (3, p, 0, lo, hi)) (h : aRunX HN G (aFinX G sm (aXco p id G.2.2.2.2.1.length (G.2.2.2.2.1.length + 1))) [(aMN, aMX), (aMN, aMX)] k 0 n = true) {σ : aσ} {x y : Int32} (hI : InvV G σ) : RP k (cH σ G.2.2.2.2.2) 0 (lv_args 0 [.ref 0, .int x, .int y]) [] (fun r C' => ∃ τ, InvV G τ ∧ C' = cH τ G.2.2.2.2.2 ∧ frmP sm σ τ G.2.2.2.2.1 ∧ retP sm.2.1 r ∧ cosP (σ id) x y r (τ id)) := by
  have hidl := (List.getElem?_eq_some_iff.mp hid).1
  refine con_gen (xs := [x, y]) hG hSM h hI ⟨oi_le x, oi_le y, trivial⟩ (fun e C r τ hf t1 t2 t3 t4 t5 t6 => ?_)
  obtain ⟨f1, f2⟩ := cond_tf hf
  have hagN : aAg G.2.2.2.2.1.length σ τ := fun i hi => by
    rw [← t6 i (by omega)]
    unfold sσ
    rw [if_pos hi]
  have hx0 : τ G.2.2.2.2.1.length 0 = x.toInt := by
    rw [← t6 G.2.2.2.2.1.length (by show G.2.2.2.2.1.length < G.2.2.2.2.1.length + 2; omega)]
    unfold sσ
    rw [if_neg (by omega), Nat.sub_self]
    rfl
  have hy0 : τ (G.2.2.2.2.1.length + 1) 0 = y.toInt := by
    rw [← t6 (G.2.2.2.2.1.length + 1) (by show G.2.2.2.2.1.length + 1 < G.2.2.2.2.1.length + 2; omega)]
    unfold sσ
    rw [if_neg (by omega), show G.2.2.2.2.1.length + 1 - G.2.2.2.2.1.length = 1 by omega]
    rfl
  obtain ⟨c1, c2, c3, c4⟩ := fin_c hG hr f1 t1 hagN
  refine ⟨_, c1, c2, c3, c4, ?_⟩
  have hτid : τ id = σ id := by rw [hagN id hidl]
  have hat := aTau_at (σ := τ) (n0 := 0) (C := C) (L := []) (g := (0, [])) hid
  rw [Nat.zero_add] at hat
  have hB : aBD τ := t1.1
  have hV : aRG τ e.2.1 := t1.2.1
  unfold aXco at f2
  cases hs : cid C p with
  | none => rw [hs] at f2; cases f2
  | some w =>
    have hval : aTau τ G.2.2.2.2.1 0 C [] (0, []) id = τ w := by
      rw [hat]
      unfold sval
      rw [if_pos (show (3 : Nat) = 3 from rfl)]
      show (match cid C p with
        | some r => τ r
        | none => fun _ => 0) = τ w
      rw [hs]
    rw [hval]
    rw [hs] at f2
    cases r with
    | none => cases f2
    | some q =>
      dsimp only at f2
      cases hc : Nat.beq w id with
      | true =>
        rw [hc] at f2
        simp only [cond_true] at f2
        obtain ⟨g1, g2⟩ := cond_tf f2
        have ew : w = id := Nat.eq_of_beq_eq_true hc
        refine Or.inl ⟨?_, ?_, by rw [ew, hτid]⟩
        · rcases cond_tt g2 with g2 | g2
          · have h0 := pr0_c hB hV g2
            rw [lsub_c, lcst_c, lvar_c, hx0] at h0
            omega
          · rcases cond_tt g2 with g2 | g2
            · have h0 := pr0_c hB hV g2
              rw [lsub_c, lcst_c, lvar_c, hx0] at h0
              omega
            · rcases cond_tt g2 with g2 | g2
              · have h0 := pr0_c hB hV g2
                rw [lsub_c, lcst_c, lvar_c, hy0] at h0
                omega
              · have h0 := pr0_c hB hV g2
                rw [lsub_c, lcst_c, lvar_c, hy0] at h0
                omega
        · rw [lEq_eq g1]
          show some (Value.int (Int32.ofInt (cF τ (-1, [])))) = _
          rw [lcst_c]
          rfl
      | false =>
        rw [hc] at f2
        simp only [cond_false] at f2
        obtain ⟨d1, f3⟩ := cond_tf f2
        obtain ⟨d2, f4⟩ := cond_tf f3
        obtain ⟨g3, f5⟩ := cond_tf f4
        obtain ⟨g4, f6⟩ := cond_tf f5
        obtain ⟨g5, g6⟩ := cond_tf f6
        obtain ⟨z, hz, e0⟩ := lAny_true d1
        obtain ⟨e1, e5⟩ := cond_tf e0
        obtain ⟨e2, e6⟩ := cond_tf e5
        obtain ⟨e3, e4⟩ := cond_tf e6
        obtain ⟨u, hu, b0⟩ := lAny_true d2
        obtain ⟨b1, b4⟩ := cond_tf b0
        obtain ⟨b2, b3⟩ := cond_tf b4
        have hDF := t1.2.2.2.2.2.2.2.2 z hz
        have hLD := t1.2.2.2.2.1 u hu
        rw [Nat.eq_of_beq_eq_true e1, Nat.eq_of_beq_eq_true e2, lEq_eq e3, lEq_eq e4, lvar_c, lvar_c, hx0, hy0, hτid] at hDF
        rw [Nat.eq_of_beq_eq_true b1, lEq_eq b2, lEq_eq b3, lvar_c, hx0, hτid] at hLD
        have h3 := pr0_c hB hV g3
        have h4 := pr0_c hB hV g4
        have h5 := pr0_c hB hV g5
        have h6 := pr0_c hB hV g6
        rw [lvar_c, hx0] at h3
        rw [lsub_c, lcst_c, lvar_c, hx0] at h4
        rw [lsub_c, lcst_c, lvar_c, hy0] at h5
        rw [lsub_c, lcst_c, lvar_c, hy0] at h6
        refine Or.inr ⟨⟨h3, by omega, by omega, by omega⟩, ?_, ?_⟩
        · show some (Value.int (Int32.ofInt (cF τ q))) = _
          rw [← hLD]
        · funext j
          exact hDF.2 j
theorem axc_x : aRunX aHN aGX_6 (aFinX aGX_6 sm_68_0 (aXco 8 10 aGX_6.2.2.2.2.1.length (aGX_6.2.2.2.2.1.length + 1))) [(aMN, aMX), (aMN, aMX)] 68 0 20000 = true := by decide +kernel
theorem axc_m : aRunX aHN aGM_4 (aFinX aGM_4 sm_130_0 (aXco 3 28 aGM_4.2.2.2.2.1.length (aGM_4.2.2.2.2.1.length + 1))) [(aMN, aMX), (aMN, aMX)] 130 0 20000 = true := by decide +kernel
theorem cos_x {σ : aσ} {x y : Int32} (hI : InvV aGX_6 σ) : RP 68 (cH σ aHX) 0 (lv_args 0 [.ref 0, .int x, .int y]) [] (fun r C' => ∃ τ, InvV aGX_6 τ ∧ C' = cH τ aHX ∧ frmP sm_68_0 σ τ aISX ∧ retP sm_68_0.2.1 r ∧ cosP (σ 10) x y r (τ 10)) := cos_con gX_6 soX_6 (smOK_of (by decide +kernel)).2 (p := 8) (id := 10) (lo := (-2147483648)) (hi := 2147483647) (by decide +kernel) axc_x hI
theorem cos_m {σ : aσ} {x y : Int32} (hI : InvV aGM_4 σ) : RP 130 (cH σ aHM) 0 (lv_args 0 [.ref 0, .int x, .int y]) [] (fun r C' => ∃ τ, InvV aGM_4 τ ∧ C' = cH τ aHM ∧ frmP sm_130_0 σ τ aISM ∧ retP sm_130_0.2.1 r ∧ cosP (σ 28) x y r (τ 28)) := cos_con gM_4 soM_4 (smOK_of (by decide +kernel)).2 (p := 3) (id := 28) (lo := (-2147483648)) (hi := 2147483647) (by decide +kernel) axc_m hI
