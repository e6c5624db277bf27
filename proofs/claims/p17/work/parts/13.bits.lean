/-! NUMBERS: what the machine's operations do to ranges -/
theorem nb_nat {x : Int32} (h : 0 ≤ x.toInt) : x.toInt = (x.toBitVec.toNat : Int) ∧ x.toBitVec.toNat < 2147483648 := by
  have e : x.toInt = x.toBitVec.toInt := rfl
  have h2 := BitVec.toInt_eq_toNat_cond x.toBitVec
  rw [e] at h ⊢
  have h3 := x.toBitVec.isLt
  rw [h2] at h ⊢
  split at h
  · rename_i h4
    rw [if_pos h4]
    exact ⟨rfl, by omega⟩
  · omega
theorem nb_ofNat {x : Int32} (h : x.toBitVec.toNat < 2147483648) : x.toInt = (x.toBitVec.toNat : Int) := by
  show x.toBitVec.toInt = _
  rw [BitVec.toInt_eq_toNat_cond, if_pos (by omega)]
theorem nb_and {x y : Int32} (h : 0 ≤ y.toInt) : 0 ≤ (x &&& y).toInt ∧ (x &&& y).toInt ≤ y.toInt := by
  obtain ⟨h1, h2⟩ := nb_nat h
  have e : (x &&& y).toBitVec.toNat ≤ y.toBitVec.toNat := by
    rw [Int32.toBitVec_and, BitVec.toNat_and]
    exact Nat.and_le_right
  have e2 := nb_ofNat (x := x &&& y) (by omega)
  omega
theorem nb_and2 {x y : Int32} (h : 0 ≤ x.toInt) : 0 ≤ (x &&& y).toInt ∧ (x &&& y).toInt ≤ x.toInt := by
  obtain ⟨h1, h2⟩ := nb_nat h
  have e : (x &&& y).toBitVec.toNat ≤ x.toBitVec.toNat := by
    rw [Int32.toBitVec_and, BitVec.toNat_and]
    exact Nat.and_le_left
  have e2 := nb_ofNat (x := x &&& y) (by omega)
  omega
theorem nb_shl : ∀ n : Nat, n < 31 → ((1 : Int32) <<< (Int32.ofInt (n : Int) &&& 31)).toInt = ((2 ^ n : Nat) : Int) := by decide
theorem nb_shl2 {y : Int} (h1 : 0 ≤ y) (h2 : y ≤ 30) : ((1 : Int32) <<< (Int32.ofInt y &&& 31)).toInt = ((2 ^ y.toNat : Nat) : Int) := by
  have := nb_shl y.toNat (by omega)
  rwa [show ((y.toNat : Nat) : Int) = y by omega] at this
theorem nb_div {x c : Int} (hx : 0 ≤ x) (hx2 : x ≤ aMX) (hc : 1 ≤ c) (hc2 : c ≤ aMX) : (Int32.ofInt x / Int32.ofInt c).toInt = x / c := by
  have e1 := oi_toInt (x := x) (by show -2147483648 ≤ x; omega) hx2
  have e2 := oi_toInt (x := c) (by show -2147483648 ≤ c; omega) hc2
  rw [Int32.toInt_div_of_ne_right _ _ (by
    intro h
    rw [h] at e2
    have : (-1 : Int32).toInt = -1 := by decide
    omega), e1, e2]
  exact Int.tdiv_eq_ediv_of_nonneg hx
theorem nb_rem {x c : Int} (hx : 0 ≤ x) (hx2 : x ≤ aMX) (hc : 1 ≤ c) (hc2 : c ≤ aMX) : (Int32.ofInt x - Int32.ofInt x / Int32.ofInt c * Int32.ofInt c).toInt = x % c := by
  have e0 := nb_div hx hx2 hc hc2
  have e : Int32.ofInt x / Int32.ofInt c = Int32.ofInt (x / c) := by rw [← e0, oi_of]
  rw [e, ← Int32.ofInt_mul, ← Int32.ofInt_sub]
  have h1 : x - x / c * c = x % c := by
    have := Int.mul_ediv_add_emod x c
    rw [Int.mul_comm] at this
    omega
  rw [h1]
  have h2 := Int.emod_nonneg x (show c ≠ 0 by omega)
  have h3 := Int.emod_lt_of_pos x (show 0 < c by omega)
  have hc2 : c ≤ 2147483647 := hc2
  exact oi_toInt (by show -2147483648 ≤ x % c; omega) (by show x % c ≤ 2147483647; omega)
theorem nb_lt {x y : Int} (hx : aMN ≤ x ∧ x ≤ aMX) (hy : aMN ≤ y ∧ y ≤ aMX) : Int32.ofInt x < Int32.ofInt y ↔ x < y := by
  rw [Int32.lt_iff_toInt_lt, oi_toInt hx.1 hx.2, oi_toInt hy.1 hy.2]
theorem nb_le {x y : Int} (hx : aMN ≤ x ∧ x ≤ aMX) (hy : aMN ≤ y ∧ y ≤ aMX) : Int32.ofInt x ≤ Int32.ofInt y ↔ x ≤ y := by
  rw [Int32.le_iff_toInt_le, oi_toInt hx.1 hx.2, oi_toInt hy.1 hy.2]
theorem nb_eq {x y : Int} (hx : aMN ≤ x ∧ x ≤ aMX) (hy : aMN ≤ y ∧ y ≤ aMX) : Int32.ofInt x = Int32.ofInt y ↔ x = y := ⟨oi_inj hx hy, fun h => by rw [h]⟩
theorem nb_clamp {x : Int} (h1 : 0 ≤ x) (h2 : x ≤ aMX) : (Int32.ofInt x).toNatClampNeg = x.toNat := by
  show (Int32.ofInt x).toInt.toNat = x.toNat
  rw [oi_toInt (by show -2147483648 ≤ x; omega) h2]
theorem nb_not_neg {x : Int} (h1 : 0 ≤ x) (h2 : x ≤ aMX) : ¬ Int32.ofInt x < 0 := by
  have h0 : (0 : Int32) = Int32.ofInt 0 := rfl
  rw [h0, nb_lt ⟨by show -2147483648 ≤ x; omega, h2⟩ ⟨by decide, by decide⟩]
  omega
theorem nb_bipush (v : Int) (h1 : -128 ≤ v) (h2 : v ≤ 127) : (Int8.ofInt v).toInt32 = Int32.ofInt v := by
  apply Int32.toInt_inj.mp
  rw [Int8.toInt_toInt32, oi_toInt (by show -2147483648 ≤ v; omega) (by show v ≤ 2147483647; omega)]
  exact Int8.toInt_ofInt_of_le h1 (by omega)
theorem nb_sipush (v : Int) (h1 : -32768 ≤ v) (h2 : v ≤ 32767) : (Int16.ofInt v).toInt32 = Int32.ofInt v := by
  apply Int32.toInt_inj.mp
  rw [Int16.toInt_toInt32, oi_toInt (by show -2147483648 ≤ v; omega) (by show v ≤ 2147483647; omega)]
  exact Int16.toInt_ofInt_of_le h1 (by omega)
theorem nb_01 {x : Int} (h1 : 0 ≤ x) (h2 : x ≤ 1) : Int32.ofInt x = 0 ∨ Int32.ofInt x = 1 := by
  rcases (show x = 0 ∨ x = 1 by omega) with e | e <;> subst e
  · exact Or.inl rfl
  · exact Or.inr rfl
theorem nb_nar {x : Int} (h1 : 0 ≤ x) (h2 : x ≤ 1) : vp_nar .boolean (Int32.ofInt x) = Int32.ofInt x := by
  rcases (show x = 0 ∨ x = 1 by omega) with e | e <;> subst e <;> rfl
