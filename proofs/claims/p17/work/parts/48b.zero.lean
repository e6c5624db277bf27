def z_x (i : Nat) : Int := if i = 10 then 1 else if i = 22 then (-1) else if i = 39 then (-1) else 0
def s0_x : aσ := fun i _ => z_x i
theorem z_x_bd (i : Nat) : aMN ≤ z_x i ∧ z_x i ≤ aMX := by
  unfold z_x
  repeat (first | (split; exact ⟨by decide, by decide⟩) | split)
  all_goals exact ⟨by decide, by decide⟩
theorem z_x_ok : lAllI (fun i (q : aSl) => cond (iLe q.2.2.2.1 (z_x i)) (iLe (z_x i) q.2.2.2.2) false) aISX 0 = true := by decide +kernel
set_option maxRecDepth 100000 in
theorem s0_x_eq : Cx = cH s0_x aHX := by
  rfl
theorem s0_x_inv : InvV aGX_6 s0_x := by
  refine ⟨fun v j => z_x_bd v, fun i q hq => ?_, ?_⟩
  · have h := lAllI_true z_x_ok i q hq
    rw [Nat.zero_add] at h
    obtain ⟨h1, h2⟩ := cond_tf h
    exact ⟨fun _ _ => ⟨iLe_le h1, iLe_le h2⟩, fun _ => ⟨iLe_le h1, iLe_le h2⟩⟩
  · refine ⟨_, rfl, ?_⟩
    intro j _
    refine ⟨_, List.mem_cons_self, rfl, ?_, fun z hz => absurd hz List.not_mem_nil⟩
    exact (show rngP [(0, 15), (0, 255), (0, 0), (0, 0)] [0, 0, 0, 0] from ⟨⟨by decide, by decide⟩, ⟨by decide, by decide⟩, ⟨by decide, by decide⟩, ⟨by decide, by decide⟩, trivial⟩)
def z_m (i : Nat) : Int := if i = 28 then 1 else 0
def s0_m : aσ := fun i _ => z_m i
theorem z_m_bd (i : Nat) : aMN ≤ z_m i ∧ z_m i ≤ aMX := by
  unfold z_m
  repeat (first | (split; exact ⟨by decide, by decide⟩) | split)
  all_goals exact ⟨by decide, by decide⟩
theorem z_m_ok : lAllI (fun i (q : aSl) => cond (iLe q.2.2.2.1 (z_m i)) (iLe (z_m i) q.2.2.2.2) false) aISM 0 = true := by decide +kernel
set_option maxRecDepth 100000 in
theorem s0_m_eq : Cm = cH s0_m aHM := by
  rfl
theorem s0_m_inv : InvV aGM_4 s0_m := by
  refine ⟨fun v j => z_m_bd v, fun i q hq => ?_, ?_⟩
  · have h := lAllI_true z_m_ok i q hq
    rw [Nat.zero_add] at h
    obtain ⟨h1, h2⟩ := cond_tf h
    exact ⟨fun _ _ => ⟨iLe_le h1, iLe_le h2⟩, fun _ => ⟨iLe_le h1, iLe_le h2⟩⟩
  · refine ⟨_, rfl, ?_⟩
    intro j _
    refine ⟨_, List.mem_cons_self, rfl, ?_, fun z hz => absurd hz List.not_mem_nil⟩
    exact (show rngP [(0, 15), (0, 255), (0, 0), (0, 0)] [0, 0, 0, 0] from ⟨⟨by decide, by decide⟩, ⟨by decide, by decide⟩, ⟨by decide, by decide⟩, ⟨by decide, by decide⟩, trivial⟩)
