/-! THE CONSTRUCTORS -/
def y_Pc (D : va_G) (cI cZ : ClassId) (W0 : va_W) (av : List Value) (sz : Nat) : Array Value → State → Prop := va_Pc av (fun U => U.heap.size = sz ∧ va_P D xCLs W0 U.heap ∧ va_K D xCLs (xe_ty cI cZ) U ∧ va_D (fun _ => True) W0 ∧ xe_ns xNS U)
theorem y_blind (D : va_G) (cI cZ : ClassId) (W0 : va_W) (av : List Value) (sz : Nat) : FrameBlind (y_Pc D cI cZ W0 av sz) := fun a U g mk q => by
  obtain ⟨q0, q1, qP, qK, qD, qN⟩ := q
  exact ⟨q0, q1, qP, va_K.moved (u := U) (U := U.calling g mk a) (Vm.Alike.refl U.vm) qK, qD, fun u hu => va_Nw.same rfl rfl (qN u hu)⟩
theorem y_pre {D : va_G} {cI cZ : ClassId} {W0 : va_W} {av : List Value} {A : Nat → Prop} {s : State} {H : Heap} (hP : va_P D xCLs W0 H) (hK : va_K D xCLs (xe_ty cI cZ) s) (hD : va_D A W0) (hns : xe_ns xNS s) : ∀ U : State, U.heap = H → s.WarmedH U.vm → y_Pc D cI cZ W0 av H.size av.toArray U := fun U hU hW =>
  ⟨rfl, by rw [hU], by rw [hU]; exact hP, va_K.moved hW.alike hK, hD.weaken (fun _ _ _ _ => trivial), fun q hq => va_Nw.warmM hW (hns q hq)⟩
def y_Q (D : va_G) (A : Nat → Prop) (W1 : (Nat → Nat) → va_W) : Array Value → State → Outcome → State → Prop := va_Qv (fun _ : Nat → Nat => True) (fun u t => va_P D xCLs (W1 u) t.heap ∧ va_D A (W1 u)) A
theorem y_cyI {D : va_G} {cI cZ cA : ClassId} {s : State} (h : va_K D xCLs (xe_ty cI cZ ++ [(cA, .int)]) s) : cA = cI := by
  have h1 : s.vm.findClass ("[" ++ FieldType.int.toString) = some cI := (h.2 0 _ rfl).2
  have h2 : s.vm.findClass ("[" ++ FieldType.int.toString) = some cA := (h.2 2 _ rfl).2
  exact Option.some.inj (h2.symm.trans h1)
theorem y_cyZ {D : va_G} {cI cZ cA : ClassId} {s : State} (h : va_K D xCLs (xe_ty cI cZ ++ [(cA, .boolean)]) s) : cA = cZ := by
  have h1 : s.vm.findClass ("[" ++ FieldType.boolean.toString) = some cZ := (h.2 1 _ rfl).2
  have h2 : s.vm.findClass ("[" ++ FieldType.boolean.toString) = some cA := (h.2 2 _ rfl).2
  exact Option.some.inj (h2.symm.trans h1)
def y_ws (y : MethodName) (b : ByteArray) (n : Nat) : List Cond := .code y b n none :: xWS
theorem y_good {u : Cond} {y : MethodName} {b : ByteArray} {n : Nat} (h : Cond.code y b n none ∈ xWS) : GoodIn (u :: xWS) (y_ws y b n) := by
  intro x hx
  rcases List.mem_cons.mp hx with e | e
  · rw [e]
    exact ⟨List.mem_cons_of_mem _ h, good_of_word (xWS_good _ h)⟩
  · exact ⟨List.mem_cons_of_mem _ e, good_of_word (xWS_good _ e)⟩
def y_r (h0 : Nat) (u : Nat → Nat) : Nat → Nat := fun k => match k with
  | 0 => h0
  | k + 1 => u k
theorem y_in (x : Nat) {C : String} {T : u_T} {N : Nat} (h : xCLs[x]? = some (C, T, N)) {u : Cond} : ∀ z ∈ u_ws C T N, z ∈ u :: xWS := fun z hz => List.mem_cons_of_mem _ ((xq_all x C T N h).1 z hz)
theorem dX2_init_0 : decode cX2_init 0 = .ok (.aload_n 0, 1) := by decide +kernel
theorem dX2_init_1 : decode cX2_init 1 = .ok (.invokespecial 3, 3) := by decide +kernel
theorem dX2_init_4 : decode cX2_init 4 = .ok (.aload_n 0, 1) := by decide +kernel
theorem dX2_init_5 : decode cX2_init 5 = .ok (.bipush 6, 2) := by decide +kernel
theorem dX2_init_7 : decode cX2_init 7 = .ok (.newarray .int, 2) := by decide +kernel
theorem dX2_init_9 : decode cX2_init 9 = .ok (.putfield 9, 3) := by decide +kernel
theorem dX2_init_12 : decode cX2_init 12 = .ok (.aload_n 0, 1) := by decide +kernel
theorem dX2_init_13 : decode cX2_init 13 = .ok (.sipush 180, 3) := by decide +kernel
theorem dX2_init_16 : decode cX2_init 16 = .ok (.newarray .int, 2) := by decide +kernel
theorem dX2_init_18 : decode cX2_init 18 = .ok (.putfield 15, 3) := by decide +kernel
theorem dX2_init_21 : decode cX2_init 21 = .ok (.aload_n 0, 1) := by decide +kernel
theorem dX2_init_22 : decode cX2_init 22 = .ok (.sipush 180, 3) := by decide +kernel
theorem dX2_init_25 : decode cX2_init 25 = .ok (.newarray .int, 2) := by decide +kernel
theorem dX2_init_27 : decode cX2_init 27 = .ok (.putfield 18, 3) := by decide +kernel
theorem dX2_init_30 : decode cX2_init 30 = .ok (.aload_n 0, 1) := by decide +kernel
theorem dX2_init_31 : decode cX2_init 31 = .ok (.sipush 180, 3) := by decide +kernel
theorem dX2_init_34 : decode cX2_init 34 = .ok (.newarray .int, 2) := by decide +kernel
theorem dX2_init_36 : decode cX2_init 36 = .ok (.putfield 21, 3) := by decide +kernel
theorem dX2_init_39 : decode cX2_init 39 = .ok (.aload_n 0, 1) := by decide +kernel
theorem dX2_init_40 : decode cX2_init 40 = .ok (.sipush 180, 3) := by decide +kernel
theorem dX2_init_43 : decode cX2_init 43 = .ok (.newarray .int, 2) := by decide +kernel
theorem dX2_init_45 : decode cX2_init 45 = .ok (.putfield 24, 3) := by decide +kernel
theorem dX2_init_48 : decode cX2_init 48 = .ok (.aload_n 0, 1) := by decide +kernel
theorem dX2_init_49 : decode cX2_init 49 = .ok (.sipush 180, 3) := by decide +kernel
theorem dX2_init_52 : decode cX2_init 52 = .ok (.newarray .int, 2) := by decide +kernel
theorem dX2_init_54 : decode cX2_init 54 = .ok (.putfield 27, 3) := by decide +kernel
theorem dX2_init_57 : decode cX2_init 57 = .ok (.return_, 1) := by decide +kernel
theorem dX3_init_0 : decode cX3_init 0 = .ok (.aload_n 0, 1) := by decide +kernel
theorem dX3_init_1 : decode cX3_init 1 = .ok (.invokespecial 3, 3) := by decide +kernel
theorem dX3_init_4 : decode cX3_init 4 = .ok (.aload_n 0, 1) := by decide +kernel
theorem dX3_init_5 : decode cX3_init 5 = .ok (.bipush 12, 2) := by decide +kernel
theorem dX3_init_7 : decode cX3_init 7 = .ok (.newarray .int, 2) := by decide +kernel
theorem dX3_init_9 : decode cX3_init 9 = .ok (.putfield 9, 3) := by decide +kernel
theorem dX3_init_12 : decode cX3_init 12 = .ok (.aload_n 0, 1) := by decide +kernel
theorem dX3_init_13 : decode cX3_init 13 = .ok (.bipush 12, 2) := by decide +kernel
theorem dX3_init_15 : decode cX3_init 15 = .ok (.newarray .int, 2) := by decide +kernel
theorem dX3_init_17 : decode cX3_init 17 = .ok (.putfield 15, 3) := by decide +kernel
theorem dX3_init_20 : decode cX3_init 20 = .ok (.aload_n 0, 1) := by decide +kernel
theorem dX3_init_21 : decode cX3_init 21 = .ok (.bipush 16, 2) := by decide +kernel
theorem dX3_init_23 : decode cX3_init 23 = .ok (.newarray .int, 2) := by decide +kernel
theorem dX3_init_25 : decode cX3_init 25 = .ok (.putfield 18, 3) := by decide +kernel
theorem dX3_init_28 : decode cX3_init 28 = .ok (.aload_n 0, 1) := by decide +kernel
theorem dX3_init_29 : decode cX3_init 29 = .ok (.bipush 40, 2) := by decide +kernel
theorem dX3_init_31 : decode cX3_init 31 = .ok (.newarray .int, 2) := by decide +kernel
theorem dX3_init_33 : decode cX3_init 33 = .ok (.putfield 21, 3) := by decide +kernel
theorem dX3_init_36 : decode cX3_init 36 = .ok (.aload_n 0, 1) := by decide +kernel
theorem dX3_init_37 : decode cX3_init 37 = .ok (.iconst (-1), 1) := by decide +kernel
theorem dX3_init_38 : decode cX3_init 38 = .ok (.putfield 24, 3) := by decide +kernel
theorem dX3_init_41 : decode cX3_init 41 = .ok (.aload_n 0, 1) := by decide +kernel
theorem dX3_init_42 : decode cX3_init 42 = .ok (.aload_n 1, 1) := by decide +kernel
theorem dX3_init_43 : decode cX3_init 43 = .ok (.putfield 28, 3) := by decide +kernel
theorem dX3_init_46 : decode cX3_init 46 = .ok (.aload_n 0, 1) := by decide +kernel
theorem dX3_init_47 : decode cX3_init 47 = .ok (.aload_n 2, 1) := by decide +kernel
theorem dX3_init_48 : decode cX3_init 48 = .ok (.putfield 32, 3) := by decide +kernel
theorem dX3_init_51 : decode cX3_init 51 = .ok (.return_, 1) := by decide +kernel
theorem dX0_init_0 : decode cX0_init 0 = .ok (.aload_n 0, 1) := by decide +kernel
theorem dX0_init_1 : decode cX0_init 1 = .ok (.invokespecial 3, 3) := by decide +kernel
theorem dX0_init_4 : decode cX0_init 4 = .ok (.aload_n 0, 1) := by decide +kernel
theorem dX0_init_5 : decode cX0_init 5 = .ok (.sipush 186, 3) := by decide +kernel
theorem dX0_init_8 : decode cX0_init 8 = .ok (.newarray .int, 2) := by decide +kernel
theorem dX0_init_10 : decode cX0_init 10 = .ok (.putfield 11, 3) := by decide +kernel
theorem dX0_init_13 : decode cX0_init 13 = .ok (.aload_n 0, 1) := by decide +kernel
theorem dX0_init_14 : decode cX0_init 14 = .ok (.sipush 186, 3) := by decide +kernel
theorem dX0_init_17 : decode cX0_init 17 = .ok (.newarray .int, 2) := by decide +kernel
theorem dX0_init_19 : decode cX0_init 19 = .ok (.putfield 15, 3) := by decide +kernel
theorem dX0_init_22 : decode cX0_init 22 = .ok (.aload_n 0, 1) := by decide +kernel
theorem dX0_init_23 : decode cX0_init 23 = .ok (.sipush 186, 3) := by decide +kernel
theorem dX0_init_26 : decode cX0_init 26 = .ok (.newarray .boolean, 2) := by decide +kernel
theorem dX0_init_28 : decode cX0_init 28 = .ok (.putfield 18, 3) := by decide +kernel
theorem dX0_init_31 : decode cX0_init 31 = .ok (.aload_n 0, 1) := by decide +kernel
theorem dX0_init_32 : decode cX0_init 32 = .ok (.bipush 6, 2) := by decide +kernel
theorem dX0_init_34 : decode cX0_init 34 = .ok (.newarray .int, 2) := by decide +kernel
theorem dX0_init_36 : decode cX0_init 36 = .ok (.putfield 22, 3) := by decide +kernel
theorem dX0_init_39 : decode cX0_init 39 = .ok (.aload_n 0, 1) := by decide +kernel
theorem dX0_init_40 : decode cX0_init 40 = .ok (.bipush 6, 2) := by decide +kernel
theorem dX0_init_42 : decode cX0_init 42 = .ok (.newarray .int, 2) := by decide +kernel
theorem dX0_init_44 : decode cX0_init 44 = .ok (.putfield 25, 3) := by decide +kernel
theorem dX0_init_47 : decode cX0_init 47 = .ok (.aload_n 0, 1) := by decide +kernel
theorem dX0_init_48 : decode cX0_init 48 = .ok (.bipush 6, 2) := by decide +kernel
theorem dX0_init_50 : decode cX0_init 50 = .ok (.newarray .int, 2) := by decide +kernel
theorem dX0_init_52 : decode cX0_init 52 = .ok (.putfield 28, 3) := by decide +kernel
theorem dX0_init_55 : decode cX0_init 55 = .ok (.aload_n 0, 1) := by decide +kernel
theorem dX0_init_56 : decode cX0_init 56 = .ok (.bipush 6, 2) := by decide +kernel
theorem dX0_init_58 : decode cX0_init 58 = .ok (.newarray .int, 2) := by decide +kernel
theorem dX0_init_60 : decode cX0_init 60 = .ok (.putfield 31, 3) := by decide +kernel
theorem dX0_init_63 : decode cX0_init 63 = .ok (.aload_n 0, 1) := by decide +kernel
theorem dX0_init_64 : decode cX0_init 64 = .ok (.bipush 6, 2) := by decide +kernel
theorem dX0_init_66 : decode cX0_init 66 = .ok (.newarray .int, 2) := by decide +kernel
theorem dX0_init_68 : decode cX0_init 68 = .ok (.putfield 34, 3) := by decide +kernel
theorem dX0_init_71 : decode cX0_init 71 = .ok (.aload_n 0, 1) := by decide +kernel
theorem dX0_init_72 : decode cX0_init 72 = .ok (.bipush 6, 2) := by decide +kernel
theorem dX0_init_74 : decode cX0_init 74 = .ok (.newarray .int, 2) := by decide +kernel
theorem dX0_init_76 : decode cX0_init 76 = .ok (.putfield 37, 3) := by decide +kernel
theorem dX0_init_79 : decode cX0_init 79 = .ok (.aload_n 0, 1) := by decide +kernel
theorem dX0_init_80 : decode cX0_init 80 = .ok (.iconst 0, 1) := by decide +kernel
theorem dX0_init_81 : decode cX0_init 81 = .ok (.putfield 40, 3) := by decide +kernel
theorem dX0_init_84 : decode cX0_init 84 = .ok (.aload_n 0, 1) := by decide +kernel
theorem dX0_init_85 : decode cX0_init 85 = .ok (.aload_n 1, 1) := by decide +kernel
theorem dX0_init_86 : decode cX0_init 86 = .ok (.putfield 44, 3) := by decide +kernel
theorem dX0_init_89 : decode cX0_init 89 = .ok (.return_, 1) := by decide +kernel
theorem dX1_init_0 : decode cX1_init 0 = .ok (.aload_n 0, 1) := by decide +kernel
theorem dX1_init_1 : decode cX1_init 1 = .ok (.invokespecial 3, 3) := by decide +kernel
theorem dX1_init_4 : decode cX1_init 4 = .ok (.aload_n 0, 1) := by decide +kernel
theorem dX1_init_5 : decode cX1_init 5 = .ok (.bipush 12, 2) := by decide +kernel
theorem dX1_init_7 : decode cX1_init 7 = .ok (.newarray .int, 2) := by decide +kernel
theorem dX1_init_9 : decode cX1_init 9 = .ok (.putfield 9, 3) := by decide +kernel
theorem dX1_init_12 : decode cX1_init 12 = .ok (.aload_n 0, 1) := by decide +kernel
theorem dX1_init_13 : decode cX1_init 13 = .ok (.bipush 12, 2) := by decide +kernel
theorem dX1_init_15 : decode cX1_init 15 = .ok (.newarray .int, 2) := by decide +kernel
theorem dX1_init_17 : decode cX1_init 17 = .ok (.putfield 15, 3) := by decide +kernel
theorem dX1_init_20 : decode cX1_init 20 = .ok (.aload_n 0, 1) := by decide +kernel
theorem dX1_init_21 : decode cX1_init 21 = .ok (.bipush 12, 2) := by decide +kernel
theorem dX1_init_23 : decode cX1_init 23 = .ok (.newarray .int, 2) := by decide +kernel
theorem dX1_init_25 : decode cX1_init 25 = .ok (.putfield 18, 3) := by decide +kernel
theorem dX1_init_28 : decode cX1_init 28 = .ok (.aload_n 0, 1) := by decide +kernel
theorem dX1_init_29 : decode cX1_init 29 = .ok (.bipush 12, 2) := by decide +kernel
theorem dX1_init_31 : decode cX1_init 31 = .ok (.newarray .int, 2) := by decide +kernel
theorem dX1_init_33 : decode cX1_init 33 = .ok (.putfield 21, 3) := by decide +kernel
theorem dX1_init_36 : decode cX1_init 36 = .ok (.aload_n 0, 1) := by decide +kernel
theorem dX1_init_37 : decode cX1_init 37 = .ok (.bipush 12, 2) := by decide +kernel
theorem dX1_init_39 : decode cX1_init 39 = .ok (.newarray .int, 2) := by decide +kernel
theorem dX1_init_41 : decode cX1_init 41 = .ok (.putfield 24, 3) := by decide +kernel
theorem dX1_init_44 : decode cX1_init 44 = .ok (.aload_n 0, 1) := by decide +kernel
theorem dX1_init_45 : decode cX1_init 45 = .ok (.iconst 0, 1) := by decide +kernel
theorem dX1_init_46 : decode cX1_init 46 = .ok (.putfield 27, 3) := by decide +kernel
theorem dX1_init_49 : decode cX1_init 49 = .ok (.aload_n 0, 1) := by decide +kernel
theorem dX1_init_50 : decode cX1_init 50 = .ok (.aload_n 1, 1) := by decide +kernel
theorem dX1_init_51 : decode cX1_init 51 = .ok (.putfield 31, 3) := by decide +kernel
theorem dX1_init_54 : decode cX1_init 54 = .ok (.aload_n 0, 1) := by decide +kernel
theorem dX1_init_55 : decode cX1_init 55 = .ok (.aload_n 2, 1) := by decide +kernel
theorem dX1_init_56 : decode cX1_init 56 = .ok (.putfield 35, 3) := by decide +kernel
theorem dX1_init_59 : decode cX1_init 59 = .ok (.aload_n 0, 1) := by decide +kernel
theorem dX1_init_60 : decode cX1_init 60 = .ok (.aload_n 3, 1) := by decide +kernel
theorem dX1_init_61 : decode cX1_init 61 = .ok (.putfield 39, 3) := by decide +kernel
theorem dX1_init_64 : decode cX1_init 64 = .ok (.return_, 1) := by decide +kernel
theorem dX4_init_0 : decode cX4_init 0 = .ok (.aload_n 0, 1) := by decide +kernel
theorem dX4_init_1 : decode cX4_init 1 = .ok (.invokespecial 1, 3) := by decide +kernel
theorem dX4_init_4 : decode cX4_init 4 = .ok (.aload_n 0, 1) := by decide +kernel
theorem dX4_init_5 : decode cX4_init 5 = .ok (.new 7, 3) := by decide +kernel
theorem dX4_init_8 : decode cX4_init 8 = .ok (.dup, 1) := by decide +kernel
theorem dX4_init_9 : decode cX4_init 9 = .ok (.invokespecial 9, 3) := by decide +kernel
theorem dX4_init_12 : decode cX4_init 12 = .ok (.putfield 10, 3) := by decide +kernel
theorem dX4_init_15 : decode cX4_init 15 = .ok (.aload_n 0, 1) := by decide +kernel
theorem dX4_init_16 : decode cX4_init 16 = .ok (.bipush 6, 2) := by decide +kernel
theorem dX4_init_18 : decode cX4_init 18 = .ok (.newarray .int, 2) := by decide +kernel
theorem dX4_init_20 : decode cX4_init 20 = .ok (.putfield 16, 3) := by decide +kernel
theorem dX4_init_23 : decode cX4_init 23 = .ok (.aload_n 0, 1) := by decide +kernel
theorem dX4_init_24 : decode cX4_init 24 = .ok (.bipush 16, 2) := by decide +kernel
theorem dX4_init_26 : decode cX4_init 26 = .ok (.newarray .int, 2) := by decide +kernel
theorem dX4_init_28 : decode cX4_init 28 = .ok (.putfield 20, 3) := by decide +kernel
theorem dX4_init_31 : decode cX4_init 31 = .ok (.aload_n 0, 1) := by decide +kernel
theorem dX4_init_32 : decode cX4_init 32 = .ok (.iconst 0, 1) := by decide +kernel
theorem dX4_init_33 : decode cX4_init 33 = .ok (.putfield 23, 3) := by decide +kernel
theorem dX4_init_36 : decode cX4_init 36 = .ok (.aload_n 0, 1) := by decide +kernel
theorem dX4_init_37 : decode cX4_init 37 = .ok (.new 27, 3) := by decide +kernel
theorem dX4_init_40 : decode cX4_init 40 = .ok (.dup, 1) := by decide +kernel
theorem dX4_init_41 : decode cX4_init 41 = .ok (.aload_n 0, 1) := by decide +kernel
theorem dX4_init_42 : decode cX4_init 42 = .ok (.getfield 10, 3) := by decide +kernel
theorem dX4_init_45 : decode cX4_init 45 = .ok (.aload_n 0, 1) := by decide +kernel
theorem dX4_init_46 : decode cX4_init 46 = .ok (.getfield 20, 3) := by decide +kernel
theorem dX4_init_49 : decode cX4_init 49 = .ok (.invokespecial 29, 3) := by decide +kernel
theorem dX4_init_52 : decode cX4_init 52 = .ok (.putfield 32, 3) := by decide +kernel
theorem dX4_init_55 : decode cX4_init 55 = .ok (.aload_n 0, 1) := by decide +kernel
theorem dX4_init_56 : decode cX4_init 56 = .ok (.iconst 0, 1) := by decide +kernel
theorem dX4_init_57 : decode cX4_init 57 = .ok (.putfield 36, 3) := by decide +kernel
theorem dX4_init_60 : decode cX4_init 60 = .ok (.aload_n 0, 1) := by decide +kernel
theorem dX4_init_61 : decode cX4_init 61 = .ok (.bipush 10, 2) := by decide +kernel
theorem dX4_init_63 : decode cX4_init 63 = .ok (.newarray .int, 2) := by decide +kernel
theorem dX4_init_65 : decode cX4_init 65 = .ok (.putfield 40, 3) := by decide +kernel
theorem dX4_init_68 : decode cX4_init 68 = .ok (.aload_n 0, 1) := by decide +kernel
theorem dX4_init_69 : decode cX4_init 69 = .ok (.new 27, 3) := by decide +kernel
theorem dX4_init_72 : decode cX4_init 72 = .ok (.dup, 1) := by decide +kernel
theorem dX4_init_73 : decode cX4_init 73 = .ok (.aload_n 0, 1) := by decide +kernel
theorem dX4_init_74 : decode cX4_init 74 = .ok (.getfield 10, 3) := by decide +kernel
theorem dX4_init_77 : decode cX4_init 77 = .ok (.aload_n 0, 1) := by decide +kernel
theorem dX4_init_78 : decode cX4_init 78 = .ok (.getfield 40, 3) := by decide +kernel
theorem dX4_init_81 : decode cX4_init 81 = .ok (.invokespecial 29, 3) := by decide +kernel
theorem dX4_init_84 : decode cX4_init 84 = .ok (.putfield 43, 3) := by decide +kernel
theorem dX4_init_87 : decode cX4_init 87 = .ok (.aload_n 0, 1) := by decide +kernel
theorem dX4_init_88 : decode cX4_init 88 = .ok (.sipush 1024, 3) := by decide +kernel
theorem dX4_init_91 : decode cX4_init 91 = .ok (.newarray .int, 2) := by decide +kernel
theorem dX4_init_93 : decode cX4_init 93 = .ok (.putfield 46, 3) := by decide +kernel
theorem dX4_init_96 : decode cX4_init 96 = .ok (.aload_n 0, 1) := by decide +kernel
theorem dX4_init_97 : decode cX4_init 97 = .ok (.new 49, 3) := by decide +kernel
theorem dX4_init_100 : decode cX4_init 100 = .ok (.dup, 1) := by decide +kernel
theorem dX4_init_101 : decode cX4_init 101 = .ok (.aload_n 0, 1) := by decide +kernel
theorem dX4_init_102 : decode cX4_init 102 = .ok (.getfield 10, 3) := by decide +kernel
theorem dX4_init_105 : decode cX4_init 105 = .ok (.invokespecial 51, 3) := by decide +kernel
theorem dX4_init_108 : decode cX4_init 108 = .ok (.putfield 54, 3) := by decide +kernel
theorem dX4_init_111 : decode cX4_init 111 = .ok (.aload_n 0, 1) := by decide +kernel
theorem dX4_init_112 : decode cX4_init 112 = .ok (.iconst 0, 1) := by decide +kernel
theorem dX4_init_113 : decode cX4_init 113 = .ok (.putfield 58, 3) := by decide +kernel
theorem dX4_init_116 : decode cX4_init 116 = .ok (.aload_n 0, 1) := by decide +kernel
theorem dX4_init_117 : decode cX4_init 117 = .ok (.new 49, 3) := by decide +kernel
theorem dX4_init_120 : decode cX4_init 120 = .ok (.dup, 1) := by decide +kernel
theorem dX4_init_121 : decode cX4_init 121 = .ok (.aload_n 0, 1) := by decide +kernel
theorem dX4_init_122 : decode cX4_init 122 = .ok (.getfield 10, 3) := by decide +kernel
theorem dX4_init_125 : decode cX4_init 125 = .ok (.invokespecial 51, 3) := by decide +kernel
theorem dX4_init_128 : decode cX4_init 128 = .ok (.putfield 61, 3) := by decide +kernel
theorem dX4_init_131 : decode cX4_init 131 = .ok (.aload_n 0, 1) := by decide +kernel
theorem dX4_init_132 : decode cX4_init 132 = .ok (.sipush 180, 3) := by decide +kernel
theorem dX4_init_135 : decode cX4_init 135 = .ok (.newarray .int, 2) := by decide +kernel
theorem dX4_init_137 : decode cX4_init 137 = .ok (.putfield 64, 3) := by decide +kernel
theorem dX4_init_140 : decode cX4_init 140 = .ok (.aload_n 0, 1) := by decide +kernel
theorem dX4_init_141 : decode cX4_init 141 = .ok (.new 67, 3) := by decide +kernel
theorem dX4_init_144 : decode cX4_init 144 = .ok (.dup, 1) := by decide +kernel
theorem dX4_init_145 : decode cX4_init 145 = .ok (.aload_n 0, 1) := by decide +kernel
theorem dX4_init_146 : decode cX4_init 146 = .ok (.getfield 10, 3) := by decide +kernel
theorem dX4_init_149 : decode cX4_init 149 = .ok (.aload_n 0, 1) := by decide +kernel
theorem dX4_init_150 : decode cX4_init 150 = .ok (.getfield 54, 3) := by decide +kernel
theorem dX4_init_153 : decode cX4_init 153 = .ok (.aload_n 0, 1) := by decide +kernel
theorem dX4_init_154 : decode cX4_init 154 = .ok (.getfield 61, 3) := by decide +kernel
theorem dX4_init_157 : decode cX4_init 157 = .ok (.invokespecial 69, 3) := by decide +kernel
theorem dX4_init_160 : decode cX4_init 160 = .ok (.putfield 72, 3) := by decide +kernel
theorem dX4_init_163 : decode cX4_init 163 = .ok (.aload_n 0, 1) := by decide +kernel
theorem dX4_init_164 : decode cX4_init 164 = .ok (.iconst 0, 1) := by decide +kernel
theorem dX4_init_165 : decode cX4_init 165 = .ok (.putfield 76, 3) := by decide +kernel
theorem dX4_init_168 : decode cX4_init 168 = .ok (.iconst 0, 1) := by decide +kernel
theorem dX4_init_169 : decode cX4_init 169 = .ok (.istore_n 1, 1) := by decide +kernel
theorem dX4_init_170 : decode cX4_init 170 = .ok (.iload_n 1, 1) := by decide +kernel
theorem dX4_init_171 : decode cX4_init 171 = .ok (.bipush 6, 2) := by decide +kernel
theorem dX4_init_173 : decode cX4_init 173 = .ok (.if_icmp .ge 16, 3) := by decide +kernel
theorem dX4_init_176 : decode cX4_init 176 = .ok (.aload_n 0, 1) := by decide +kernel
theorem dX4_init_177 : decode cX4_init 177 = .ok (.getfield 16, 3) := by decide +kernel
theorem dX4_init_180 : decode cX4_init 180 = .ok (.iload_n 1, 1) := by decide +kernel
theorem dX4_init_181 : decode cX4_init 181 = .ok (.iconst 1, 1) := by decide +kernel
theorem dX4_init_182 : decode cX4_init 182 = .ok (.iastore, 1) := by decide +kernel
theorem dX4_init_183 : decode cX4_init 183 = .ok (.iinc 1 1, 3) := by decide +kernel
theorem dX4_init_186 : decode cX4_init 186 = .ok (.goto (-16), 3) := by decide +kernel
theorem dX4_init_189 : decode cX4_init 189 = .ok (.return_, 1) := by decide +kernel
theorem dX5_init_0 : decode cX5_init 0 = .ok (.aload_n 0, 1) := by decide +kernel
theorem dX5_init_1 : decode cX5_init 1 = .ok (.invokespecial 1, 3) := by decide +kernel
theorem dX5_init_4 : decode cX5_init 4 = .ok (.aload_n 0, 1) := by decide +kernel
theorem dX5_init_5 : decode cX5_init 5 = .ok (.sipush 900, 3) := by decide +kernel
theorem dX5_init_8 : decode cX5_init 8 = .ok (.newarray .int, 2) := by decide +kernel
theorem dX5_init_10 : decode cX5_init 10 = .ok (.putfield 7, 3) := by decide +kernel
theorem dX5_init_13 : decode cX5_init 13 = .ok (.aload_n 0, 1) := by decide +kernel
theorem dX5_init_14 : decode cX5_init 14 = .ok (.bipush 6, 2) := by decide +kernel
theorem dX5_init_16 : decode cX5_init 16 = .ok (.newarray .int, 2) := by decide +kernel
theorem dX5_init_18 : decode cX5_init 18 = .ok (.putfield 13, 3) := by decide +kernel
theorem dX5_init_21 : decode cX5_init 21 = .ok (.aload_n 0, 1) := by decide +kernel
theorem dX5_init_22 : decode cX5_init 22 = .ok (.bipush 6, 2) := by decide +kernel
theorem dX5_init_24 : decode cX5_init 24 = .ok (.newarray .int, 2) := by decide +kernel
theorem dX5_init_26 : decode cX5_init 26 = .ok (.dup, 1) := by decide +kernel
theorem dX5_init_27 : decode cX5_init 27 = .ok (.iconst 0, 1) := by decide +kernel
theorem dX5_init_28 : decode cX5_init 28 = .ok (.iconst 1, 1) := by decide +kernel
theorem dX5_init_29 : decode cX5_init 29 = .ok (.iastore, 1) := by decide +kernel
theorem dX5_init_30 : decode cX5_init 30 = .ok (.dup, 1) := by decide +kernel
theorem dX5_init_31 : decode cX5_init 31 = .ok (.iconst 1, 1) := by decide +kernel
theorem dX5_init_32 : decode cX5_init 32 = .ok (.iconst 1, 1) := by decide +kernel
theorem dX5_init_33 : decode cX5_init 33 = .ok (.iastore, 1) := by decide +kernel
theorem dX5_init_34 : decode cX5_init 34 = .ok (.dup, 1) := by decide +kernel
theorem dX5_init_35 : decode cX5_init 35 = .ok (.iconst 2, 1) := by decide +kernel
theorem dX5_init_36 : decode cX5_init 36 = .ok (.iconst 1, 1) := by decide +kernel
theorem dX5_init_37 : decode cX5_init 37 = .ok (.iastore, 1) := by decide +kernel
theorem dX5_init_38 : decode cX5_init 38 = .ok (.dup, 1) := by decide +kernel
theorem dX5_init_39 : decode cX5_init 39 = .ok (.iconst 3, 1) := by decide +kernel
theorem dX5_init_40 : decode cX5_init 40 = .ok (.iconst 1, 1) := by decide +kernel
theorem dX5_init_41 : decode cX5_init 41 = .ok (.iastore, 1) := by decide +kernel
theorem dX5_init_42 : decode cX5_init 42 = .ok (.dup, 1) := by decide +kernel
theorem dX5_init_43 : decode cX5_init 43 = .ok (.iconst 4, 1) := by decide +kernel
theorem dX5_init_44 : decode cX5_init 44 = .ok (.iconst 1, 1) := by decide +kernel
theorem dX5_init_45 : decode cX5_init 45 = .ok (.iastore, 1) := by decide +kernel
theorem dX5_init_46 : decode cX5_init 46 = .ok (.dup, 1) := by decide +kernel
theorem dX5_init_47 : decode cX5_init 47 = .ok (.iconst 5, 1) := by decide +kernel
theorem dX5_init_48 : decode cX5_init 48 = .ok (.iconst 1, 1) := by decide +kernel
theorem dX5_init_49 : decode cX5_init 49 = .ok (.iastore, 1) := by decide +kernel
theorem dX5_init_50 : decode cX5_init 50 = .ok (.putfield 16, 3) := by decide +kernel
theorem dX5_init_53 : decode cX5_init 53 = .ok (.aload_n 0, 1) := by decide +kernel
theorem dX5_init_54 : decode cX5_init 54 = .ok (.bipush 16, 2) := by decide +kernel
theorem dX5_init_56 : decode cX5_init 56 = .ok (.newarray .int, 2) := by decide +kernel
theorem dX5_init_58 : decode cX5_init 58 = .ok (.putfield 19, 3) := by decide +kernel
theorem dX5_init_61 : decode cX5_init 61 = .ok (.aload_n 0, 1) := by decide +kernel
theorem dX5_init_62 : decode cX5_init 62 = .ok (.bipush 16, 2) := by decide +kernel
theorem dX5_init_64 : decode cX5_init 64 = .ok (.newarray .int, 2) := by decide +kernel
theorem dX5_init_66 : decode cX5_init 66 = .ok (.putfield 22, 3) := by decide +kernel
theorem dX5_init_69 : decode cX5_init 69 = .ok (.aload_n 0, 1) := by decide +kernel
theorem dX5_init_70 : decode cX5_init 70 = .ok (.bipush 16, 2) := by decide +kernel
theorem dX5_init_72 : decode cX5_init 72 = .ok (.newarray .boolean, 2) := by decide +kernel
theorem dX5_init_74 : decode cX5_init 74 = .ok (.putfield 25, 3) := by decide +kernel
theorem dX5_init_77 : decode cX5_init 77 = .ok (.aload_n 0, 1) := by decide +kernel
theorem dX5_init_78 : decode cX5_init 78 = .ok (.bipush 12, 2) := by decide +kernel
theorem dX5_init_80 : decode cX5_init 80 = .ok (.newarray .int, 2) := by decide +kernel
theorem dX5_init_82 : decode cX5_init 82 = .ok (.putfield 29, 3) := by decide +kernel
theorem dX5_init_85 : decode cX5_init 85 = .ok (.aload_n 0, 1) := by decide +kernel
theorem dX5_init_86 : decode cX5_init 86 = .ok (.bipush 12, 2) := by decide +kernel
theorem dX5_init_88 : decode cX5_init 88 = .ok (.newarray .int, 2) := by decide +kernel
theorem dX5_init_90 : decode cX5_init 90 = .ok (.putfield 32, 3) := by decide +kernel
theorem dX5_init_93 : decode cX5_init 93 = .ok (.aload_n 0, 1) := by decide +kernel
theorem dX5_init_94 : decode cX5_init 94 = .ok (.bipush 40, 2) := by decide +kernel
theorem dX5_init_96 : decode cX5_init 96 = .ok (.newarray .int, 2) := by decide +kernel
theorem dX5_init_98 : decode cX5_init 98 = .ok (.putfield 35, 3) := by decide +kernel
theorem dX5_init_101 : decode cX5_init 101 = .ok (.aload_n 0, 1) := by decide +kernel
theorem dX5_init_102 : decode cX5_init 102 = .ok (.bipush 8, 2) := by decide +kernel
theorem dX5_init_104 : decode cX5_init 104 = .ok (.newarray .int, 2) := by decide +kernel
theorem dX5_init_106 : decode cX5_init 106 = .ok (.putfield 38, 3) := by decide +kernel
theorem dX5_init_109 : decode cX5_init 109 = .ok (.aload_n 0, 1) := by decide +kernel
theorem dX5_init_110 : decode cX5_init 110 = .ok (.bipush 8, 2) := by decide +kernel
theorem dX5_init_112 : decode cX5_init 112 = .ok (.newarray .boolean, 2) := by decide +kernel
theorem dX5_init_114 : decode cX5_init 114 = .ok (.putfield 41, 3) := by decide +kernel
theorem dX5_init_117 : decode cX5_init 117 = .ok (.aload_n 0, 1) := by decide +kernel
theorem dX5_init_118 : decode cX5_init 118 = .ok (.bipush 40, 2) := by decide +kernel
theorem dX5_init_120 : decode cX5_init 120 = .ok (.newarray .int, 2) := by decide +kernel
theorem dX5_init_122 : decode cX5_init 122 = .ok (.putfield 44, 3) := by decide +kernel
theorem dX5_init_125 : decode cX5_init 125 = .ok (.aload_n 0, 1) := by decide +kernel
theorem dX5_init_126 : decode cX5_init 126 = .ok (.bipush 16, 2) := by decide +kernel
theorem dX5_init_128 : decode cX5_init 128 = .ok (.newarray .int, 2) := by decide +kernel
theorem dX5_init_130 : decode cX5_init 130 = .ok (.putfield 47, 3) := by decide +kernel
theorem dX5_init_133 : decode cX5_init 133 = .ok (.aload_n 0, 1) := by decide +kernel
theorem dX5_init_134 : decode cX5_init 134 = .ok (.bipush 16, 2) := by decide +kernel
theorem dX5_init_136 : decode cX5_init 136 = .ok (.newarray .boolean, 2) := by decide +kernel
theorem dX5_init_138 : decode cX5_init 138 = .ok (.putfield 50, 3) := by decide +kernel
theorem dX5_init_141 : decode cX5_init 141 = .ok (.aload_n 0, 1) := by decide +kernel
theorem dX5_init_142 : decode cX5_init 142 = .ok (.sipush 186, 3) := by decide +kernel
theorem dX5_init_145 : decode cX5_init 145 = .ok (.newarray .boolean, 2) := by decide +kernel
theorem dX5_init_147 : decode cX5_init 147 = .ok (.putfield 53, 3) := by decide +kernel
theorem dX5_init_150 : decode cX5_init 150 = .ok (.aload_n 0, 1) := by decide +kernel
theorem dX5_init_151 : decode cX5_init 151 = .ok (.sipush 186, 3) := by decide +kernel
theorem dX5_init_154 : decode cX5_init 154 = .ok (.newarray .int, 2) := by decide +kernel
theorem dX5_init_156 : decode cX5_init 156 = .ok (.putfield 56, 3) := by decide +kernel
theorem dX5_init_159 : decode cX5_init 159 = .ok (.aload_n 0, 1) := by decide +kernel
theorem dX5_init_160 : decode cX5_init 160 = .ok (.sipush 186, 3) := by decide +kernel
theorem dX5_init_163 : decode cX5_init 163 = .ok (.newarray .int, 2) := by decide +kernel
theorem dX5_init_165 : decode cX5_init 165 = .ok (.putfield 59, 3) := by decide +kernel
theorem dX5_init_168 : decode cX5_init 168 = .ok (.aload_n 0, 1) := by decide +kernel
theorem dX5_init_169 : decode cX5_init 169 = .ok (.bipush 6, 2) := by decide +kernel
theorem dX5_init_171 : decode cX5_init 171 = .ok (.newarray .boolean, 2) := by decide +kernel
theorem dX5_init_173 : decode cX5_init 173 = .ok (.putfield 62, 3) := by decide +kernel
theorem dX5_init_176 : decode cX5_init 176 = .ok (.aload_n 0, 1) := by decide +kernel
theorem dX5_init_177 : decode cX5_init 177 = .ok (.bipush 6, 2) := by decide +kernel
theorem dX5_init_179 : decode cX5_init 179 = .ok (.newarray .int, 2) := by decide +kernel
theorem dX5_init_181 : decode cX5_init 181 = .ok (.putfield 65, 3) := by decide +kernel
theorem dX5_init_184 : decode cX5_init 184 = .ok (.aload_n 0, 1) := by decide +kernel
theorem dX5_init_185 : decode cX5_init 185 = .ok (.bipush 6, 2) := by decide +kernel
theorem dX5_init_187 : decode cX5_init 187 = .ok (.newarray .int, 2) := by decide +kernel
theorem dX5_init_189 : decode cX5_init 189 = .ok (.putfield 68, 3) := by decide +kernel
theorem dX5_init_192 : decode cX5_init 192 = .ok (.aload_n 0, 1) := by decide +kernel
theorem dX5_init_193 : decode cX5_init 193 = .ok (.bipush 6, 2) := by decide +kernel
theorem dX5_init_195 : decode cX5_init 195 = .ok (.newarray .int, 2) := by decide +kernel
theorem dX5_init_197 : decode cX5_init 197 = .ok (.putfield 71, 3) := by decide +kernel
theorem dX5_init_200 : decode cX5_init 200 = .ok (.aload_n 0, 1) := by decide +kernel
theorem dX5_init_201 : decode cX5_init 201 = .ok (.bipush 6, 2) := by decide +kernel
theorem dX5_init_203 : decode cX5_init 203 = .ok (.newarray .int, 2) := by decide +kernel
theorem dX5_init_205 : decode cX5_init 205 = .ok (.putfield 74, 3) := by decide +kernel
theorem dX5_init_208 : decode cX5_init 208 = .ok (.aload_n 0, 1) := by decide +kernel
theorem dX5_init_209 : decode cX5_init 209 = .ok (.bipush 6, 2) := by decide +kernel
theorem dX5_init_211 : decode cX5_init 211 = .ok (.newarray .int, 2) := by decide +kernel
theorem dX5_init_213 : decode cX5_init 213 = .ok (.putfield 77, 3) := by decide +kernel
theorem dX5_init_216 : decode cX5_init 216 = .ok (.aload_n 0, 1) := by decide +kernel
theorem dX5_init_217 : decode cX5_init 217 = .ok (.sipush 186, 3) := by decide +kernel
theorem dX5_init_220 : decode cX5_init 220 = .ok (.newarray .int, 2) := by decide +kernel
theorem dX5_init_222 : decode cX5_init 222 = .ok (.putfield 80, 3) := by decide +kernel
theorem dX5_init_225 : decode cX5_init 225 = .ok (.aload_n 0, 1) := by decide +kernel
theorem dX5_init_226 : decode cX5_init 226 = .ok (.bipush 12, 2) := by decide +kernel
theorem dX5_init_228 : decode cX5_init 228 = .ok (.newarray .int, 2) := by decide +kernel
theorem dX5_init_230 : decode cX5_init 230 = .ok (.putfield 83, 3) := by decide +kernel
theorem dX5_init_233 : decode cX5_init 233 = .ok (.aload_n 0, 1) := by decide +kernel
theorem dX5_init_234 : decode cX5_init 234 = .ok (.bipush 12, 2) := by decide +kernel
theorem dX5_init_236 : decode cX5_init 236 = .ok (.newarray .int, 2) := by decide +kernel
theorem dX5_init_238 : decode cX5_init 238 = .ok (.putfield 86, 3) := by decide +kernel
theorem dX5_init_241 : decode cX5_init 241 = .ok (.aload_n 0, 1) := by decide +kernel
theorem dX5_init_242 : decode cX5_init 242 = .ok (.sipush 186, 3) := by decide +kernel
theorem dX5_init_245 : decode cX5_init 245 = .ok (.newarray .int, 2) := by decide +kernel
theorem dX5_init_247 : decode cX5_init 247 = .ok (.putfield 89, 3) := by decide +kernel
theorem dX5_init_250 : decode cX5_init 250 = .ok (.aload_n 0, 1) := by decide +kernel
theorem dX5_init_251 : decode cX5_init 251 = .ok (.bipush 6, 2) := by decide +kernel
theorem dX5_init_253 : decode cX5_init 253 = .ok (.newarray .int, 2) := by decide +kernel
theorem dX5_init_255 : decode cX5_init 255 = .ok (.putfield 92, 3) := by decide +kernel
theorem dX5_init_258 : decode cX5_init 258 = .ok (.aload_n 0, 1) := by decide +kernel
theorem dX5_init_259 : decode cX5_init 259 = .ok (.bipush 12, 2) := by decide +kernel
theorem dX5_init_261 : decode cX5_init 261 = .ok (.newarray .int, 2) := by decide +kernel
theorem dX5_init_263 : decode cX5_init 263 = .ok (.putfield 95, 3) := by decide +kernel
theorem dX5_init_266 : decode cX5_init 266 = .ok (.aload_n 0, 1) := by decide +kernel
theorem dX5_init_267 : decode cX5_init 267 = .ok (.bipush 12, 2) := by decide +kernel
theorem dX5_init_269 : decode cX5_init 269 = .ok (.newarray .int, 2) := by decide +kernel
theorem dX5_init_271 : decode cX5_init 271 = .ok (.putfield 98, 3) := by decide +kernel
theorem dX5_init_274 : decode cX5_init 274 = .ok (.return_, 1) := by decide +kernel
set_option maxHeartbeats 8000000 in
set_option maxRecDepth 100000 in
theorem kX2_init (l : Launch) (D : va_G) (cI cZ : ClassId) (h0  sz : Nat) : Met l yX2_init (y_ws yX2_init cX2_init 1) ({ frames := 1, cells := 6, slots := 906, locals := 12 }) (y_Pc D cI cZ [(h0, .inr (2, [.null, .null, .null, .null, .null, .null]))] [.ref h0] sz) (y_Q D (va_A [(h0, .inr (2, [.null, .null, .null, .null, .null, .null]))] sz) (fun u => [(h0, .inr (2, [.ref (u 0), .ref (u 1), .ref (u 2), .ref (u 3), .ref (u 4), .ref (u 5)])), ((u 0), .inl (cI, 6, .inl (fun _ => 0))), ((u 1), .inl (cI, 180, .inl (fun _ => 0))), ((u 2), .inl (cI, 180, .inl (fun _ => 0))), ((u 3), .inl (cI, 180, .inl (fun _ => 0))), ((u 4), .inl (cI, 180, .inl (fun _ => 0))), ((u 5), .inl (cI, 180, .inl (fun _ => 0)))])) 6 906 (va_A [(h0, .inr (2, [.null, .null, .null, .null, .null, .null]))] sz) := by
  refine Met.ofW (cc := cX2_init) (maxL := 1) (ret := none) (by decide) rfl ?_
  intro p e s m args below meth c s₁ B hml hv
  obtain ⟨rfl, hsz, hP, hK, hD0, hns⟩ := hv
  have hx := B.exec
  have hb := B.bytes
  have hr := B.returns
  have hts := atoms_spec (ws := y_ws yX2_init cX2_init 1) B.pre
  have hin : ∀ {u : Cond}, u ∈ xWS → u.before _ s = true := fun hu => hts _ (List.mem_cons_of_mem _ hu)
  have hown : s.vm.findClass RX2 = some m.cls := findClass_of_methodNamed B.named
  have hlocks := B.notSynchronized
  have hinit : meth.name = "<init>" := (name_of_methodNamed B.named B.method).1
  subst hsz
  have hD := hD0.self (sz := s.heap.size)
  generalize hAe : va_A [(h0, .inr (2, [.null, .null, .null, .null, .null, .null]))] s.heap.size = A at hD ⊢
  have hA : ∀ q : Nat, s.heap.size ≤ q → A q := fun q h => by rw [← hAe]; exact Or.inr h
  have hS : va_S A s.heap s.heap [] := va_S.rf
  have hP : va_P D xCLs [(h0, .inr (2, [.null, .null, .null, .null, .null, .null]))] s.heap := hP
  have hl := lv_entry ([.ref h0]) (n := 1) (Nat.le_of_ble_eq_true rfl)
  rw [lg_entry_eq]
  generalize (lg_sl ([.ref h0]) ++ List.replicate (1 - (lg_sl ([.ref h0])).length) Slot.unset).toArray = ls at hl ⊢
  have hl : lv_has ls 1 [(0, .ref h0)] := hl
  refine lv_aload_n hx hb dX2_init_0 rfl (lv_at hl 0 rfl) ?_
  refine W.objInit hx hb hown (hin (xe_wd_mem (n := 84) (u := .methodLink RX2 3 objectInit) (by decide +kernel))) (hin (xe_wd_mem (n := 77) (u := .instanceMethod objectInit) (by decide +kernel))) (hin (xe_wd_mem (n := 78) (u := .code objectInit ⟨#[0xb1]⟩ 1 none) (by decide +kernel))) rfl (by rw [hml]; exact hl.1) rfl dX2_init_1 (Nat.le_of_ble_eq_true rfl) (Nat.le_of_ble_eq_true rfl) ?_
  refine W.eq (g2 := F0 m 4 ls []) rfl ?_
  refine lv_aload_n hx hb dX2_init_4 rfl (lv_at hl 0 rfl) ?_
  refine lv_bipush (v := 6) hx hb dX2_init_5 rfl ?_
  refine va_newa (atype := .int) (ty := .int) (a0 := (6, .inl (fun _ => 0))) hx hb (hin (xe_wd_mem (n := 117) (u := .arrayClass .int) (by decide +kernel))) rfl hK hP hD hS hA (fun _ => rfl) (by decide) rfl (by decide) (Nat.le_of_ble_eq_true rfl) (Nat.le_of_ble_eq_true rfl) dX2_init_7 (fun q7 cA H hK1 hP hD hS => ?_)
  obtain rfl := (y_cyI hK1).symm
  have hP : va_P D xCLs [(h0, .inr (2, [.null, .null, .null, .null, .null, .null])), (q7, .inl (cI, 6, .inl (fun _ => 0)))] H := hP
  have hD : va_D A [(h0, .inr (2, [.null, .null, .null, .null, .null, .null])), (q7, .inl (cI, 6, .inl (fun _ => 0)))] := hD
  refine W.widen (k := 1) (n := 6) (by omega) (by omega) ?_
  refine va_putF (D := D) (ci := 2) (v := .ref q7) (ty := .array .int) (C := RX2) (T := TX2) (N := 6) hx hb hts (y_in 2 rfl) tyX2 tyX2_ok nmX2 hown hK hP hD hS 0 rfl rfl 0 (by decide) (hin (xe_wd_mem (n := 85) (u := .fieldLink RX2 9 "WrittenBench$Program" "length" "[I") (by decide +kernel))) (fun _ h9 => h9) rfl hinit rfl (by decide +kernel) rfl rfl (Nat.le_of_ble_eq_true rfl) dX2_init_9 (fun H locs hP hD hS => ?_)
  have hP : va_P D xCLs [(h0, .inr (2, [.ref q7, .null, .null, .null, .null, .null])), (q7, .inl (cI, 6, .inl (fun _ => 0)))] H := hP
  have hD : va_D A [(h0, .inr (2, [.ref q7, .null, .null, .null, .null, .null])), (q7, .inl (cI, 6, .inl (fun _ => 0)))] := hD
  refine lv_aload_n hx hb dX2_init_12 rfl (lv_at hl 0 rfl) ?_
  refine lv_sipush (v := 180) hx hb dX2_init_13 rfl ?_
  refine va_newa (atype := .int) (ty := .int) (a0 := (180, .inl (fun _ => 0))) hx hb (hin (xe_wd_mem (n := 117) (u := .arrayClass .int) (by decide +kernel))) rfl hK hP hD hS hA (fun _ => rfl) (by decide) rfl (by decide) (Nat.le_of_ble_eq_true rfl) (Nat.le_of_ble_eq_true rfl) dX2_init_16 (fun q16 cA H hK1 hP hD hS => ?_)
  obtain rfl := (y_cyI hK1).symm
  have hP : va_P D xCLs [(h0, .inr (2, [.ref q7, .null, .null, .null, .null, .null])), (q7, .inl (cI, 6, .inl (fun _ => 0))), (q16, .inl (cI, 180, .inl (fun _ => 0)))] H := hP
  have hD : va_D A [(h0, .inr (2, [.ref q7, .null, .null, .null, .null, .null])), (q7, .inl (cI, 6, .inl (fun _ => 0))), (q16, .inl (cI, 180, .inl (fun _ => 0)))] := hD
  refine W.widen (k := 2) (n := 186) (by omega) (by omega) ?_
  refine va_putF (D := D) (ci := 2) (v := .ref q16) (ty := .array .int) (C := RX2) (T := TX2) (N := 6) hx hb hts (y_in 2 rfl) tyX2 tyX2_ok nmX2 hown hK hP hD hS 0 rfl rfl 1 (by decide) (hin (xe_wd_mem (n := 89) (u := .fieldLink RX2 15 "WrittenBench$Program" "op" "[I") (by decide +kernel))) (fun _ h9 => h9) rfl hinit rfl (by decide +kernel) rfl rfl (Nat.le_of_ble_eq_true rfl) dX2_init_18 (fun H locs hP hD hS => ?_)
  have hP : va_P D xCLs [(h0, .inr (2, [.ref q7, .ref q16, .null, .null, .null, .null])), (q7, .inl (cI, 6, .inl (fun _ => 0))), (q16, .inl (cI, 180, .inl (fun _ => 0)))] H := hP
  have hD : va_D A [(h0, .inr (2, [.ref q7, .ref q16, .null, .null, .null, .null])), (q7, .inl (cI, 6, .inl (fun _ => 0))), (q16, .inl (cI, 180, .inl (fun _ => 0)))] := hD
  refine lv_aload_n hx hb dX2_init_21 rfl (lv_at hl 0 rfl) ?_
  refine lv_sipush (v := 180) hx hb dX2_init_22 rfl ?_
  refine va_newa (atype := .int) (ty := .int) (a0 := (180, .inl (fun _ => 0))) hx hb (hin (xe_wd_mem (n := 117) (u := .arrayClass .int) (by decide +kernel))) rfl hK hP hD hS hA (fun _ => rfl) (by decide) rfl (by decide) (Nat.le_of_ble_eq_true rfl) (Nat.le_of_ble_eq_true rfl) dX2_init_25 (fun q25 cA H hK1 hP hD hS => ?_)
  obtain rfl := (y_cyI hK1).symm
  have hP : va_P D xCLs [(h0, .inr (2, [.ref q7, .ref q16, .null, .null, .null, .null])), (q7, .inl (cI, 6, .inl (fun _ => 0))), (q16, .inl (cI, 180, .inl (fun _ => 0))), (q25, .inl (cI, 180, .inl (fun _ => 0)))] H := hP
  have hD : va_D A [(h0, .inr (2, [.ref q7, .ref q16, .null, .null, .null, .null])), (q7, .inl (cI, 6, .inl (fun _ => 0))), (q16, .inl (cI, 180, .inl (fun _ => 0))), (q25, .inl (cI, 180, .inl (fun _ => 0)))] := hD
  refine W.widen (k := 3) (n := 366) (by omega) (by omega) ?_
  refine va_putF (D := D) (ci := 2) (v := .ref q25) (ty := .array .int) (C := RX2) (T := TX2) (N := 6) hx hb hts (y_in 2 rfl) tyX2 tyX2_ok nmX2 hown hK hP hD hS 0 rfl rfl 2 (by decide) (hin (xe_wd_mem (n := 92) (u := .fieldLink RX2 18 "WrittenBench$Program" "a" "[I") (by decide +kernel))) (fun _ h9 => h9) rfl hinit rfl (by decide +kernel) rfl rfl (Nat.le_of_ble_eq_true rfl) dX2_init_27 (fun H locs hP hD hS => ?_)
  have hP : va_P D xCLs [(h0, .inr (2, [.ref q7, .ref q16, .ref q25, .null, .null, .null])), (q7, .inl (cI, 6, .inl (fun _ => 0))), (q16, .inl (cI, 180, .inl (fun _ => 0))), (q25, .inl (cI, 180, .inl (fun _ => 0)))] H := hP
  have hD : va_D A [(h0, .inr (2, [.ref q7, .ref q16, .ref q25, .null, .null, .null])), (q7, .inl (cI, 6, .inl (fun _ => 0))), (q16, .inl (cI, 180, .inl (fun _ => 0))), (q25, .inl (cI, 180, .inl (fun _ => 0)))] := hD
  refine lv_aload_n hx hb dX2_init_30 rfl (lv_at hl 0 rfl) ?_
  refine lv_sipush (v := 180) hx hb dX2_init_31 rfl ?_
  refine va_newa (atype := .int) (ty := .int) (a0 := (180, .inl (fun _ => 0))) hx hb (hin (xe_wd_mem (n := 117) (u := .arrayClass .int) (by decide +kernel))) rfl hK hP hD hS hA (fun _ => rfl) (by decide) rfl (by decide) (Nat.le_of_ble_eq_true rfl) (Nat.le_of_ble_eq_true rfl) dX2_init_34 (fun q34 cA H hK1 hP hD hS => ?_)
  obtain rfl := (y_cyI hK1).symm
  have hP : va_P D xCLs [(h0, .inr (2, [.ref q7, .ref q16, .ref q25, .null, .null, .null])), (q7, .inl (cI, 6, .inl (fun _ => 0))), (q16, .inl (cI, 180, .inl (fun _ => 0))), (q25, .inl (cI, 180, .inl (fun _ => 0))), (q34, .inl (cI, 180, .inl (fun _ => 0)))] H := hP
  have hD : va_D A [(h0, .inr (2, [.ref q7, .ref q16, .ref q25, .null, .null, .null])), (q7, .inl (cI, 6, .inl (fun _ => 0))), (q16, .inl (cI, 180, .inl (fun _ => 0))), (q25, .inl (cI, 180, .inl (fun _ => 0))), (q34, .inl (cI, 180, .inl (fun _ => 0)))] := hD
  refine W.widen (k := 4) (n := 546) (by omega) (by omega) ?_
  refine va_putF (D := D) (ci := 2) (v := .ref q34) (ty := .array .int) (C := RX2) (T := TX2) (N := 6) hx hb hts (y_in 2 rfl) tyX2 tyX2_ok nmX2 hown hK hP hD hS 0 rfl rfl 3 (by decide) (hin (xe_wd_mem (n := 95) (u := .fieldLink RX2 21 "WrittenBench$Program" "b" "[I") (by decide +kernel))) (fun _ h9 => h9) rfl hinit rfl (by decide +kernel) rfl rfl (Nat.le_of_ble_eq_true rfl) dX2_init_36 (fun H locs hP hD hS => ?_)
  have hP : va_P D xCLs [(h0, .inr (2, [.ref q7, .ref q16, .ref q25, .ref q34, .null, .null])), (q7, .inl (cI, 6, .inl (fun _ => 0))), (q16, .inl (cI, 180, .inl (fun _ => 0))), (q25, .inl (cI, 180, .inl (fun _ => 0))), (q34, .inl (cI, 180, .inl (fun _ => 0)))] H := hP
  have hD : va_D A [(h0, .inr (2, [.ref q7, .ref q16, .ref q25, .ref q34, .null, .null])), (q7, .inl (cI, 6, .inl (fun _ => 0))), (q16, .inl (cI, 180, .inl (fun _ => 0))), (q25, .inl (cI, 180, .inl (fun _ => 0))), (q34, .inl (cI, 180, .inl (fun _ => 0)))] := hD
  refine lv_aload_n hx hb dX2_init_39 rfl (lv_at hl 0 rfl) ?_
  refine lv_sipush (v := 180) hx hb dX2_init_40 rfl ?_
  refine va_newa (atype := .int) (ty := .int) (a0 := (180, .inl (fun _ => 0))) hx hb (hin (xe_wd_mem (n := 117) (u := .arrayClass .int) (by decide +kernel))) rfl hK hP hD hS hA (fun _ => rfl) (by decide) rfl (by decide) (Nat.le_of_ble_eq_true rfl) (Nat.le_of_ble_eq_true rfl) dX2_init_43 (fun q43 cA H hK1 hP hD hS => ?_)
  obtain rfl := (y_cyI hK1).symm
  have hP : va_P D xCLs [(h0, .inr (2, [.ref q7, .ref q16, .ref q25, .ref q34, .null, .null])), (q7, .inl (cI, 6, .inl (fun _ => 0))), (q16, .inl (cI, 180, .inl (fun _ => 0))), (q25, .inl (cI, 180, .inl (fun _ => 0))), (q34, .inl (cI, 180, .inl (fun _ => 0))), (q43, .inl (cI, 180, .inl (fun _ => 0)))] H := hP
  have hD : va_D A [(h0, .inr (2, [.ref q7, .ref q16, .ref q25, .ref q34, .null, .null])), (q7, .inl (cI, 6, .inl (fun _ => 0))), (q16, .inl (cI, 180, .inl (fun _ => 0))), (q25, .inl (cI, 180, .inl (fun _ => 0))), (q34, .inl (cI, 180, .inl (fun _ => 0))), (q43, .inl (cI, 180, .inl (fun _ => 0)))] := hD
  refine W.widen (k := 5) (n := 726) (by omega) (by omega) ?_
  refine va_putF (D := D) (ci := 2) (v := .ref q43) (ty := .array .int) (C := RX2) (T := TX2) (N := 6) hx hb hts (y_in 2 rfl) tyX2 tyX2_ok nmX2 hown hK hP hD hS 0 rfl rfl 4 (by decide) (hin (xe_wd_mem (n := 98) (u := .fieldLink RX2 24 "WrittenBench$Program" "c" "[I") (by decide +kernel))) (fun _ h9 => h9) rfl hinit rfl (by decide +kernel) rfl rfl (Nat.le_of_ble_eq_true rfl) dX2_init_45 (fun H locs hP hD hS => ?_)
  have hP : va_P D xCLs [(h0, .inr (2, [.ref q7, .ref q16, .ref q25, .ref q34, .ref q43, .null])), (q7, .inl (cI, 6, .inl (fun _ => 0))), (q16, .inl (cI, 180, .inl (fun _ => 0))), (q25, .inl (cI, 180, .inl (fun _ => 0))), (q34, .inl (cI, 180, .inl (fun _ => 0))), (q43, .inl (cI, 180, .inl (fun _ => 0)))] H := hP
  have hD : va_D A [(h0, .inr (2, [.ref q7, .ref q16, .ref q25, .ref q34, .ref q43, .null])), (q7, .inl (cI, 6, .inl (fun _ => 0))), (q16, .inl (cI, 180, .inl (fun _ => 0))), (q25, .inl (cI, 180, .inl (fun _ => 0))), (q34, .inl (cI, 180, .inl (fun _ => 0))), (q43, .inl (cI, 180, .inl (fun _ => 0)))] := hD
  refine lv_aload_n hx hb dX2_init_48 rfl (lv_at hl 0 rfl) ?_
  refine lv_sipush (v := 180) hx hb dX2_init_49 rfl ?_
  refine va_newa (atype := .int) (ty := .int) (a0 := (180, .inl (fun _ => 0))) hx hb (hin (xe_wd_mem (n := 117) (u := .arrayClass .int) (by decide +kernel))) rfl hK hP hD hS hA (fun _ => rfl) (by decide) rfl (by decide) (Nat.le_of_ble_eq_true rfl) (Nat.le_of_ble_eq_true rfl) dX2_init_52 (fun q52 cA H hK1 hP hD hS => ?_)
  obtain rfl := (y_cyI hK1).symm
  have hP : va_P D xCLs [(h0, .inr (2, [.ref q7, .ref q16, .ref q25, .ref q34, .ref q43, .null])), (q7, .inl (cI, 6, .inl (fun _ => 0))), (q16, .inl (cI, 180, .inl (fun _ => 0))), (q25, .inl (cI, 180, .inl (fun _ => 0))), (q34, .inl (cI, 180, .inl (fun _ => 0))), (q43, .inl (cI, 180, .inl (fun _ => 0))), (q52, .inl (cI, 180, .inl (fun _ => 0)))] H := hP
  have hD : va_D A [(h0, .inr (2, [.ref q7, .ref q16, .ref q25, .ref q34, .ref q43, .null])), (q7, .inl (cI, 6, .inl (fun _ => 0))), (q16, .inl (cI, 180, .inl (fun _ => 0))), (q25, .inl (cI, 180, .inl (fun _ => 0))), (q34, .inl (cI, 180, .inl (fun _ => 0))), (q43, .inl (cI, 180, .inl (fun _ => 0))), (q52, .inl (cI, 180, .inl (fun _ => 0)))] := hD
  refine W.widen (k := 6) (n := 906) (by omega) (by omega) ?_
  refine va_putF (D := D) (ci := 2) (v := .ref q52) (ty := .array .int) (C := RX2) (T := TX2) (N := 6) hx hb hts (y_in 2 rfl) tyX2 tyX2_ok nmX2 hown hK hP hD hS 0 rfl rfl 5 (by decide) (hin (xe_wd_mem (n := 101) (u := .fieldLink RX2 27 "WrittenBench$Program" "d" "[I") (by decide +kernel))) (fun _ h9 => h9) rfl hinit rfl (by decide +kernel) rfl rfl (Nat.le_of_ble_eq_true rfl) dX2_init_54 (fun H locs hP hD hS => ?_)
  have hP : va_P D xCLs [(h0, .inr (2, [.ref q7, .ref q16, .ref q25, .ref q34, .ref q43, .ref q52])), (q7, .inl (cI, 6, .inl (fun _ => 0))), (q16, .inl (cI, 180, .inl (fun _ => 0))), (q25, .inl (cI, 180, .inl (fun _ => 0))), (q34, .inl (cI, 180, .inl (fun _ => 0))), (q43, .inl (cI, 180, .inl (fun _ => 0))), (q52, .inl (cI, 180, .inl (fun _ => 0)))] H := hP
  have hD : va_D A [(h0, .inr (2, [.ref q7, .ref q16, .ref q25, .ref q34, .ref q43, .ref q52])), (q7, .inl (cI, 6, .inl (fun _ => 0))), (q16, .inl (cI, 180, .inl (fun _ => 0))), (q25, .inl (cI, 180, .inl (fun _ => 0))), (q34, .inl (cI, 180, .inl (fun _ => 0))), (q43, .inl (cI, 180, .inl (fun _ => 0))), (q52, .inl (cI, 180, .inl (fun _ => 0)))] := hD
  have hP9 := hP.sub (ws' := [(h0, .inr (2, [.ref ((fun k => [q7, q16, q25, q34, q43, q52].getD k 0) 0), .ref ((fun k => [q7, q16, q25, q34, q43, q52].getD k 0) 1), .ref ((fun k => [q7, q16, q25, q34, q43, q52].getD k 0) 2), .ref ((fun k => [q7, q16, q25, q34, q43, q52].getD k 0) 3), .ref ((fun k => [q7, q16, q25, q34, q43, q52].getD k 0) 4), .ref ((fun k => [q7, q16, q25, q34, q43, q52].getD k 0) 5)])), (((fun k => [q7, q16, q25, q34, q43, q52].getD k 0) 0), .inl (cI, 6, .inl (fun _ => 0))), (((fun k => [q7, q16, q25, q34, q43, q52].getD k 0) 1), .inl (cI, 180, .inl (fun _ => 0))), (((fun k => [q7, q16, q25, q34, q43, q52].getD k 0) 2), .inl (cI, 180, .inl (fun _ => 0))), (((fun k => [q7, q16, q25, q34, q43, q52].getD k 0) 3), .inl (cI, 180, .inl (fun _ => 0))), (((fun k => [q7, q16, q25, q34, q43, q52].getD k 0) 4), .inl (cI, 180, .inl (fun _ => 0))), (((fun k => [q7, q16, q25, q34, q43, q52].getD k 0) 5), .inl (cI, 180, .inl (fun _ => 0)))]) [0, 1, 2, 3, 4, 5, 6] rfl
  have hD9 := hD.sub (ws' := [(h0, .inr (2, [.ref ((fun k => [q7, q16, q25, q34, q43, q52].getD k 0) 0), .ref ((fun k => [q7, q16, q25, q34, q43, q52].getD k 0) 1), .ref ((fun k => [q7, q16, q25, q34, q43, q52].getD k 0) 2), .ref ((fun k => [q7, q16, q25, q34, q43, q52].getD k 0) 3), .ref ((fun k => [q7, q16, q25, q34, q43, q52].getD k 0) 4), .ref ((fun k => [q7, q16, q25, q34, q43, q52].getD k 0) 5)])), (((fun k => [q7, q16, q25, q34, q43, q52].getD k 0) 0), .inl (cI, 6, .inl (fun _ => 0))), (((fun k => [q7, q16, q25, q34, q43, q52].getD k 0) 1), .inl (cI, 180, .inl (fun _ => 0))), (((fun k => [q7, q16, q25, q34, q43, q52].getD k 0) 2), .inl (cI, 180, .inl (fun _ => 0))), (((fun k => [q7, q16, q25, q34, q43, q52].getD k 0) 3), .inl (cI, 180, .inl (fun _ => 0))), (((fun k => [q7, q16, q25, q34, q43, q52].getD k 0) 4), .inl (cI, 180, .inl (fun _ => 0))), (((fun k => [q7, q16, q25, q34, q43, q52].getD k 0) 5), .inl (cI, 180, .inl (fun _ => 0)))]) [0, 1, 2, 3, 4, 5, 6] (by decide +kernel) rfl
  exact W.vret hx hb hr (fun t ht hW => ⟨⟨(fun k => [q7, q16, q25, q34, q43, q52].getD k 0), rfl, trivial, by rw [ht]; exact hP9, hD9⟩, hS.F ht⟩) hS.2.2 dX2_init_57
set_option maxHeartbeats 8000000 in
set_option maxRecDepth 100000 in
theorem kX3_init (l : Launch) (D : va_G) (cI cZ : ClassId) (h0 a1 a2 sz : Nat) : Met l yX3_init (y_ws yX3_init cX3_init 3) ({ frames := 1, cells := 4, slots := 80, locals := 12 }) (y_Pc D cI cZ [(h0, .inr (3, [.null, .null, .int 0, .null, .null, .int 0, .int 0, .int 0, .null, .int 0, .int 0, .int 0, .int 0, .int 0, .null, .int 0, .int 0, .int 0]))] [.ref h0, .ref a1, .ref a2] sz) (y_Q D (va_A [(h0, .inr (3, [.null, .null, .int 0, .null, .null, .int 0, .int 0, .int 0, .null, .int 0, .int 0, .int 0, .int 0, .int 0, .null, .int 0, .int 0, .int 0]))] sz) (fun u => [(h0, .inr (3, [.ref a1, .ref a2, .int 0, .ref (u 0), .ref (u 1), .int 0, .int 0, .int 0, .ref (u 2), .int 0, .int 0, .int 0, .int 0, .int 0, .ref (u 3), .int 0, .int (-1), .int 0])), ((u 0), .inl (cI, 12, .inl (fun _ => 0))), ((u 1), .inl (cI, 12, .inl (fun _ => 0))), ((u 2), .inl (cI, 16, .inl (fun _ => 0))), ((u 3), .inl (cI, 40, .inl (fun _ => 0)))])) 4 80 (va_A [(h0, .inr (3, [.null, .null, .int 0, .null, .null, .int 0, .int 0, .int 0, .null, .int 0, .int 0, .int 0, .int 0, .int 0, .null, .int 0, .int 0, .int 0]))] sz) := by
  refine Met.ofW (cc := cX3_init) (maxL := 3) (ret := none) (by decide) rfl ?_
  intro p e s m args below meth c s₁ B hml hv
  obtain ⟨rfl, hsz, hP, hK, hD0, hns⟩ := hv
  have hx := B.exec
  have hb := B.bytes
  have hr := B.returns
  have hts := atoms_spec (ws := y_ws yX3_init cX3_init 3) B.pre
  have hin : ∀ {u : Cond}, u ∈ xWS → u.before _ s = true := fun hu => hts _ (List.mem_cons_of_mem _ hu)
  have hown : s.vm.findClass RX3 = some m.cls := findClass_of_methodNamed B.named
  have hlocks := B.notSynchronized
  have hinit : meth.name = "<init>" := (name_of_methodNamed B.named B.method).1
  subst hsz
  have hD := hD0.self (sz := s.heap.size)
  generalize hAe : va_A [(h0, .inr (3, [.null, .null, .int 0, .null, .null, .int 0, .int 0, .int 0, .null, .int 0, .int 0, .int 0, .int 0, .int 0, .null, .int 0, .int 0, .int 0]))] s.heap.size = A at hD ⊢
  have hA : ∀ q : Nat, s.heap.size ≤ q → A q := fun q h => by rw [← hAe]; exact Or.inr h
  have hS : va_S A s.heap s.heap [] := va_S.rf
  have hP : va_P D xCLs [(h0, .inr (3, [.null, .null, .int 0, .null, .null, .int 0, .int 0, .int 0, .null, .int 0, .int 0, .int 0, .int 0, .int 0, .null, .int 0, .int 0, .int 0]))] s.heap := hP
  have hl := lv_entry ([.ref h0, .ref a1, .ref a2]) (n := 3) (Nat.le_of_ble_eq_true rfl)
  rw [lg_entry_eq]
  generalize (lg_sl ([.ref h0, .ref a1, .ref a2]) ++ List.replicate (3 - (lg_sl ([.ref h0, .ref a1, .ref a2])).length) Slot.unset).toArray = ls at hl ⊢
  have hl : lv_has ls 3 [(0, .ref h0), (1, .ref a1), (2, .ref a2)] := hl
  refine lv_aload_n hx hb dX3_init_0 rfl (lv_at hl 0 rfl) ?_
  refine W.objInit hx hb hown (hin (xe_wd_mem (n := 123) (u := .methodLink RX3 3 objectInit) (by decide +kernel))) (hin (xe_wd_mem (n := 77) (u := .instanceMethod objectInit) (by decide +kernel))) (hin (xe_wd_mem (n := 78) (u := .code objectInit ⟨#[0xb1]⟩ 1 none) (by decide +kernel))) rfl (by rw [hml]; exact hl.1) rfl dX3_init_1 (Nat.le_of_ble_eq_true rfl) (Nat.le_of_ble_eq_true rfl) ?_
  refine W.eq (g2 := F0 m 4 ls []) rfl ?_
  refine lv_aload_n hx hb dX3_init_4 rfl (lv_at hl 0 rfl) ?_
  refine lv_bipush (v := 12) hx hb dX3_init_5 rfl ?_
  refine va_newa (atype := .int) (ty := .int) (a0 := (12, .inl (fun _ => 0))) hx hb (hin (xe_wd_mem (n := 117) (u := .arrayClass .int) (by decide +kernel))) rfl hK hP hD hS hA (fun _ => rfl) (by decide) rfl (by decide) (Nat.le_of_ble_eq_true rfl) (Nat.le_of_ble_eq_true rfl) dX3_init_7 (fun q7 cA H hK1 hP hD hS => ?_)
  obtain rfl := (y_cyI hK1).symm
  have hP : va_P D xCLs [(h0, .inr (3, [.null, .null, .int 0, .null, .null, .int 0, .int 0, .int 0, .null, .int 0, .int 0, .int 0, .int 0, .int 0, .null, .int 0, .int 0, .int 0])), (q7, .inl (cI, 12, .inl (fun _ => 0)))] H := hP
  have hD : va_D A [(h0, .inr (3, [.null, .null, .int 0, .null, .null, .int 0, .int 0, .int 0, .null, .int 0, .int 0, .int 0, .int 0, .int 0, .null, .int 0, .int 0, .int 0])), (q7, .inl (cI, 12, .inl (fun _ => 0)))] := hD
  refine W.widen (k := 1) (n := 12) (by omega) (by omega) ?_
  refine va_putF (D := D) (ci := 3) (v := .ref q7) (ty := .array .int) (C := RX3) (T := TX3) (N := 18) hx hb hts (y_in 3 rfl) tyX3 tyX3_ok nmX3 hown hK hP hD hS 0 rfl rfl 3 (by decide) (hin (xe_wd_mem (n := 127) (u := .fieldLink RX3 9 "WrittenBench$Run" "openFunction" "[I") (by decide +kernel))) (fun _ h9 => h9) rfl hinit rfl (by decide +kernel) rfl rfl (Nat.le_of_ble_eq_true rfl) dX3_init_9 (fun H locs hP hD hS => ?_)
  have hP : va_P D xCLs [(h0, .inr (3, [.null, .null, .int 0, .ref q7, .null, .int 0, .int 0, .int 0, .null, .int 0, .int 0, .int 0, .int 0, .int 0, .null, .int 0, .int 0, .int 0])), (q7, .inl (cI, 12, .inl (fun _ => 0)))] H := hP
  have hD : va_D A [(h0, .inr (3, [.null, .null, .int 0, .ref q7, .null, .int 0, .int 0, .int 0, .null, .int 0, .int 0, .int 0, .int 0, .int 0, .null, .int 0, .int 0, .int 0])), (q7, .inl (cI, 12, .inl (fun _ => 0)))] := hD
  refine lv_aload_n hx hb dX3_init_12 rfl (lv_at hl 0 rfl) ?_
  refine lv_bipush (v := 12) hx hb dX3_init_13 rfl ?_
  refine va_newa (atype := .int) (ty := .int) (a0 := (12, .inl (fun _ => 0))) hx hb (hin (xe_wd_mem (n := 117) (u := .arrayClass .int) (by decide +kernel))) rfl hK hP hD hS hA (fun _ => rfl) (by decide) rfl (by decide) (Nat.le_of_ble_eq_true rfl) (Nat.le_of_ble_eq_true rfl) dX3_init_15 (fun q15 cA H hK1 hP hD hS => ?_)
  obtain rfl := (y_cyI hK1).symm
  have hP : va_P D xCLs [(h0, .inr (3, [.null, .null, .int 0, .ref q7, .null, .int 0, .int 0, .int 0, .null, .int 0, .int 0, .int 0, .int 0, .int 0, .null, .int 0, .int 0, .int 0])), (q7, .inl (cI, 12, .inl (fun _ => 0))), (q15, .inl (cI, 12, .inl (fun _ => 0)))] H := hP
  have hD : va_D A [(h0, .inr (3, [.null, .null, .int 0, .ref q7, .null, .int 0, .int 0, .int 0, .null, .int 0, .int 0, .int 0, .int 0, .int 0, .null, .int 0, .int 0, .int 0])), (q7, .inl (cI, 12, .inl (fun _ => 0))), (q15, .inl (cI, 12, .inl (fun _ => 0)))] := hD
  refine W.widen (k := 2) (n := 24) (by omega) (by omega) ?_
  refine va_putF (D := D) (ci := 3) (v := .ref q15) (ty := .array .int) (C := RX3) (T := TX3) (N := 18) hx hb hts (y_in 3 rfl) tyX3 tyX3_ok nmX3 hown hK hP hD hS 0 rfl rfl 4 (by decide) (hin (xe_wd_mem (n := 128) (u := .fieldLink RX3 15 "WrittenBench$Run" "openPlace" "[I") (by decide +kernel))) (fun _ h9 => h9) rfl hinit rfl (by decide +kernel) rfl rfl (Nat.le_of_ble_eq_true rfl) dX3_init_17 (fun H locs hP hD hS => ?_)
  have hP : va_P D xCLs [(h0, .inr (3, [.null, .null, .int 0, .ref q7, .ref q15, .int 0, .int 0, .int 0, .null, .int 0, .int 0, .int 0, .int 0, .int 0, .null, .int 0, .int 0, .int 0])), (q7, .inl (cI, 12, .inl (fun _ => 0))), (q15, .inl (cI, 12, .inl (fun _ => 0)))] H := hP
  have hD : va_D A [(h0, .inr (3, [.null, .null, .int 0, .ref q7, .ref q15, .int 0, .int 0, .int 0, .null, .int 0, .int 0, .int 0, .int 0, .int 0, .null, .int 0, .int 0, .int 0])), (q7, .inl (cI, 12, .inl (fun _ => 0))), (q15, .inl (cI, 12, .inl (fun _ => 0)))] := hD
  refine lv_aload_n hx hb dX3_init_20 rfl (lv_at hl 0 rfl) ?_
  refine lv_bipush (v := 16) hx hb dX3_init_21 rfl ?_
  refine va_newa (atype := .int) (ty := .int) (a0 := (16, .inl (fun _ => 0))) hx hb (hin (xe_wd_mem (n := 117) (u := .arrayClass .int) (by decide +kernel))) rfl hK hP hD hS hA (fun _ => rfl) (by decide) rfl (by decide) (Nat.le_of_ble_eq_true rfl) (Nat.le_of_ble_eq_true rfl) dX3_init_23 (fun q23 cA H hK1 hP hD hS => ?_)
  obtain rfl := (y_cyI hK1).symm
  have hP : va_P D xCLs [(h0, .inr (3, [.null, .null, .int 0, .ref q7, .ref q15, .int 0, .int 0, .int 0, .null, .int 0, .int 0, .int 0, .int 0, .int 0, .null, .int 0, .int 0, .int 0])), (q7, .inl (cI, 12, .inl (fun _ => 0))), (q15, .inl (cI, 12, .inl (fun _ => 0))), (q23, .inl (cI, 16, .inl (fun _ => 0)))] H := hP
  have hD : va_D A [(h0, .inr (3, [.null, .null, .int 0, .ref q7, .ref q15, .int 0, .int 0, .int 0, .null, .int 0, .int 0, .int 0, .int 0, .int 0, .null, .int 0, .int 0, .int 0])), (q7, .inl (cI, 12, .inl (fun _ => 0))), (q15, .inl (cI, 12, .inl (fun _ => 0))), (q23, .inl (cI, 16, .inl (fun _ => 0)))] := hD
  refine W.widen (k := 3) (n := 40) (by omega) (by omega) ?_
  refine va_putF (D := D) (ci := 3) (v := .ref q23) (ty := .array .int) (C := RX3) (T := TX3) (N := 18) hx hb hts (y_in 3 rfl) tyX3 tyX3_ok nmX3 hown hK hP hD hS 0 rfl rfl 8 (by decide) (hin (xe_wd_mem (n := 132) (u := .fieldLink RX3 18 "WrittenBench$Run" "number" "[I") (by decide +kernel))) (fun _ h9 => h9) rfl hinit rfl (by decide +kernel) rfl rfl (Nat.le_of_ble_eq_true rfl) dX3_init_25 (fun H locs hP hD hS => ?_)
  have hP : va_P D xCLs [(h0, .inr (3, [.null, .null, .int 0, .ref q7, .ref q15, .int 0, .int 0, .int 0, .ref q23, .int 0, .int 0, .int 0, .int 0, .int 0, .null, .int 0, .int 0, .int 0])), (q7, .inl (cI, 12, .inl (fun _ => 0))), (q15, .inl (cI, 12, .inl (fun _ => 0))), (q23, .inl (cI, 16, .inl (fun _ => 0)))] H := hP
  have hD : va_D A [(h0, .inr (3, [.null, .null, .int 0, .ref q7, .ref q15, .int 0, .int 0, .int 0, .ref q23, .int 0, .int 0, .int 0, .int 0, .int 0, .null, .int 0, .int 0, .int 0])), (q7, .inl (cI, 12, .inl (fun _ => 0))), (q15, .inl (cI, 12, .inl (fun _ => 0))), (q23, .inl (cI, 16, .inl (fun _ => 0)))] := hD
  refine lv_aload_n hx hb dX3_init_28 rfl (lv_at hl 0 rfl) ?_
  refine lv_bipush (v := 40) hx hb dX3_init_29 rfl ?_
  refine va_newa (atype := .int) (ty := .int) (a0 := (40, .inl (fun _ => 0))) hx hb (hin (xe_wd_mem (n := 117) (u := .arrayClass .int) (by decide +kernel))) rfl hK hP hD hS hA (fun _ => rfl) (by decide) rfl (by decide) (Nat.le_of_ble_eq_true rfl) (Nat.le_of_ble_eq_true rfl) dX3_init_31 (fun q31 cA H hK1 hP hD hS => ?_)
  obtain rfl := (y_cyI hK1).symm
  have hP : va_P D xCLs [(h0, .inr (3, [.null, .null, .int 0, .ref q7, .ref q15, .int 0, .int 0, .int 0, .ref q23, .int 0, .int 0, .int 0, .int 0, .int 0, .null, .int 0, .int 0, .int 0])), (q7, .inl (cI, 12, .inl (fun _ => 0))), (q15, .inl (cI, 12, .inl (fun _ => 0))), (q23, .inl (cI, 16, .inl (fun _ => 0))), (q31, .inl (cI, 40, .inl (fun _ => 0)))] H := hP
  have hD : va_D A [(h0, .inr (3, [.null, .null, .int 0, .ref q7, .ref q15, .int 0, .int 0, .int 0, .ref q23, .int 0, .int 0, .int 0, .int 0, .int 0, .null, .int 0, .int 0, .int 0])), (q7, .inl (cI, 12, .inl (fun _ => 0))), (q15, .inl (cI, 12, .inl (fun _ => 0))), (q23, .inl (cI, 16, .inl (fun _ => 0))), (q31, .inl (cI, 40, .inl (fun _ => 0)))] := hD
  refine W.widen (k := 4) (n := 80) (by omega) (by omega) ?_
  refine va_putF (D := D) (ci := 3) (v := .ref q31) (ty := .array .int) (C := RX3) (T := TX3) (N := 18) hx hb hts (y_in 3 rfl) tyX3 tyX3_ok nmX3 hown hK hP hD hS 0 rfl rfl 14 (by decide) (hin (xe_wd_mem (n := 144) (u := .fieldLink RX3 21 "WrittenBench$Run" "kept" "[I") (by decide +kernel))) (fun _ h9 => h9) rfl hinit rfl (by decide +kernel) rfl rfl (Nat.le_of_ble_eq_true rfl) dX3_init_33 (fun H locs hP hD hS => ?_)
  have hP : va_P D xCLs [(h0, .inr (3, [.null, .null, .int 0, .ref q7, .ref q15, .int 0, .int 0, .int 0, .ref q23, .int 0, .int 0, .int 0, .int 0, .int 0, .ref q31, .int 0, .int 0, .int 0])), (q7, .inl (cI, 12, .inl (fun _ => 0))), (q15, .inl (cI, 12, .inl (fun _ => 0))), (q23, .inl (cI, 16, .inl (fun _ => 0))), (q31, .inl (cI, 40, .inl (fun _ => 0)))] H := hP
  have hD : va_D A [(h0, .inr (3, [.null, .null, .int 0, .ref q7, .ref q15, .int 0, .int 0, .int 0, .ref q23, .int 0, .int 0, .int 0, .int 0, .int 0, .ref q31, .int 0, .int 0, .int 0])), (q7, .inl (cI, 12, .inl (fun _ => 0))), (q15, .inl (cI, 12, .inl (fun _ => 0))), (q23, .inl (cI, 16, .inl (fun _ => 0))), (q31, .inl (cI, 40, .inl (fun _ => 0)))] := hD
  refine lv_aload_n hx hb dX3_init_36 rfl (lv_at hl 0 rfl) ?_
  refine lv_iconst (v := (-1)) hx hb dX3_init_37 rfl ?_
  refine va_put (D := D) (ci := 3) (v := .int (-1)) (ty := .int) (C := RX3) (T := TX3) (N := 18) hx hb hts (y_in 3 rfl) tyX3 tyX3_ok nmX3 hown hK hP hD hS 0 rfl rfl 16 (by decide) (hin (xe_wd_mem (n := 148) (u := .fieldLink RX3 24 "WrittenBench$Run" "watched" "I") (by decide +kernel))) (fun _ h9 => h9) rfl (by decide +kernel) rfl rfl (Nat.le_of_ble_eq_true rfl) dX3_init_38 (fun H locs hP hD hS => ?_)
  have hP : va_P D xCLs [(h0, .inr (3, [.null, .null, .int 0, .ref q7, .ref q15, .int 0, .int 0, .int 0, .ref q23, .int 0, .int 0, .int 0, .int 0, .int 0, .ref q31, .int 0, .int (-1), .int 0])), (q7, .inl (cI, 12, .inl (fun _ => 0))), (q15, .inl (cI, 12, .inl (fun _ => 0))), (q23, .inl (cI, 16, .inl (fun _ => 0))), (q31, .inl (cI, 40, .inl (fun _ => 0)))] H := hP
  have hD : va_D A [(h0, .inr (3, [.null, .null, .int 0, .ref q7, .ref q15, .int 0, .int 0, .int 0, .ref q23, .int 0, .int 0, .int 0, .int 0, .int 0, .ref q31, .int 0, .int (-1), .int 0])), (q7, .inl (cI, 12, .inl (fun _ => 0))), (q15, .inl (cI, 12, .inl (fun _ => 0))), (q23, .inl (cI, 16, .inl (fun _ => 0))), (q31, .inl (cI, 40, .inl (fun _ => 0)))] := hD
  refine lv_aload_n hx hb dX3_init_41 rfl (lv_at hl 0 rfl) ?_
  refine lv_aload_n hx hb dX3_init_42 rfl (lv_at hl 1 rfl) ?_
  refine va_putF (D := D) (ci := 3) (v := .ref a1) (ty := .object "WrittenBench$Program") (C := RX3) (T := TX3) (N := 18) hx hb hts (y_in 3 rfl) tyX3 tyX3_ok nmX3 hown hK hP hD hS 0 rfl rfl 0 (by decide) (hin (xe_wd_mem (n := 124) (u := .fieldLink RX3 28 "WrittenBench$Run" "program" "LWrittenBench$Program;") (by decide +kernel))) (fun _ h9 => h9) rfl hinit rfl (by decide +kernel) rfl rfl (Nat.le_of_ble_eq_true rfl) dX3_init_43 (fun H locs hP hD hS => ?_)
  have hP : va_P D xCLs [(h0, .inr (3, [.ref a1, .null, .int 0, .ref q7, .ref q15, .int 0, .int 0, .int 0, .ref q23, .int 0, .int 0, .int 0, .int 0, .int 0, .ref q31, .int 0, .int (-1), .int 0])), (q7, .inl (cI, 12, .inl (fun _ => 0))), (q15, .inl (cI, 12, .inl (fun _ => 0))), (q23, .inl (cI, 16, .inl (fun _ => 0))), (q31, .inl (cI, 40, .inl (fun _ => 0)))] H := hP
  have hD : va_D A [(h0, .inr (3, [.ref a1, .null, .int 0, .ref q7, .ref q15, .int 0, .int 0, .int 0, .ref q23, .int 0, .int 0, .int 0, .int 0, .int 0, .ref q31, .int 0, .int (-1), .int 0])), (q7, .inl (cI, 12, .inl (fun _ => 0))), (q15, .inl (cI, 12, .inl (fun _ => 0))), (q23, .inl (cI, 16, .inl (fun _ => 0))), (q31, .inl (cI, 40, .inl (fun _ => 0)))] := hD
  refine lv_aload_n hx hb dX3_init_46 rfl (lv_at hl 0 rfl) ?_
  refine lv_aload_n hx hb dX3_init_47 rfl (lv_at hl 2 rfl) ?_
  refine va_putF (D := D) (ci := 3) (v := .ref a2) (ty := .array .int) (C := RX3) (T := TX3) (N := 18) hx hb hts (y_in 3 rfl) tyX3 tyX3_ok nmX3 hown hK hP hD hS 0 rfl rfl 1 (by decide) (hin (xe_wd_mem (n := 125) (u := .fieldLink RX3 32 "WrittenBench$Run" "input" "[I") (by decide +kernel))) (fun _ h9 => h9) rfl hinit rfl (by decide +kernel) rfl rfl (Nat.le_of_ble_eq_true rfl) dX3_init_48 (fun H locs hP hD hS => ?_)
  have hP : va_P D xCLs [(h0, .inr (3, [.ref a1, .ref a2, .int 0, .ref q7, .ref q15, .int 0, .int 0, .int 0, .ref q23, .int 0, .int 0, .int 0, .int 0, .int 0, .ref q31, .int 0, .int (-1), .int 0])), (q7, .inl (cI, 12, .inl (fun _ => 0))), (q15, .inl (cI, 12, .inl (fun _ => 0))), (q23, .inl (cI, 16, .inl (fun _ => 0))), (q31, .inl (cI, 40, .inl (fun _ => 0)))] H := hP
  have hD : va_D A [(h0, .inr (3, [.ref a1, .ref a2, .int 0, .ref q7, .ref q15, .int 0, .int 0, .int 0, .ref q23, .int 0, .int 0, .int 0, .int 0, .int 0, .ref q31, .int 0, .int (-1), .int 0])), (q7, .inl (cI, 12, .inl (fun _ => 0))), (q15, .inl (cI, 12, .inl (fun _ => 0))), (q23, .inl (cI, 16, .inl (fun _ => 0))), (q31, .inl (cI, 40, .inl (fun _ => 0)))] := hD
  have hP9 := hP.sub (ws' := [(h0, .inr (3, [.ref a1, .ref a2, .int 0, .ref ((fun k => [q7, q15, q23, q31].getD k 0) 0), .ref ((fun k => [q7, q15, q23, q31].getD k 0) 1), .int 0, .int 0, .int 0, .ref ((fun k => [q7, q15, q23, q31].getD k 0) 2), .int 0, .int 0, .int 0, .int 0, .int 0, .ref ((fun k => [q7, q15, q23, q31].getD k 0) 3), .int 0, .int (-1), .int 0])), (((fun k => [q7, q15, q23, q31].getD k 0) 0), .inl (cI, 12, .inl (fun _ => 0))), (((fun k => [q7, q15, q23, q31].getD k 0) 1), .inl (cI, 12, .inl (fun _ => 0))), (((fun k => [q7, q15, q23, q31].getD k 0) 2), .inl (cI, 16, .inl (fun _ => 0))), (((fun k => [q7, q15, q23, q31].getD k 0) 3), .inl (cI, 40, .inl (fun _ => 0)))]) [0, 1, 2, 3, 4] rfl
  have hD9 := hD.sub (ws' := [(h0, .inr (3, [.ref a1, .ref a2, .int 0, .ref ((fun k => [q7, q15, q23, q31].getD k 0) 0), .ref ((fun k => [q7, q15, q23, q31].getD k 0) 1), .int 0, .int 0, .int 0, .ref ((fun k => [q7, q15, q23, q31].getD k 0) 2), .int 0, .int 0, .int 0, .int 0, .int 0, .ref ((fun k => [q7, q15, q23, q31].getD k 0) 3), .int 0, .int (-1), .int 0])), (((fun k => [q7, q15, q23, q31].getD k 0) 0), .inl (cI, 12, .inl (fun _ => 0))), (((fun k => [q7, q15, q23, q31].getD k 0) 1), .inl (cI, 12, .inl (fun _ => 0))), (((fun k => [q7, q15, q23, q31].getD k 0) 2), .inl (cI, 16, .inl (fun _ => 0))), (((fun k => [q7, q15, q23, q31].getD k 0) 3), .inl (cI, 40, .inl (fun _ => 0)))]) [0, 1, 2, 3, 4] (by decide +kernel) rfl
  exact W.vret hx hb hr (fun t ht hW => ⟨⟨(fun k => [q7, q15, q23, q31].getD k 0), rfl, trivial, by rw [ht]; exact hP9, hD9⟩, hS.F ht⟩) hS.2.2 dX3_init_51
set_option maxHeartbeats 8000000 in
set_option maxRecDepth 100000 in
theorem kX0_init (l : Launch) (D : va_G) (cI cZ : ClassId) (h0 a1 sz : Nat) : Met l yX0_init (y_ws yX0_init cX0_init 2) ({ frames := 1, cells := 9, slots := 594, locals := 12 }) (y_Pc D cI cZ [(h0, .inr (0, [.null, .null, .null, .null, .int 0, .int 0, .int 0, .null, .null, .null, .null, .null, .null, .int 0]))] [.ref h0, .ref a1] sz) (y_Q D (va_A [(h0, .inr (0, [.null, .null, .null, .null, .int 0, .int 0, .int 0, .null, .null, .null, .null, .null, .null, .int 0]))] sz) (fun u => [(h0, .inr (0, [.ref a1, .ref (u 0), .ref (u 1), .ref (u 2), .int 0, .int 0, .int 0, .ref (u 3), .ref (u 4), .ref (u 5), .ref (u 6), .ref (u 7), .ref (u 8), .int 0])), ((u 0), .inl (cI, 186, .inl (fun _ => 0))), ((u 1), .inl (cI, 186, .inl (fun _ => 0))), ((u 2), .inl (cZ, 186, .inl (fun _ => 0))), ((u 3), .inl (cI, 6, .inl (fun _ => 0))), ((u 4), .inl (cI, 6, .inl (fun _ => 0))), ((u 5), .inl (cI, 6, .inl (fun _ => 0))), ((u 6), .inl (cI, 6, .inl (fun _ => 0))), ((u 7), .inl (cI, 6, .inl (fun _ => 0))), ((u 8), .inl (cI, 6, .inl (fun _ => 0)))])) 9 594 (va_A [(h0, .inr (0, [.null, .null, .null, .null, .int 0, .int 0, .int 0, .null, .null, .null, .null, .null, .null, .int 0]))] sz) := by
  refine Met.ofW (cc := cX0_init) (maxL := 2) (ret := none) (by decide) rfl ?_
  intro p e s m args below meth c s₁ B hml hv
  obtain ⟨rfl, hsz, hP, hK, hD0, hns⟩ := hv
  have hx := B.exec
  have hb := B.bytes
  have hr := B.returns
  have hts := atoms_spec (ws := y_ws yX0_init cX0_init 2) B.pre
  have hin : ∀ {u : Cond}, u ∈ xWS → u.before _ s = true := fun hu => hts _ (List.mem_cons_of_mem _ hu)
  have hown : s.vm.findClass RX0 = some m.cls := findClass_of_methodNamed B.named
  have hlocks := B.notSynchronized
  have hinit : meth.name = "<init>" := (name_of_methodNamed B.named B.method).1
  subst hsz
  have hD := hD0.self (sz := s.heap.size)
  generalize hAe : va_A [(h0, .inr (0, [.null, .null, .null, .null, .int 0, .int 0, .int 0, .null, .null, .null, .null, .null, .null, .int 0]))] s.heap.size = A at hD ⊢
  have hA : ∀ q : Nat, s.heap.size ≤ q → A q := fun q h => by rw [← hAe]; exact Or.inr h
  have hS : va_S A s.heap s.heap [] := va_S.rf
  have hP : va_P D xCLs [(h0, .inr (0, [.null, .null, .null, .null, .int 0, .int 0, .int 0, .null, .null, .null, .null, .null, .null, .int 0]))] s.heap := hP
  have hl := lv_entry ([.ref h0, .ref a1]) (n := 2) (Nat.le_of_ble_eq_true rfl)
  rw [lg_entry_eq]
  generalize (lg_sl ([.ref h0, .ref a1]) ++ List.replicate (2 - (lg_sl ([.ref h0, .ref a1])).length) Slot.unset).toArray = ls at hl ⊢
  have hl : lv_has ls 2 [(0, .ref h0), (1, .ref a1)] := hl
  refine lv_aload_n hx hb dX0_init_0 rfl (lv_at hl 0 rfl) ?_
  refine W.objInit hx hb hown (hin (xe_wd_mem (n := 194) (u := .methodLink RX0 3 objectInit) (by decide +kernel))) (hin (xe_wd_mem (n := 77) (u := .instanceMethod objectInit) (by decide +kernel))) (hin (xe_wd_mem (n := 78) (u := .code objectInit ⟨#[0xb1]⟩ 1 none) (by decide +kernel))) rfl (by rw [hml]; exact hl.1) rfl dX0_init_1 (Nat.le_of_ble_eq_true rfl) (Nat.le_of_ble_eq_true rfl) ?_
  refine W.eq (g2 := F0 m 4 ls []) rfl ?_
  refine lv_aload_n hx hb dX0_init_4 rfl (lv_at hl 0 rfl) ?_
  refine lv_sipush (v := 186) hx hb dX0_init_5 rfl ?_
  refine va_newa (atype := .int) (ty := .int) (a0 := (186, .inl (fun _ => 0))) hx hb (hin (xe_wd_mem (n := 117) (u := .arrayClass .int) (by decide +kernel))) rfl hK hP hD hS hA (fun _ => rfl) (by decide) rfl (by decide) (Nat.le_of_ble_eq_true rfl) (Nat.le_of_ble_eq_true rfl) dX0_init_8 (fun q8 cA H hK1 hP hD hS => ?_)
  obtain rfl := (y_cyI hK1).symm
  have hP : va_P D xCLs [(h0, .inr (0, [.null, .null, .null, .null, .int 0, .int 0, .int 0, .null, .null, .null, .null, .null, .null, .int 0])), (q8, .inl (cI, 186, .inl (fun _ => 0)))] H := hP
  have hD : va_D A [(h0, .inr (0, [.null, .null, .null, .null, .int 0, .int 0, .int 0, .null, .null, .null, .null, .null, .null, .int 0])), (q8, .inl (cI, 186, .inl (fun _ => 0)))] := hD
  refine W.widen (k := 1) (n := 186) (by omega) (by omega) ?_
  refine va_putF (D := D) (ci := 0) (v := .ref q8) (ty := .array .int) (C := RX0) (T := TX0) (N := 14) hx hb hts (y_in 0 rfl) tyX0 tyX0_ok nmX0 hown hK hP hD hS 0 rfl rfl 1 (by decide) (hin (xe_wd_mem (n := 196) (u := .fieldLink RX0 11 "WrittenBench$Flow" "written" "[I") (by decide +kernel))) (fun _ h9 => h9) rfl hinit rfl (by decide +kernel) rfl rfl (Nat.le_of_ble_eq_true rfl) dX0_init_10 (fun H locs hP hD hS => ?_)
  have hP : va_P D xCLs [(h0, .inr (0, [.null, .ref q8, .null, .null, .int 0, .int 0, .int 0, .null, .null, .null, .null, .null, .null, .int 0])), (q8, .inl (cI, 186, .inl (fun _ => 0)))] H := hP
  have hD : va_D A [(h0, .inr (0, [.null, .ref q8, .null, .null, .int 0, .int 0, .int 0, .null, .null, .null, .null, .null, .null, .int 0])), (q8, .inl (cI, 186, .inl (fun _ => 0)))] := hD
  refine lv_aload_n hx hb dX0_init_13 rfl (lv_at hl 0 rfl) ?_
  refine lv_sipush (v := 186) hx hb dX0_init_14 rfl ?_
  refine va_newa (atype := .int) (ty := .int) (a0 := (186, .inl (fun _ => 0))) hx hb (hin (xe_wd_mem (n := 117) (u := .arrayClass .int) (by decide +kernel))) rfl hK hP hD hS hA (fun _ => rfl) (by decide) rfl (by decide) (Nat.le_of_ble_eq_true rfl) (Nat.le_of_ble_eq_true rfl) dX0_init_17 (fun q17 cA H hK1 hP hD hS => ?_)
  obtain rfl := (y_cyI hK1).symm
  have hP : va_P D xCLs [(h0, .inr (0, [.null, .ref q8, .null, .null, .int 0, .int 0, .int 0, .null, .null, .null, .null, .null, .null, .int 0])), (q8, .inl (cI, 186, .inl (fun _ => 0))), (q17, .inl (cI, 186, .inl (fun _ => 0)))] H := hP
  have hD : va_D A [(h0, .inr (0, [.null, .ref q8, .null, .null, .int 0, .int 0, .int 0, .null, .null, .null, .null, .null, .null, .int 0])), (q8, .inl (cI, 186, .inl (fun _ => 0))), (q17, .inl (cI, 186, .inl (fun _ => 0)))] := hD
  refine W.widen (k := 2) (n := 372) (by omega) (by omega) ?_
  refine va_putF (D := D) (ci := 0) (v := .ref q17) (ty := .array .int) (C := RX0) (T := TX0) (N := 14) hx hb hts (y_in 0 rfl) tyX0 tyX0_ok nmX0 hown hK hP hD hS 0 rfl rfl 2 (by decide) (hin (xe_wd_mem (n := 197) (u := .fieldLink RX0 15 "WrittenBench$Flow" "unwritten" "[I") (by decide +kernel))) (fun _ h9 => h9) rfl hinit rfl (by decide +kernel) rfl rfl (Nat.le_of_ble_eq_true rfl) dX0_init_19 (fun H locs hP hD hS => ?_)
  have hP : va_P D xCLs [(h0, .inr (0, [.null, .ref q8, .ref q17, .null, .int 0, .int 0, .int 0, .null, .null, .null, .null, .null, .null, .int 0])), (q8, .inl (cI, 186, .inl (fun _ => 0))), (q17, .inl (cI, 186, .inl (fun _ => 0)))] H := hP
  have hD : va_D A [(h0, .inr (0, [.null, .ref q8, .ref q17, .null, .int 0, .int 0, .int 0, .null, .null, .null, .null, .null, .null, .int 0])), (q8, .inl (cI, 186, .inl (fun _ => 0))), (q17, .inl (cI, 186, .inl (fun _ => 0)))] := hD
  refine lv_aload_n hx hb dX0_init_22 rfl (lv_at hl 0 rfl) ?_
  refine lv_sipush (v := 186) hx hb dX0_init_23 rfl ?_
  refine va_newa (atype := .boolean) (ty := .boolean) (a0 := (186, .inl (fun _ => 0))) hx hb (hin (xe_wd_mem (n := 242) (u := .arrayClass .boolean) (by decide +kernel))) rfl hK hP hD hS hA (fun _ => rfl) (by decide) rfl (by decide) (Nat.le_of_ble_eq_true rfl) (Nat.le_of_ble_eq_true rfl) dX0_init_26 (fun q26 cA H hK1 hP hD hS => ?_)
  obtain rfl := (y_cyZ hK1).symm
  have hP : va_P D xCLs [(h0, .inr (0, [.null, .ref q8, .ref q17, .null, .int 0, .int 0, .int 0, .null, .null, .null, .null, .null, .null, .int 0])), (q8, .inl (cI, 186, .inl (fun _ => 0))), (q17, .inl (cI, 186, .inl (fun _ => 0))), (q26, .inl (cZ, 186, .inl (fun _ => 0)))] H := hP
  have hD : va_D A [(h0, .inr (0, [.null, .ref q8, .ref q17, .null, .int 0, .int 0, .int 0, .null, .null, .null, .null, .null, .null, .int 0])), (q8, .inl (cI, 186, .inl (fun _ => 0))), (q17, .inl (cI, 186, .inl (fun _ => 0))), (q26, .inl (cZ, 186, .inl (fun _ => 0)))] := hD
  refine W.widen (k := 3) (n := 558) (by omega) (by omega) ?_
  refine va_putF (D := D) (ci := 0) (v := .ref q26) (ty := .array .boolean) (C := RX0) (T := TX0) (N := 14) hx hb hts (y_in 0 rfl) tyX0 tyX0_ok nmX0 hown hK hP hD hS 0 rfl rfl 3 (by decide) (hin (xe_wd_mem (n := 198) (u := .fieldLink RX0 18 "WrittenBench$Flow" "due" "[Z") (by decide +kernel))) (fun _ h9 => h9) rfl hinit rfl (by decide +kernel) rfl rfl (Nat.le_of_ble_eq_true rfl) dX0_init_28 (fun H locs hP hD hS => ?_)
  have hP : va_P D xCLs [(h0, .inr (0, [.null, .ref q8, .ref q17, .ref q26, .int 0, .int 0, .int 0, .null, .null, .null, .null, .null, .null, .int 0])), (q8, .inl (cI, 186, .inl (fun _ => 0))), (q17, .inl (cI, 186, .inl (fun _ => 0))), (q26, .inl (cZ, 186, .inl (fun _ => 0)))] H := hP
  have hD : va_D A [(h0, .inr (0, [.null, .ref q8, .ref q17, .ref q26, .int 0, .int 0, .int 0, .null, .null, .null, .null, .null, .null, .int 0])), (q8, .inl (cI, 186, .inl (fun _ => 0))), (q17, .inl (cI, 186, .inl (fun _ => 0))), (q26, .inl (cZ, 186, .inl (fun _ => 0)))] := hD
  refine lv_aload_n hx hb dX0_init_31 rfl (lv_at hl 0 rfl) ?_
  refine lv_bipush (v := 6) hx hb dX0_init_32 rfl ?_
  refine va_newa (atype := .int) (ty := .int) (a0 := (6, .inl (fun _ => 0))) hx hb (hin (xe_wd_mem (n := 117) (u := .arrayClass .int) (by decide +kernel))) rfl hK hP hD hS hA (fun _ => rfl) (by decide) rfl (by decide) (Nat.le_of_ble_eq_true rfl) (Nat.le_of_ble_eq_true rfl) dX0_init_34 (fun q34 cA H hK1 hP hD hS => ?_)
  obtain rfl := (y_cyI hK1).symm
  have hP : va_P D xCLs [(h0, .inr (0, [.null, .ref q8, .ref q17, .ref q26, .int 0, .int 0, .int 0, .null, .null, .null, .null, .null, .null, .int 0])), (q8, .inl (cI, 186, .inl (fun _ => 0))), (q17, .inl (cI, 186, .inl (fun _ => 0))), (q26, .inl (cZ, 186, .inl (fun _ => 0))), (q34, .inl (cI, 6, .inl (fun _ => 0)))] H := hP
  have hD : va_D A [(h0, .inr (0, [.null, .ref q8, .ref q17, .ref q26, .int 0, .int 0, .int 0, .null, .null, .null, .null, .null, .null, .int 0])), (q8, .inl (cI, 186, .inl (fun _ => 0))), (q17, .inl (cI, 186, .inl (fun _ => 0))), (q26, .inl (cZ, 186, .inl (fun _ => 0))), (q34, .inl (cI, 6, .inl (fun _ => 0)))] := hD
  refine W.widen (k := 4) (n := 564) (by omega) (by omega) ?_
  refine va_putF (D := D) (ci := 0) (v := .ref q34) (ty := .array .int) (C := RX0) (T := TX0) (N := 14) hx hb hts (y_in 0 rfl) tyX0 tyX0_ok nmX0 hown hK hP hD hS 0 rfl rfl 7 (by decide) (hin (xe_wd_mem (n := 202) (u := .fieldLink RX0 22 "WrittenBench$Flow" "inWritten" "[I") (by decide +kernel))) (fun _ h9 => h9) rfl hinit rfl (by decide +kernel) rfl rfl (Nat.le_of_ble_eq_true rfl) dX0_init_36 (fun H locs hP hD hS => ?_)
  have hP : va_P D xCLs [(h0, .inr (0, [.null, .ref q8, .ref q17, .ref q26, .int 0, .int 0, .int 0, .ref q34, .null, .null, .null, .null, .null, .int 0])), (q8, .inl (cI, 186, .inl (fun _ => 0))), (q17, .inl (cI, 186, .inl (fun _ => 0))), (q26, .inl (cZ, 186, .inl (fun _ => 0))), (q34, .inl (cI, 6, .inl (fun _ => 0)))] H := hP
  have hD : va_D A [(h0, .inr (0, [.null, .ref q8, .ref q17, .ref q26, .int 0, .int 0, .int 0, .ref q34, .null, .null, .null, .null, .null, .int 0])), (q8, .inl (cI, 186, .inl (fun _ => 0))), (q17, .inl (cI, 186, .inl (fun _ => 0))), (q26, .inl (cZ, 186, .inl (fun _ => 0))), (q34, .inl (cI, 6, .inl (fun _ => 0)))] := hD
  refine lv_aload_n hx hb dX0_init_39 rfl (lv_at hl 0 rfl) ?_
  refine lv_bipush (v := 6) hx hb dX0_init_40 rfl ?_
  refine va_newa (atype := .int) (ty := .int) (a0 := (6, .inl (fun _ => 0))) hx hb (hin (xe_wd_mem (n := 117) (u := .arrayClass .int) (by decide +kernel))) rfl hK hP hD hS hA (fun _ => rfl) (by decide) rfl (by decide) (Nat.le_of_ble_eq_true rfl) (Nat.le_of_ble_eq_true rfl) dX0_init_42 (fun q42 cA H hK1 hP hD hS => ?_)
  obtain rfl := (y_cyI hK1).symm
  have hP : va_P D xCLs [(h0, .inr (0, [.null, .ref q8, .ref q17, .ref q26, .int 0, .int 0, .int 0, .ref q34, .null, .null, .null, .null, .null, .int 0])), (q8, .inl (cI, 186, .inl (fun _ => 0))), (q17, .inl (cI, 186, .inl (fun _ => 0))), (q26, .inl (cZ, 186, .inl (fun _ => 0))), (q34, .inl (cI, 6, .inl (fun _ => 0))), (q42, .inl (cI, 6, .inl (fun _ => 0)))] H := hP
  have hD : va_D A [(h0, .inr (0, [.null, .ref q8, .ref q17, .ref q26, .int 0, .int 0, .int 0, .ref q34, .null, .null, .null, .null, .null, .int 0])), (q8, .inl (cI, 186, .inl (fun _ => 0))), (q17, .inl (cI, 186, .inl (fun _ => 0))), (q26, .inl (cZ, 186, .inl (fun _ => 0))), (q34, .inl (cI, 6, .inl (fun _ => 0))), (q42, .inl (cI, 6, .inl (fun _ => 0)))] := hD
  refine W.widen (k := 5) (n := 570) (by omega) (by omega) ?_
  refine va_putF (D := D) (ci := 0) (v := .ref q42) (ty := .array .int) (C := RX0) (T := TX0) (N := 14) hx hb hts (y_in 0 rfl) tyX0 tyX0_ok nmX0 hown hK hP hD hS 0 rfl rfl 8 (by decide) (hin (xe_wd_mem (n := 204) (u := .fieldLink RX0 25 "WrittenBench$Flow" "inUnwritten" "[I") (by decide +kernel))) (fun _ h9 => h9) rfl hinit rfl (by decide +kernel) rfl rfl (Nat.le_of_ble_eq_true rfl) dX0_init_44 (fun H locs hP hD hS => ?_)
  have hP : va_P D xCLs [(h0, .inr (0, [.null, .ref q8, .ref q17, .ref q26, .int 0, .int 0, .int 0, .ref q34, .ref q42, .null, .null, .null, .null, .int 0])), (q8, .inl (cI, 186, .inl (fun _ => 0))), (q17, .inl (cI, 186, .inl (fun _ => 0))), (q26, .inl (cZ, 186, .inl (fun _ => 0))), (q34, .inl (cI, 6, .inl (fun _ => 0))), (q42, .inl (cI, 6, .inl (fun _ => 0)))] H := hP
  have hD : va_D A [(h0, .inr (0, [.null, .ref q8, .ref q17, .ref q26, .int 0, .int 0, .int 0, .ref q34, .ref q42, .null, .null, .null, .null, .int 0])), (q8, .inl (cI, 186, .inl (fun _ => 0))), (q17, .inl (cI, 186, .inl (fun _ => 0))), (q26, .inl (cZ, 186, .inl (fun _ => 0))), (q34, .inl (cI, 6, .inl (fun _ => 0))), (q42, .inl (cI, 6, .inl (fun _ => 0)))] := hD
  refine lv_aload_n hx hb dX0_init_47 rfl (lv_at hl 0 rfl) ?_
  refine lv_bipush (v := 6) hx hb dX0_init_48 rfl ?_
  refine va_newa (atype := .int) (ty := .int) (a0 := (6, .inl (fun _ => 0))) hx hb (hin (xe_wd_mem (n := 117) (u := .arrayClass .int) (by decide +kernel))) rfl hK hP hD hS hA (fun _ => rfl) (by decide) rfl (by decide) (Nat.le_of_ble_eq_true rfl) (Nat.le_of_ble_eq_true rfl) dX0_init_50 (fun q50 cA H hK1 hP hD hS => ?_)
  obtain rfl := (y_cyI hK1).symm
  have hP : va_P D xCLs [(h0, .inr (0, [.null, .ref q8, .ref q17, .ref q26, .int 0, .int 0, .int 0, .ref q34, .ref q42, .null, .null, .null, .null, .int 0])), (q8, .inl (cI, 186, .inl (fun _ => 0))), (q17, .inl (cI, 186, .inl (fun _ => 0))), (q26, .inl (cZ, 186, .inl (fun _ => 0))), (q34, .inl (cI, 6, .inl (fun _ => 0))), (q42, .inl (cI, 6, .inl (fun _ => 0))), (q50, .inl (cI, 6, .inl (fun _ => 0)))] H := hP
  have hD : va_D A [(h0, .inr (0, [.null, .ref q8, .ref q17, .ref q26, .int 0, .int 0, .int 0, .ref q34, .ref q42, .null, .null, .null, .null, .int 0])), (q8, .inl (cI, 186, .inl (fun _ => 0))), (q17, .inl (cI, 186, .inl (fun _ => 0))), (q26, .inl (cZ, 186, .inl (fun _ => 0))), (q34, .inl (cI, 6, .inl (fun _ => 0))), (q42, .inl (cI, 6, .inl (fun _ => 0))), (q50, .inl (cI, 6, .inl (fun _ => 0)))] := hD
  refine W.widen (k := 6) (n := 576) (by omega) (by omega) ?_
  refine va_putF (D := D) (ci := 0) (v := .ref q50) (ty := .array .int) (C := RX0) (T := TX0) (N := 14) hx hb hts (y_in 0 rfl) tyX0 tyX0_ok nmX0 hown hK hP hD hS 0 rfl rfl 9 (by decide) (hin (xe_wd_mem (n := 206) (u := .fieldLink RX0 28 "WrittenBench$Flow" "outWritten" "[I") (by decide +kernel))) (fun _ h9 => h9) rfl hinit rfl (by decide +kernel) rfl rfl (Nat.le_of_ble_eq_true rfl) dX0_init_52 (fun H locs hP hD hS => ?_)
  have hP : va_P D xCLs [(h0, .inr (0, [.null, .ref q8, .ref q17, .ref q26, .int 0, .int 0, .int 0, .ref q34, .ref q42, .ref q50, .null, .null, .null, .int 0])), (q8, .inl (cI, 186, .inl (fun _ => 0))), (q17, .inl (cI, 186, .inl (fun _ => 0))), (q26, .inl (cZ, 186, .inl (fun _ => 0))), (q34, .inl (cI, 6, .inl (fun _ => 0))), (q42, .inl (cI, 6, .inl (fun _ => 0))), (q50, .inl (cI, 6, .inl (fun _ => 0)))] H := hP
  have hD : va_D A [(h0, .inr (0, [.null, .ref q8, .ref q17, .ref q26, .int 0, .int 0, .int 0, .ref q34, .ref q42, .ref q50, .null, .null, .null, .int 0])), (q8, .inl (cI, 186, .inl (fun _ => 0))), (q17, .inl (cI, 186, .inl (fun _ => 0))), (q26, .inl (cZ, 186, .inl (fun _ => 0))), (q34, .inl (cI, 6, .inl (fun _ => 0))), (q42, .inl (cI, 6, .inl (fun _ => 0))), (q50, .inl (cI, 6, .inl (fun _ => 0)))] := hD
  refine lv_aload_n hx hb dX0_init_55 rfl (lv_at hl 0 rfl) ?_
  refine lv_bipush (v := 6) hx hb dX0_init_56 rfl ?_
  refine va_newa (atype := .int) (ty := .int) (a0 := (6, .inl (fun _ => 0))) hx hb (hin (xe_wd_mem (n := 117) (u := .arrayClass .int) (by decide +kernel))) rfl hK hP hD hS hA (fun _ => rfl) (by decide) rfl (by decide) (Nat.le_of_ble_eq_true rfl) (Nat.le_of_ble_eq_true rfl) dX0_init_58 (fun q58 cA H hK1 hP hD hS => ?_)
  obtain rfl := (y_cyI hK1).symm
  have hP : va_P D xCLs [(h0, .inr (0, [.null, .ref q8, .ref q17, .ref q26, .int 0, .int 0, .int 0, .ref q34, .ref q42, .ref q50, .null, .null, .null, .int 0])), (q8, .inl (cI, 186, .inl (fun _ => 0))), (q17, .inl (cI, 186, .inl (fun _ => 0))), (q26, .inl (cZ, 186, .inl (fun _ => 0))), (q34, .inl (cI, 6, .inl (fun _ => 0))), (q42, .inl (cI, 6, .inl (fun _ => 0))), (q50, .inl (cI, 6, .inl (fun _ => 0))), (q58, .inl (cI, 6, .inl (fun _ => 0)))] H := hP
  have hD : va_D A [(h0, .inr (0, [.null, .ref q8, .ref q17, .ref q26, .int 0, .int 0, .int 0, .ref q34, .ref q42, .ref q50, .null, .null, .null, .int 0])), (q8, .inl (cI, 186, .inl (fun _ => 0))), (q17, .inl (cI, 186, .inl (fun _ => 0))), (q26, .inl (cZ, 186, .inl (fun _ => 0))), (q34, .inl (cI, 6, .inl (fun _ => 0))), (q42, .inl (cI, 6, .inl (fun _ => 0))), (q50, .inl (cI, 6, .inl (fun _ => 0))), (q58, .inl (cI, 6, .inl (fun _ => 0)))] := hD
  refine W.widen (k := 7) (n := 582) (by omega) (by omega) ?_
  refine va_putF (D := D) (ci := 0) (v := .ref q58) (ty := .array .int) (C := RX0) (T := TX0) (N := 14) hx hb hts (y_in 0 rfl) tyX0 tyX0_ok nmX0 hown hK hP hD hS 0 rfl rfl 10 (by decide) (hin (xe_wd_mem (n := 208) (u := .fieldLink RX0 31 "WrittenBench$Flow" "outUnwritten" "[I") (by decide +kernel))) (fun _ h9 => h9) rfl hinit rfl (by decide +kernel) rfl rfl (Nat.le_of_ble_eq_true rfl) dX0_init_60 (fun H locs hP hD hS => ?_)
  have hP : va_P D xCLs [(h0, .inr (0, [.null, .ref q8, .ref q17, .ref q26, .int 0, .int 0, .int 0, .ref q34, .ref q42, .ref q50, .ref q58, .null, .null, .int 0])), (q8, .inl (cI, 186, .inl (fun _ => 0))), (q17, .inl (cI, 186, .inl (fun _ => 0))), (q26, .inl (cZ, 186, .inl (fun _ => 0))), (q34, .inl (cI, 6, .inl (fun _ => 0))), (q42, .inl (cI, 6, .inl (fun _ => 0))), (q50, .inl (cI, 6, .inl (fun _ => 0))), (q58, .inl (cI, 6, .inl (fun _ => 0)))] H := hP
  have hD : va_D A [(h0, .inr (0, [.null, .ref q8, .ref q17, .ref q26, .int 0, .int 0, .int 0, .ref q34, .ref q42, .ref q50, .ref q58, .null, .null, .int 0])), (q8, .inl (cI, 186, .inl (fun _ => 0))), (q17, .inl (cI, 186, .inl (fun _ => 0))), (q26, .inl (cZ, 186, .inl (fun _ => 0))), (q34, .inl (cI, 6, .inl (fun _ => 0))), (q42, .inl (cI, 6, .inl (fun _ => 0))), (q50, .inl (cI, 6, .inl (fun _ => 0))), (q58, .inl (cI, 6, .inl (fun _ => 0)))] := hD
  refine lv_aload_n hx hb dX0_init_63 rfl (lv_at hl 0 rfl) ?_
  refine lv_bipush (v := 6) hx hb dX0_init_64 rfl ?_
  refine va_newa (atype := .int) (ty := .int) (a0 := (6, .inl (fun _ => 0))) hx hb (hin (xe_wd_mem (n := 117) (u := .arrayClass .int) (by decide +kernel))) rfl hK hP hD hS hA (fun _ => rfl) (by decide) rfl (by decide) (Nat.le_of_ble_eq_true rfl) (Nat.le_of_ble_eq_true rfl) dX0_init_66 (fun q66 cA H hK1 hP hD hS => ?_)
  obtain rfl := (y_cyI hK1).symm
  have hP : va_P D xCLs [(h0, .inr (0, [.null, .ref q8, .ref q17, .ref q26, .int 0, .int 0, .int 0, .ref q34, .ref q42, .ref q50, .ref q58, .null, .null, .int 0])), (q8, .inl (cI, 186, .inl (fun _ => 0))), (q17, .inl (cI, 186, .inl (fun _ => 0))), (q26, .inl (cZ, 186, .inl (fun _ => 0))), (q34, .inl (cI, 6, .inl (fun _ => 0))), (q42, .inl (cI, 6, .inl (fun _ => 0))), (q50, .inl (cI, 6, .inl (fun _ => 0))), (q58, .inl (cI, 6, .inl (fun _ => 0))), (q66, .inl (cI, 6, .inl (fun _ => 0)))] H := hP
  have hD : va_D A [(h0, .inr (0, [.null, .ref q8, .ref q17, .ref q26, .int 0, .int 0, .int 0, .ref q34, .ref q42, .ref q50, .ref q58, .null, .null, .int 0])), (q8, .inl (cI, 186, .inl (fun _ => 0))), (q17, .inl (cI, 186, .inl (fun _ => 0))), (q26, .inl (cZ, 186, .inl (fun _ => 0))), (q34, .inl (cI, 6, .inl (fun _ => 0))), (q42, .inl (cI, 6, .inl (fun _ => 0))), (q50, .inl (cI, 6, .inl (fun _ => 0))), (q58, .inl (cI, 6, .inl (fun _ => 0))), (q66, .inl (cI, 6, .inl (fun _ => 0)))] := hD
  refine W.widen (k := 8) (n := 588) (by omega) (by omega) ?_
  refine va_putF (D := D) (ci := 0) (v := .ref q66) (ty := .array .int) (C := RX0) (T := TX0) (N := 14) hx hb hts (y_in 0 rfl) tyX0 tyX0_ok nmX0 hown hK hP hD hS 0 rfl rfl 11 (by decide) (hin (xe_wd_mem (n := 210) (u := .fieldLink RX0 34 "WrittenBench$Flow" "setAhead" "[I") (by decide +kernel))) (fun _ h9 => h9) rfl hinit rfl (by decide +kernel) rfl rfl (Nat.le_of_ble_eq_true rfl) dX0_init_68 (fun H locs hP hD hS => ?_)
  have hP : va_P D xCLs [(h0, .inr (0, [.null, .ref q8, .ref q17, .ref q26, .int 0, .int 0, .int 0, .ref q34, .ref q42, .ref q50, .ref q58, .ref q66, .null, .int 0])), (q8, .inl (cI, 186, .inl (fun _ => 0))), (q17, .inl (cI, 186, .inl (fun _ => 0))), (q26, .inl (cZ, 186, .inl (fun _ => 0))), (q34, .inl (cI, 6, .inl (fun _ => 0))), (q42, .inl (cI, 6, .inl (fun _ => 0))), (q50, .inl (cI, 6, .inl (fun _ => 0))), (q58, .inl (cI, 6, .inl (fun _ => 0))), (q66, .inl (cI, 6, .inl (fun _ => 0)))] H := hP
  have hD : va_D A [(h0, .inr (0, [.null, .ref q8, .ref q17, .ref q26, .int 0, .int 0, .int 0, .ref q34, .ref q42, .ref q50, .ref q58, .ref q66, .null, .int 0])), (q8, .inl (cI, 186, .inl (fun _ => 0))), (q17, .inl (cI, 186, .inl (fun _ => 0))), (q26, .inl (cZ, 186, .inl (fun _ => 0))), (q34, .inl (cI, 6, .inl (fun _ => 0))), (q42, .inl (cI, 6, .inl (fun _ => 0))), (q50, .inl (cI, 6, .inl (fun _ => 0))), (q58, .inl (cI, 6, .inl (fun _ => 0))), (q66, .inl (cI, 6, .inl (fun _ => 0)))] := hD
  refine lv_aload_n hx hb dX0_init_71 rfl (lv_at hl 0 rfl) ?_
  refine lv_bipush (v := 6) hx hb dX0_init_72 rfl ?_
  refine va_newa (atype := .int) (ty := .int) (a0 := (6, .inl (fun _ => 0))) hx hb (hin (xe_wd_mem (n := 117) (u := .arrayClass .int) (by decide +kernel))) rfl hK hP hD hS hA (fun _ => rfl) (by decide) rfl (by decide) (Nat.le_of_ble_eq_true rfl) (Nat.le_of_ble_eq_true rfl) dX0_init_74 (fun q74 cA H hK1 hP hD hS => ?_)
  obtain rfl := (y_cyI hK1).symm
  have hP : va_P D xCLs [(h0, .inr (0, [.null, .ref q8, .ref q17, .ref q26, .int 0, .int 0, .int 0, .ref q34, .ref q42, .ref q50, .ref q58, .ref q66, .null, .int 0])), (q8, .inl (cI, 186, .inl (fun _ => 0))), (q17, .inl (cI, 186, .inl (fun _ => 0))), (q26, .inl (cZ, 186, .inl (fun _ => 0))), (q34, .inl (cI, 6, .inl (fun _ => 0))), (q42, .inl (cI, 6, .inl (fun _ => 0))), (q50, .inl (cI, 6, .inl (fun _ => 0))), (q58, .inl (cI, 6, .inl (fun _ => 0))), (q66, .inl (cI, 6, .inl (fun _ => 0))), (q74, .inl (cI, 6, .inl (fun _ => 0)))] H := hP
  have hD : va_D A [(h0, .inr (0, [.null, .ref q8, .ref q17, .ref q26, .int 0, .int 0, .int 0, .ref q34, .ref q42, .ref q50, .ref q58, .ref q66, .null, .int 0])), (q8, .inl (cI, 186, .inl (fun _ => 0))), (q17, .inl (cI, 186, .inl (fun _ => 0))), (q26, .inl (cZ, 186, .inl (fun _ => 0))), (q34, .inl (cI, 6, .inl (fun _ => 0))), (q42, .inl (cI, 6, .inl (fun _ => 0))), (q50, .inl (cI, 6, .inl (fun _ => 0))), (q58, .inl (cI, 6, .inl (fun _ => 0))), (q66, .inl (cI, 6, .inl (fun _ => 0))), (q74, .inl (cI, 6, .inl (fun _ => 0)))] := hD
  refine W.widen (k := 9) (n := 594) (by omega) (by omega) ?_
  refine va_putF (D := D) (ci := 0) (v := .ref q74) (ty := .array .int) (C := RX0) (T := TX0) (N := 14) hx hb hts (y_in 0 rfl) tyX0 tyX0_ok nmX0 hown hK hP hD hS 0 rfl rfl 12 (by decide) (hin (xe_wd_mem (n := 211) (u := .fieldLink RX0 37 "WrittenBench$Flow" "unsetAhead" "[I") (by decide +kernel))) (fun _ h9 => h9) rfl hinit rfl (by decide +kernel) rfl rfl (Nat.le_of_ble_eq_true rfl) dX0_init_76 (fun H locs hP hD hS => ?_)
  have hP : va_P D xCLs [(h0, .inr (0, [.null, .ref q8, .ref q17, .ref q26, .int 0, .int 0, .int 0, .ref q34, .ref q42, .ref q50, .ref q58, .ref q66, .ref q74, .int 0])), (q8, .inl (cI, 186, .inl (fun _ => 0))), (q17, .inl (cI, 186, .inl (fun _ => 0))), (q26, .inl (cZ, 186, .inl (fun _ => 0))), (q34, .inl (cI, 6, .inl (fun _ => 0))), (q42, .inl (cI, 6, .inl (fun _ => 0))), (q50, .inl (cI, 6, .inl (fun _ => 0))), (q58, .inl (cI, 6, .inl (fun _ => 0))), (q66, .inl (cI, 6, .inl (fun _ => 0))), (q74, .inl (cI, 6, .inl (fun _ => 0)))] H := hP
  have hD : va_D A [(h0, .inr (0, [.null, .ref q8, .ref q17, .ref q26, .int 0, .int 0, .int 0, .ref q34, .ref q42, .ref q50, .ref q58, .ref q66, .ref q74, .int 0])), (q8, .inl (cI, 186, .inl (fun _ => 0))), (q17, .inl (cI, 186, .inl (fun _ => 0))), (q26, .inl (cZ, 186, .inl (fun _ => 0))), (q34, .inl (cI, 6, .inl (fun _ => 0))), (q42, .inl (cI, 6, .inl (fun _ => 0))), (q50, .inl (cI, 6, .inl (fun _ => 0))), (q58, .inl (cI, 6, .inl (fun _ => 0))), (q66, .inl (cI, 6, .inl (fun _ => 0))), (q74, .inl (cI, 6, .inl (fun _ => 0)))] := hD
  refine lv_aload_n hx hb dX0_init_79 rfl (lv_at hl 0 rfl) ?_
  refine lv_iconst (v := 0) hx hb dX0_init_80 rfl ?_
  refine va_put (D := D) (ci := 0) (v := .int 0) (ty := .boolean) (C := RX0) (T := TX0) (N := 14) hx hb hts (y_in 0 rfl) tyX0 tyX0_ok nmX0 hown hK hP hD hS 0 rfl rfl 13 (by decide) (hin (xe_wd_mem (n := 212) (u := .fieldLink RX0 40 "WrittenBench$Flow" "freeWrites" "Z") (by decide +kernel))) (fun _ h9 => h9) rfl (by decide +kernel) rfl rfl (Nat.le_of_ble_eq_true rfl) dX0_init_81 (fun H locs hP hD hS => ?_)
  have hP : va_P D xCLs [(h0, .inr (0, [.null, .ref q8, .ref q17, .ref q26, .int 0, .int 0, .int 0, .ref q34, .ref q42, .ref q50, .ref q58, .ref q66, .ref q74, .int 0])), (q8, .inl (cI, 186, .inl (fun _ => 0))), (q17, .inl (cI, 186, .inl (fun _ => 0))), (q26, .inl (cZ, 186, .inl (fun _ => 0))), (q34, .inl (cI, 6, .inl (fun _ => 0))), (q42, .inl (cI, 6, .inl (fun _ => 0))), (q50, .inl (cI, 6, .inl (fun _ => 0))), (q58, .inl (cI, 6, .inl (fun _ => 0))), (q66, .inl (cI, 6, .inl (fun _ => 0))), (q74, .inl (cI, 6, .inl (fun _ => 0)))] H := hP
  have hD : va_D A [(h0, .inr (0, [.null, .ref q8, .ref q17, .ref q26, .int 0, .int 0, .int 0, .ref q34, .ref q42, .ref q50, .ref q58, .ref q66, .ref q74, .int 0])), (q8, .inl (cI, 186, .inl (fun _ => 0))), (q17, .inl (cI, 186, .inl (fun _ => 0))), (q26, .inl (cZ, 186, .inl (fun _ => 0))), (q34, .inl (cI, 6, .inl (fun _ => 0))), (q42, .inl (cI, 6, .inl (fun _ => 0))), (q50, .inl (cI, 6, .inl (fun _ => 0))), (q58, .inl (cI, 6, .inl (fun _ => 0))), (q66, .inl (cI, 6, .inl (fun _ => 0))), (q74, .inl (cI, 6, .inl (fun _ => 0)))] := hD
  refine lv_aload_n hx hb dX0_init_84 rfl (lv_at hl 0 rfl) ?_
  refine lv_aload_n hx hb dX0_init_85 rfl (lv_at hl 1 rfl) ?_
  refine va_putF (D := D) (ci := 0) (v := .ref a1) (ty := .object "WrittenBench$Program") (C := RX0) (T := TX0) (N := 14) hx hb hts (y_in 0 rfl) tyX0 tyX0_ok nmX0 hown hK hP hD hS 0 rfl rfl 0 (by decide) (hin (xe_wd_mem (n := 195) (u := .fieldLink RX0 44 "WrittenBench$Flow" "program" "LWrittenBench$Program;") (by decide +kernel))) (fun _ h9 => h9) rfl hinit rfl (by decide +kernel) rfl rfl (Nat.le_of_ble_eq_true rfl) dX0_init_86 (fun H locs hP hD hS => ?_)
  have hP : va_P D xCLs [(h0, .inr (0, [.ref a1, .ref q8, .ref q17, .ref q26, .int 0, .int 0, .int 0, .ref q34, .ref q42, .ref q50, .ref q58, .ref q66, .ref q74, .int 0])), (q8, .inl (cI, 186, .inl (fun _ => 0))), (q17, .inl (cI, 186, .inl (fun _ => 0))), (q26, .inl (cZ, 186, .inl (fun _ => 0))), (q34, .inl (cI, 6, .inl (fun _ => 0))), (q42, .inl (cI, 6, .inl (fun _ => 0))), (q50, .inl (cI, 6, .inl (fun _ => 0))), (q58, .inl (cI, 6, .inl (fun _ => 0))), (q66, .inl (cI, 6, .inl (fun _ => 0))), (q74, .inl (cI, 6, .inl (fun _ => 0)))] H := hP
  have hD : va_D A [(h0, .inr (0, [.ref a1, .ref q8, .ref q17, .ref q26, .int 0, .int 0, .int 0, .ref q34, .ref q42, .ref q50, .ref q58, .ref q66, .ref q74, .int 0])), (q8, .inl (cI, 186, .inl (fun _ => 0))), (q17, .inl (cI, 186, .inl (fun _ => 0))), (q26, .inl (cZ, 186, .inl (fun _ => 0))), (q34, .inl (cI, 6, .inl (fun _ => 0))), (q42, .inl (cI, 6, .inl (fun _ => 0))), (q50, .inl (cI, 6, .inl (fun _ => 0))), (q58, .inl (cI, 6, .inl (fun _ => 0))), (q66, .inl (cI, 6, .inl (fun _ => 0))), (q74, .inl (cI, 6, .inl (fun _ => 0)))] := hD
  have hP9 := hP.sub (ws' := [(h0, .inr (0, [.ref a1, .ref ((fun k => [q8, q17, q26, q34, q42, q50, q58, q66, q74].getD k 0) 0), .ref ((fun k => [q8, q17, q26, q34, q42, q50, q58, q66, q74].getD k 0) 1), .ref ((fun k => [q8, q17, q26, q34, q42, q50, q58, q66, q74].getD k 0) 2), .int 0, .int 0, .int 0, .ref ((fun k => [q8, q17, q26, q34, q42, q50, q58, q66, q74].getD k 0) 3), .ref ((fun k => [q8, q17, q26, q34, q42, q50, q58, q66, q74].getD k 0) 4), .ref ((fun k => [q8, q17, q26, q34, q42, q50, q58, q66, q74].getD k 0) 5), .ref ((fun k => [q8, q17, q26, q34, q42, q50, q58, q66, q74].getD k 0) 6), .ref ((fun k => [q8, q17, q26, q34, q42, q50, q58, q66, q74].getD k 0) 7), .ref ((fun k => [q8, q17, q26, q34, q42, q50, q58, q66, q74].getD k 0) 8), .int 0])), (((fun k => [q8, q17, q26, q34, q42, q50, q58, q66, q74].getD k 0) 0), .inl (cI, 186, .inl (fun _ => 0))), (((fun k => [q8, q17, q26, q34, q42, q50, q58, q66, q74].getD k 0) 1), .inl (cI, 186, .inl (fun _ => 0))), (((fun k => [q8, q17, q26, q34, q42, q50, q58, q66, q74].getD k 0) 2), .inl (cZ, 186, .inl (fun _ => 0))), (((fun k => [q8, q17, q26, q34, q42, q50, q58, q66, q74].getD k 0) 3), .inl (cI, 6, .inl (fun _ => 0))), (((fun k => [q8, q17, q26, q34, q42, q50, q58, q66, q74].getD k 0) 4), .inl (cI, 6, .inl (fun _ => 0))), (((fun k => [q8, q17, q26, q34, q42, q50, q58, q66, q74].getD k 0) 5), .inl (cI, 6, .inl (fun _ => 0))), (((fun k => [q8, q17, q26, q34, q42, q50, q58, q66, q74].getD k 0) 6), .inl (cI, 6, .inl (fun _ => 0))), (((fun k => [q8, q17, q26, q34, q42, q50, q58, q66, q74].getD k 0) 7), .inl (cI, 6, .inl (fun _ => 0))), (((fun k => [q8, q17, q26, q34, q42, q50, q58, q66, q74].getD k 0) 8), .inl (cI, 6, .inl (fun _ => 0)))]) [0, 1, 2, 3, 4, 5, 6, 7, 8, 9] rfl
  have hD9 := hD.sub (ws' := [(h0, .inr (0, [.ref a1, .ref ((fun k => [q8, q17, q26, q34, q42, q50, q58, q66, q74].getD k 0) 0), .ref ((fun k => [q8, q17, q26, q34, q42, q50, q58, q66, q74].getD k 0) 1), .ref ((fun k => [q8, q17, q26, q34, q42, q50, q58, q66, q74].getD k 0) 2), .int 0, .int 0, .int 0, .ref ((fun k => [q8, q17, q26, q34, q42, q50, q58, q66, q74].getD k 0) 3), .ref ((fun k => [q8, q17, q26, q34, q42, q50, q58, q66, q74].getD k 0) 4), .ref ((fun k => [q8, q17, q26, q34, q42, q50, q58, q66, q74].getD k 0) 5), .ref ((fun k => [q8, q17, q26, q34, q42, q50, q58, q66, q74].getD k 0) 6), .ref ((fun k => [q8, q17, q26, q34, q42, q50, q58, q66, q74].getD k 0) 7), .ref ((fun k => [q8, q17, q26, q34, q42, q50, q58, q66, q74].getD k 0) 8), .int 0])), (((fun k => [q8, q17, q26, q34, q42, q50, q58, q66, q74].getD k 0) 0), .inl (cI, 186, .inl (fun _ => 0))), (((fun k => [q8, q17, q26, q34, q42, q50, q58, q66, q74].getD k 0) 1), .inl (cI, 186, .inl (fun _ => 0))), (((fun k => [q8, q17, q26, q34, q42, q50, q58, q66, q74].getD k 0) 2), .inl (cZ, 186, .inl (fun _ => 0))), (((fun k => [q8, q17, q26, q34, q42, q50, q58, q66, q74].getD k 0) 3), .inl (cI, 6, .inl (fun _ => 0))), (((fun k => [q8, q17, q26, q34, q42, q50, q58, q66, q74].getD k 0) 4), .inl (cI, 6, .inl (fun _ => 0))), (((fun k => [q8, q17, q26, q34, q42, q50, q58, q66, q74].getD k 0) 5), .inl (cI, 6, .inl (fun _ => 0))), (((fun k => [q8, q17, q26, q34, q42, q50, q58, q66, q74].getD k 0) 6), .inl (cI, 6, .inl (fun _ => 0))), (((fun k => [q8, q17, q26, q34, q42, q50, q58, q66, q74].getD k 0) 7), .inl (cI, 6, .inl (fun _ => 0))), (((fun k => [q8, q17, q26, q34, q42, q50, q58, q66, q74].getD k 0) 8), .inl (cI, 6, .inl (fun _ => 0)))]) [0, 1, 2, 3, 4, 5, 6, 7, 8, 9] (by decide +kernel) rfl
  exact W.vret hx hb hr (fun t ht hW => ⟨⟨(fun k => [q8, q17, q26, q34, q42, q50, q58, q66, q74].getD k 0), rfl, trivial, by rw [ht]; exact hP9, hD9⟩, hS.F ht⟩) hS.2.2 dX0_init_89
set_option maxHeartbeats 8000000 in
set_option maxRecDepth 100000 in
theorem kX1_init (l : Launch) (D : va_G) (cI cZ : ClassId) (h0 a1 a2 a3 sz : Nat) : Met l yX1_init (y_ws yX1_init cX1_init 4) ({ frames := 1, cells := 5, slots := 60, locals := 12 }) (y_Pc D cI cZ [(h0, .inr (1, [.null, .null, .null, .null, .null, .null, .int 0, .int 0, .int 0, .int 0, .null, .null, .int 0]))] [.ref h0, .ref a1, .ref a2, .ref a3] sz) (y_Q D (va_A [(h0, .inr (1, [.null, .null, .null, .null, .null, .null, .int 0, .int 0, .int 0, .int 0, .null, .null, .int 0]))] sz) (fun u => [(h0, .inr (1, [.ref a1, .ref a2, .ref a3, .ref (u 0), .ref (u 1), .ref (u 2), .int 0, .int 0, .int 0, .int 0, .ref (u 3), .ref (u 4), .int 0])), ((u 0), .inl (cI, 12, .inl (fun _ => 0))), ((u 1), .inl (cI, 12, .inl (fun _ => 0))), ((u 2), .inl (cI, 12, .inl (fun _ => 0))), ((u 3), .inl (cI, 12, .inl (fun _ => 0))), ((u 4), .inl (cI, 12, .inl (fun _ => 0)))])) 5 60 (va_A [(h0, .inr (1, [.null, .null, .null, .null, .null, .null, .int 0, .int 0, .int 0, .int 0, .null, .null, .int 0]))] sz) := by
  refine Met.ofW (cc := cX1_init) (maxL := 4) (ret := none) (by decide) rfl ?_
  intro p e s m args below meth c s₁ B hml hv
  obtain ⟨rfl, hsz, hP, hK, hD0, hns⟩ := hv
  have hx := B.exec
  have hb := B.bytes
  have hr := B.returns
  have hts := atoms_spec (ws := y_ws yX1_init cX1_init 4) B.pre
  have hin : ∀ {u : Cond}, u ∈ xWS → u.before _ s = true := fun hu => hts _ (List.mem_cons_of_mem _ hu)
  have hown : s.vm.findClass RX1 = some m.cls := findClass_of_methodNamed B.named
  have hlocks := B.notSynchronized
  have hinit : meth.name = "<init>" := (name_of_methodNamed B.named B.method).1
  subst hsz
  have hD := hD0.self (sz := s.heap.size)
  generalize hAe : va_A [(h0, .inr (1, [.null, .null, .null, .null, .null, .null, .int 0, .int 0, .int 0, .int 0, .null, .null, .int 0]))] s.heap.size = A at hD ⊢
  have hA : ∀ q : Nat, s.heap.size ≤ q → A q := fun q h => by rw [← hAe]; exact Or.inr h
  have hS : va_S A s.heap s.heap [] := va_S.rf
  have hP : va_P D xCLs [(h0, .inr (1, [.null, .null, .null, .null, .null, .null, .int 0, .int 0, .int 0, .int 0, .null, .null, .int 0]))] s.heap := hP
  have hl := lv_entry ([.ref h0, .ref a1, .ref a2, .ref a3]) (n := 4) (Nat.le_of_ble_eq_true rfl)
  rw [lg_entry_eq]
  generalize (lg_sl ([.ref h0, .ref a1, .ref a2, .ref a3]) ++ List.replicate (4 - (lg_sl ([.ref h0, .ref a1, .ref a2, .ref a3])).length) Slot.unset).toArray = ls at hl ⊢
  have hl : lv_has ls 4 [(0, .ref h0), (1, .ref a1), (2, .ref a2), (3, .ref a3)] := hl
  refine lv_aload_n hx hb dX1_init_0 rfl (lv_at hl 0 rfl) ?_
  refine W.objInit hx hb hown (hin (xe_wd_mem (n := 248) (u := .methodLink RX1 3 objectInit) (by decide +kernel))) (hin (xe_wd_mem (n := 77) (u := .instanceMethod objectInit) (by decide +kernel))) (hin (xe_wd_mem (n := 78) (u := .code objectInit ⟨#[0xb1]⟩ 1 none) (by decide +kernel))) rfl (by rw [hml]; exact hl.1) rfl dX1_init_1 (Nat.le_of_ble_eq_true rfl) (Nat.le_of_ble_eq_true rfl) ?_
  refine W.eq (g2 := F0 m 4 ls []) rfl ?_
  refine lv_aload_n hx hb dX1_init_4 rfl (lv_at hl 0 rfl) ?_
  refine lv_bipush (v := 12) hx hb dX1_init_5 rfl ?_
  refine va_newa (atype := .int) (ty := .int) (a0 := (12, .inl (fun _ => 0))) hx hb (hin (xe_wd_mem (n := 117) (u := .arrayClass .int) (by decide +kernel))) rfl hK hP hD hS hA (fun _ => rfl) (by decide) rfl (by decide) (Nat.le_of_ble_eq_true rfl) (Nat.le_of_ble_eq_true rfl) dX1_init_7 (fun q7 cA H hK1 hP hD hS => ?_)
  obtain rfl := (y_cyI hK1).symm
  have hP : va_P D xCLs [(h0, .inr (1, [.null, .null, .null, .null, .null, .null, .int 0, .int 0, .int 0, .int 0, .null, .null, .int 0])), (q7, .inl (cI, 12, .inl (fun _ => 0)))] H := hP
  have hD : va_D A [(h0, .inr (1, [.null, .null, .null, .null, .null, .null, .int 0, .int 0, .int 0, .int 0, .null, .null, .int 0])), (q7, .inl (cI, 12, .inl (fun _ => 0)))] := hD
  refine W.widen (k := 1) (n := 12) (by omega) (by omega) ?_
  refine va_putF (D := D) (ci := 1) (v := .ref q7) (ty := .array .int) (C := RX1) (T := TX1) (N := 13) hx hb hts (y_in 1 rfl) tyX1 tyX1_ok nmX1 hown hK hP hD hS 0 rfl rfl 3 (by decide) (hin (xe_wd_mem (n := 252) (u := .fieldLink RX1 9 "WrittenBench$Mender" "function" "[I") (by decide +kernel))) (fun _ h9 => h9) rfl hinit rfl (by decide +kernel) rfl rfl (Nat.le_of_ble_eq_true rfl) dX1_init_9 (fun H locs hP hD hS => ?_)
  have hP : va_P D xCLs [(h0, .inr (1, [.null, .null, .null, .ref q7, .null, .null, .int 0, .int 0, .int 0, .int 0, .null, .null, .int 0])), (q7, .inl (cI, 12, .inl (fun _ => 0)))] H := hP
  have hD : va_D A [(h0, .inr (1, [.null, .null, .null, .ref q7, .null, .null, .int 0, .int 0, .int 0, .int 0, .null, .null, .int 0])), (q7, .inl (cI, 12, .inl (fun _ => 0)))] := hD
  refine lv_aload_n hx hb dX1_init_12 rfl (lv_at hl 0 rfl) ?_
  refine lv_bipush (v := 12) hx hb dX1_init_13 rfl ?_
  refine va_newa (atype := .int) (ty := .int) (a0 := (12, .inl (fun _ => 0))) hx hb (hin (xe_wd_mem (n := 117) (u := .arrayClass .int) (by decide +kernel))) rfl hK hP hD hS hA (fun _ => rfl) (by decide) rfl (by decide) (Nat.le_of_ble_eq_true rfl) (Nat.le_of_ble_eq_true rfl) dX1_init_15 (fun q15 cA H hK1 hP hD hS => ?_)
  obtain rfl := (y_cyI hK1).symm
  have hP : va_P D xCLs [(h0, .inr (1, [.null, .null, .null, .ref q7, .null, .null, .int 0, .int 0, .int 0, .int 0, .null, .null, .int 0])), (q7, .inl (cI, 12, .inl (fun _ => 0))), (q15, .inl (cI, 12, .inl (fun _ => 0)))] H := hP
  have hD : va_D A [(h0, .inr (1, [.null, .null, .null, .ref q7, .null, .null, .int 0, .int 0, .int 0, .int 0, .null, .null, .int 0])), (q7, .inl (cI, 12, .inl (fun _ => 0))), (q15, .inl (cI, 12, .inl (fun _ => 0)))] := hD
  refine W.widen (k := 2) (n := 24) (by omega) (by omega) ?_
  refine va_putF (D := D) (ci := 1) (v := .ref q15) (ty := .array .int) (C := RX1) (T := TX1) (N := 13) hx hb hts (y_in 1 rfl) tyX1 tyX1_ok nmX1 hown hK hP hD hS 0 rfl rfl 4 (by decide) (hin (xe_wd_mem (n := 253) (u := .fieldLink RX1 15 "WrittenBench$Mender" "cell" "[I") (by decide +kernel))) (fun _ h9 => h9) rfl hinit rfl (by decide +kernel) rfl rfl (Nat.le_of_ble_eq_true rfl) dX1_init_17 (fun H locs hP hD hS => ?_)
  have hP : va_P D xCLs [(h0, .inr (1, [.null, .null, .null, .ref q7, .ref q15, .null, .int 0, .int 0, .int 0, .int 0, .null, .null, .int 0])), (q7, .inl (cI, 12, .inl (fun _ => 0))), (q15, .inl (cI, 12, .inl (fun _ => 0)))] H := hP
  have hD : va_D A [(h0, .inr (1, [.null, .null, .null, .ref q7, .ref q15, .null, .int 0, .int 0, .int 0, .int 0, .null, .null, .int 0])), (q7, .inl (cI, 12, .inl (fun _ => 0))), (q15, .inl (cI, 12, .inl (fun _ => 0)))] := hD
  refine lv_aload_n hx hb dX1_init_20 rfl (lv_at hl 0 rfl) ?_
  refine lv_bipush (v := 12) hx hb dX1_init_21 rfl ?_
  refine va_newa (atype := .int) (ty := .int) (a0 := (12, .inl (fun _ => 0))) hx hb (hin (xe_wd_mem (n := 117) (u := .arrayClass .int) (by decide +kernel))) rfl hK hP hD hS hA (fun _ => rfl) (by decide) rfl (by decide) (Nat.le_of_ble_eq_true rfl) (Nat.le_of_ble_eq_true rfl) dX1_init_23 (fun q23 cA H hK1 hP hD hS => ?_)
  obtain rfl := (y_cyI hK1).symm
  have hP : va_P D xCLs [(h0, .inr (1, [.null, .null, .null, .ref q7, .ref q15, .null, .int 0, .int 0, .int 0, .int 0, .null, .null, .int 0])), (q7, .inl (cI, 12, .inl (fun _ => 0))), (q15, .inl (cI, 12, .inl (fun _ => 0))), (q23, .inl (cI, 12, .inl (fun _ => 0)))] H := hP
  have hD : va_D A [(h0, .inr (1, [.null, .null, .null, .ref q7, .ref q15, .null, .int 0, .int 0, .int 0, .int 0, .null, .null, .int 0])), (q7, .inl (cI, 12, .inl (fun _ => 0))), (q15, .inl (cI, 12, .inl (fun _ => 0))), (q23, .inl (cI, 12, .inl (fun _ => 0)))] := hD
  refine W.widen (k := 3) (n := 36) (by omega) (by omega) ?_
  refine va_putF (D := D) (ci := 1) (v := .ref q23) (ty := .array .int) (C := RX1) (T := TX1) (N := 13) hx hb hts (y_in 1 rfl) tyX1 tyX1_ok nmX1 hown hK hP hD hS 0 rfl rfl 5 (by decide) (hin (xe_wd_mem (n := 254) (u := .fieldLink RX1 18 "WrittenBench$Mender" "waysTo" "[I") (by decide +kernel))) (fun _ h9 => h9) rfl hinit rfl (by decide +kernel) rfl rfl (Nat.le_of_ble_eq_true rfl) dX1_init_25 (fun H locs hP hD hS => ?_)
  have hP : va_P D xCLs [(h0, .inr (1, [.null, .null, .null, .ref q7, .ref q15, .ref q23, .int 0, .int 0, .int 0, .int 0, .null, .null, .int 0])), (q7, .inl (cI, 12, .inl (fun _ => 0))), (q15, .inl (cI, 12, .inl (fun _ => 0))), (q23, .inl (cI, 12, .inl (fun _ => 0)))] H := hP
  have hD : va_D A [(h0, .inr (1, [.null, .null, .null, .ref q7, .ref q15, .ref q23, .int 0, .int 0, .int 0, .int 0, .null, .null, .int 0])), (q7, .inl (cI, 12, .inl (fun _ => 0))), (q15, .inl (cI, 12, .inl (fun _ => 0))), (q23, .inl (cI, 12, .inl (fun _ => 0)))] := hD
  refine lv_aload_n hx hb dX1_init_28 rfl (lv_at hl 0 rfl) ?_
  refine lv_bipush (v := 12) hx hb dX1_init_29 rfl ?_
  refine va_newa (atype := .int) (ty := .int) (a0 := (12, .inl (fun _ => 0))) hx hb (hin (xe_wd_mem (n := 117) (u := .arrayClass .int) (by decide +kernel))) rfl hK hP hD hS hA (fun _ => rfl) (by decide) rfl (by decide) (Nat.le_of_ble_eq_true rfl) (Nat.le_of_ble_eq_true rfl) dX1_init_31 (fun q31 cA H hK1 hP hD hS => ?_)
  obtain rfl := (y_cyI hK1).symm
  have hP : va_P D xCLs [(h0, .inr (1, [.null, .null, .null, .ref q7, .ref q15, .ref q23, .int 0, .int 0, .int 0, .int 0, .null, .null, .int 0])), (q7, .inl (cI, 12, .inl (fun _ => 0))), (q15, .inl (cI, 12, .inl (fun _ => 0))), (q23, .inl (cI, 12, .inl (fun _ => 0))), (q31, .inl (cI, 12, .inl (fun _ => 0)))] H := hP
  have hD : va_D A [(h0, .inr (1, [.null, .null, .null, .ref q7, .ref q15, .ref q23, .int 0, .int 0, .int 0, .int 0, .null, .null, .int 0])), (q7, .inl (cI, 12, .inl (fun _ => 0))), (q15, .inl (cI, 12, .inl (fun _ => 0))), (q23, .inl (cI, 12, .inl (fun _ => 0))), (q31, .inl (cI, 12, .inl (fun _ => 0)))] := hD
  refine W.widen (k := 4) (n := 48) (by omega) (by omega) ?_
  refine va_putF (D := D) (ci := 1) (v := .ref q31) (ty := .array .int) (C := RX1) (T := TX1) (N := 13) hx hb hts (y_in 1 rfl) tyX1 tyX1_ok nmX1 hown hK hP hD hS 0 rfl rfl 10 (by decide) (hin (xe_wd_mem (n := 259) (u := .fieldLink RX1 21 "WrittenBench$Mender" "keptFunction" "[I") (by decide +kernel))) (fun _ h9 => h9) rfl hinit rfl (by decide +kernel) rfl rfl (Nat.le_of_ble_eq_true rfl) dX1_init_33 (fun H locs hP hD hS => ?_)
  have hP : va_P D xCLs [(h0, .inr (1, [.null, .null, .null, .ref q7, .ref q15, .ref q23, .int 0, .int 0, .int 0, .int 0, .ref q31, .null, .int 0])), (q7, .inl (cI, 12, .inl (fun _ => 0))), (q15, .inl (cI, 12, .inl (fun _ => 0))), (q23, .inl (cI, 12, .inl (fun _ => 0))), (q31, .inl (cI, 12, .inl (fun _ => 0)))] H := hP
  have hD : va_D A [(h0, .inr (1, [.null, .null, .null, .ref q7, .ref q15, .ref q23, .int 0, .int 0, .int 0, .int 0, .ref q31, .null, .int 0])), (q7, .inl (cI, 12, .inl (fun _ => 0))), (q15, .inl (cI, 12, .inl (fun _ => 0))), (q23, .inl (cI, 12, .inl (fun _ => 0))), (q31, .inl (cI, 12, .inl (fun _ => 0)))] := hD
  refine lv_aload_n hx hb dX1_init_36 rfl (lv_at hl 0 rfl) ?_
  refine lv_bipush (v := 12) hx hb dX1_init_37 rfl ?_
  refine va_newa (atype := .int) (ty := .int) (a0 := (12, .inl (fun _ => 0))) hx hb (hin (xe_wd_mem (n := 117) (u := .arrayClass .int) (by decide +kernel))) rfl hK hP hD hS hA (fun _ => rfl) (by decide) rfl (by decide) (Nat.le_of_ble_eq_true rfl) (Nat.le_of_ble_eq_true rfl) dX1_init_39 (fun q39 cA H hK1 hP hD hS => ?_)
  obtain rfl := (y_cyI hK1).symm
  have hP : va_P D xCLs [(h0, .inr (1, [.null, .null, .null, .ref q7, .ref q15, .ref q23, .int 0, .int 0, .int 0, .int 0, .ref q31, .null, .int 0])), (q7, .inl (cI, 12, .inl (fun _ => 0))), (q15, .inl (cI, 12, .inl (fun _ => 0))), (q23, .inl (cI, 12, .inl (fun _ => 0))), (q31, .inl (cI, 12, .inl (fun _ => 0))), (q39, .inl (cI, 12, .inl (fun _ => 0)))] H := hP
  have hD : va_D A [(h0, .inr (1, [.null, .null, .null, .ref q7, .ref q15, .ref q23, .int 0, .int 0, .int 0, .int 0, .ref q31, .null, .int 0])), (q7, .inl (cI, 12, .inl (fun _ => 0))), (q15, .inl (cI, 12, .inl (fun _ => 0))), (q23, .inl (cI, 12, .inl (fun _ => 0))), (q31, .inl (cI, 12, .inl (fun _ => 0))), (q39, .inl (cI, 12, .inl (fun _ => 0)))] := hD
  refine W.widen (k := 5) (n := 60) (by omega) (by omega) ?_
  refine va_putF (D := D) (ci := 1) (v := .ref q39) (ty := .array .int) (C := RX1) (T := TX1) (N := 13) hx hb hts (y_in 1 rfl) tyX1 tyX1_ok nmX1 hown hK hP hD hS 0 rfl rfl 11 (by decide) (hin (xe_wd_mem (n := 261) (u := .fieldLink RX1 24 "WrittenBench$Mender" "keptCell" "[I") (by decide +kernel))) (fun _ h9 => h9) rfl hinit rfl (by decide +kernel) rfl rfl (Nat.le_of_ble_eq_true rfl) dX1_init_41 (fun H locs hP hD hS => ?_)
  have hP : va_P D xCLs [(h0, .inr (1, [.null, .null, .null, .ref q7, .ref q15, .ref q23, .int 0, .int 0, .int 0, .int 0, .ref q31, .ref q39, .int 0])), (q7, .inl (cI, 12, .inl (fun _ => 0))), (q15, .inl (cI, 12, .inl (fun _ => 0))), (q23, .inl (cI, 12, .inl (fun _ => 0))), (q31, .inl (cI, 12, .inl (fun _ => 0))), (q39, .inl (cI, 12, .inl (fun _ => 0)))] H := hP
  have hD : va_D A [(h0, .inr (1, [.null, .null, .null, .ref q7, .ref q15, .ref q23, .int 0, .int 0, .int 0, .int 0, .ref q31, .ref q39, .int 0])), (q7, .inl (cI, 12, .inl (fun _ => 0))), (q15, .inl (cI, 12, .inl (fun _ => 0))), (q23, .inl (cI, 12, .inl (fun _ => 0))), (q31, .inl (cI, 12, .inl (fun _ => 0))), (q39, .inl (cI, 12, .inl (fun _ => 0)))] := hD
  refine lv_aload_n hx hb dX1_init_44 rfl (lv_at hl 0 rfl) ?_
  refine lv_iconst (v := 0) hx hb dX1_init_45 rfl ?_
  refine va_put (D := D) (ci := 1) (v := .int 0) (ty := .int) (C := RX1) (T := TX1) (N := 13) hx hb hts (y_in 1 rfl) tyX1 tyX1_ok nmX1 hown hK hP hD hS 0 rfl rfl 12 (by decide) (hin (xe_wd_mem (n := 263) (u := .fieldLink RX1 27 "WrittenBench$Mender" "keptCount" "I") (by decide +kernel))) (fun _ h9 => h9) rfl (by decide +kernel) rfl rfl (Nat.le_of_ble_eq_true rfl) dX1_init_46 (fun H locs hP hD hS => ?_)
  have hP : va_P D xCLs [(h0, .inr (1, [.null, .null, .null, .ref q7, .ref q15, .ref q23, .int 0, .int 0, .int 0, .int 0, .ref q31, .ref q39, .int 0])), (q7, .inl (cI, 12, .inl (fun _ => 0))), (q15, .inl (cI, 12, .inl (fun _ => 0))), (q23, .inl (cI, 12, .inl (fun _ => 0))), (q31, .inl (cI, 12, .inl (fun _ => 0))), (q39, .inl (cI, 12, .inl (fun _ => 0)))] H := hP
  have hD : va_D A [(h0, .inr (1, [.null, .null, .null, .ref q7, .ref q15, .ref q23, .int 0, .int 0, .int 0, .int 0, .ref q31, .ref q39, .int 0])), (q7, .inl (cI, 12, .inl (fun _ => 0))), (q15, .inl (cI, 12, .inl (fun _ => 0))), (q23, .inl (cI, 12, .inl (fun _ => 0))), (q31, .inl (cI, 12, .inl (fun _ => 0))), (q39, .inl (cI, 12, .inl (fun _ => 0)))] := hD
  refine lv_aload_n hx hb dX1_init_49 rfl (lv_at hl 0 rfl) ?_
  refine lv_aload_n hx hb dX1_init_50 rfl (lv_at hl 1 rfl) ?_
  refine va_putF (D := D) (ci := 1) (v := .ref a1) (ty := .object "WrittenBench$Program") (C := RX1) (T := TX1) (N := 13) hx hb hts (y_in 1 rfl) tyX1 tyX1_ok nmX1 hown hK hP hD hS 0 rfl rfl 0 (by decide) (hin (xe_wd_mem (n := 249) (u := .fieldLink RX1 31 "WrittenBench$Mender" "program" "LWrittenBench$Program;") (by decide +kernel))) (fun _ h9 => h9) rfl hinit rfl (by decide +kernel) rfl rfl (Nat.le_of_ble_eq_true rfl) dX1_init_51 (fun H locs hP hD hS => ?_)
  have hP : va_P D xCLs [(h0, .inr (1, [.ref a1, .null, .null, .ref q7, .ref q15, .ref q23, .int 0, .int 0, .int 0, .int 0, .ref q31, .ref q39, .int 0])), (q7, .inl (cI, 12, .inl (fun _ => 0))), (q15, .inl (cI, 12, .inl (fun _ => 0))), (q23, .inl (cI, 12, .inl (fun _ => 0))), (q31, .inl (cI, 12, .inl (fun _ => 0))), (q39, .inl (cI, 12, .inl (fun _ => 0)))] H := hP
  have hD : va_D A [(h0, .inr (1, [.ref a1, .null, .null, .ref q7, .ref q15, .ref q23, .int 0, .int 0, .int 0, .int 0, .ref q31, .ref q39, .int 0])), (q7, .inl (cI, 12, .inl (fun _ => 0))), (q15, .inl (cI, 12, .inl (fun _ => 0))), (q23, .inl (cI, 12, .inl (fun _ => 0))), (q31, .inl (cI, 12, .inl (fun _ => 0))), (q39, .inl (cI, 12, .inl (fun _ => 0)))] := hD
  refine lv_aload_n hx hb dX1_init_54 rfl (lv_at hl 0 rfl) ?_
  refine lv_aload_n hx hb dX1_init_55 rfl (lv_at hl 2 rfl) ?_
  refine va_putF (D := D) (ci := 1) (v := .ref a2) (ty := .object "WrittenBench$Flow") (C := RX1) (T := TX1) (N := 13) hx hb hts (y_in 1 rfl) tyX1 tyX1_ok nmX1 hown hK hP hD hS 0 rfl rfl 1 (by decide) (hin (xe_wd_mem (n := 250) (u := .fieldLink RX1 35 "WrittenBench$Mender" "plain" "LWrittenBench$Flow;") (by decide +kernel))) (fun _ h9 => h9) rfl hinit rfl (by decide +kernel) rfl rfl (Nat.le_of_ble_eq_true rfl) dX1_init_56 (fun H locs hP hD hS => ?_)
  have hP : va_P D xCLs [(h0, .inr (1, [.ref a1, .ref a2, .null, .ref q7, .ref q15, .ref q23, .int 0, .int 0, .int 0, .int 0, .ref q31, .ref q39, .int 0])), (q7, .inl (cI, 12, .inl (fun _ => 0))), (q15, .inl (cI, 12, .inl (fun _ => 0))), (q23, .inl (cI, 12, .inl (fun _ => 0))), (q31, .inl (cI, 12, .inl (fun _ => 0))), (q39, .inl (cI, 12, .inl (fun _ => 0)))] H := hP
  have hD : va_D A [(h0, .inr (1, [.ref a1, .ref a2, .null, .ref q7, .ref q15, .ref q23, .int 0, .int 0, .int 0, .int 0, .ref q31, .ref q39, .int 0])), (q7, .inl (cI, 12, .inl (fun _ => 0))), (q15, .inl (cI, 12, .inl (fun _ => 0))), (q23, .inl (cI, 12, .inl (fun _ => 0))), (q31, .inl (cI, 12, .inl (fun _ => 0))), (q39, .inl (cI, 12, .inl (fun _ => 0)))] := hD
  refine lv_aload_n hx hb dX1_init_59 rfl (lv_at hl 0 rfl) ?_
  refine lv_aload_n hx hb dX1_init_60 rfl (lv_at hl 3 rfl) ?_
  refine va_putF (D := D) (ci := 1) (v := .ref a3) (ty := .object "WrittenBench$Flow") (C := RX1) (T := TX1) (N := 13) hx hb hts (y_in 1 rfl) tyX1 tyX1_ok nmX1 hown hK hP hD hS 0 rfl rfl 2 (by decide) (hin (xe_wd_mem (n := 251) (u := .fieldLink RX1 39 "WrittenBench$Mender" "other" "LWrittenBench$Flow;") (by decide +kernel))) (fun _ h9 => h9) rfl hinit rfl (by decide +kernel) rfl rfl (Nat.le_of_ble_eq_true rfl) dX1_init_61 (fun H locs hP hD hS => ?_)
  have hP : va_P D xCLs [(h0, .inr (1, [.ref a1, .ref a2, .ref a3, .ref q7, .ref q15, .ref q23, .int 0, .int 0, .int 0, .int 0, .ref q31, .ref q39, .int 0])), (q7, .inl (cI, 12, .inl (fun _ => 0))), (q15, .inl (cI, 12, .inl (fun _ => 0))), (q23, .inl (cI, 12, .inl (fun _ => 0))), (q31, .inl (cI, 12, .inl (fun _ => 0))), (q39, .inl (cI, 12, .inl (fun _ => 0)))] H := hP
  have hD : va_D A [(h0, .inr (1, [.ref a1, .ref a2, .ref a3, .ref q7, .ref q15, .ref q23, .int 0, .int 0, .int 0, .int 0, .ref q31, .ref q39, .int 0])), (q7, .inl (cI, 12, .inl (fun _ => 0))), (q15, .inl (cI, 12, .inl (fun _ => 0))), (q23, .inl (cI, 12, .inl (fun _ => 0))), (q31, .inl (cI, 12, .inl (fun _ => 0))), (q39, .inl (cI, 12, .inl (fun _ => 0)))] := hD
  have hP9 := hP.sub (ws' := [(h0, .inr (1, [.ref a1, .ref a2, .ref a3, .ref ((fun k => [q7, q15, q23, q31, q39].getD k 0) 0), .ref ((fun k => [q7, q15, q23, q31, q39].getD k 0) 1), .ref ((fun k => [q7, q15, q23, q31, q39].getD k 0) 2), .int 0, .int 0, .int 0, .int 0, .ref ((fun k => [q7, q15, q23, q31, q39].getD k 0) 3), .ref ((fun k => [q7, q15, q23, q31, q39].getD k 0) 4), .int 0])), (((fun k => [q7, q15, q23, q31, q39].getD k 0) 0), .inl (cI, 12, .inl (fun _ => 0))), (((fun k => [q7, q15, q23, q31, q39].getD k 0) 1), .inl (cI, 12, .inl (fun _ => 0))), (((fun k => [q7, q15, q23, q31, q39].getD k 0) 2), .inl (cI, 12, .inl (fun _ => 0))), (((fun k => [q7, q15, q23, q31, q39].getD k 0) 3), .inl (cI, 12, .inl (fun _ => 0))), (((fun k => [q7, q15, q23, q31, q39].getD k 0) 4), .inl (cI, 12, .inl (fun _ => 0)))]) [0, 1, 2, 3, 4, 5] rfl
  have hD9 := hD.sub (ws' := [(h0, .inr (1, [.ref a1, .ref a2, .ref a3, .ref ((fun k => [q7, q15, q23, q31, q39].getD k 0) 0), .ref ((fun k => [q7, q15, q23, q31, q39].getD k 0) 1), .ref ((fun k => [q7, q15, q23, q31, q39].getD k 0) 2), .int 0, .int 0, .int 0, .int 0, .ref ((fun k => [q7, q15, q23, q31, q39].getD k 0) 3), .ref ((fun k => [q7, q15, q23, q31, q39].getD k 0) 4), .int 0])), (((fun k => [q7, q15, q23, q31, q39].getD k 0) 0), .inl (cI, 12, .inl (fun _ => 0))), (((fun k => [q7, q15, q23, q31, q39].getD k 0) 1), .inl (cI, 12, .inl (fun _ => 0))), (((fun k => [q7, q15, q23, q31, q39].getD k 0) 2), .inl (cI, 12, .inl (fun _ => 0))), (((fun k => [q7, q15, q23, q31, q39].getD k 0) 3), .inl (cI, 12, .inl (fun _ => 0))), (((fun k => [q7, q15, q23, q31, q39].getD k 0) 4), .inl (cI, 12, .inl (fun _ => 0)))]) [0, 1, 2, 3, 4, 5] (by decide +kernel) rfl
  exact W.vret hx hb hr (fun t ht hW => ⟨⟨(fun k => [q7, q15, q23, q31, q39].getD k 0), rfl, trivial, by rw [ht]; exact hP9, hD9⟩, hS.F ht⟩) hS.2.2 dX1_init_64
def xw_go (cI cZ : ClassId) (ρ : Nat → Nat) : Nat → xC → va_W
  | _, [] => []
  | i, e :: t => (ρ i, xd cI cZ ρ e) :: xw_go cI cZ ρ (i + 1) t
theorem xw_go_at (cI cZ : ClassId) (ρ : Nat → Nat) (C : xC) (i j : Nat) : (xw_go cI cZ ρ i C)[j]? = C[j]?.map (fun e => (ρ (i + j), xd cI cZ ρ e)) := by
  induction C generalizing i j with
  | nil => simp [xw_go]
  | cons e t ih =>
    cases j with
    | zero => simp [xw_go]
    | succ j =>
      simp only [xw_go, List.getElem?_cons_succ, ih]
      rw [show i + 1 + j = i + (j + 1) by omega]
theorem xw_go_eq (cI cZ : ClassId) (ρ : Nat → Nat) (C : xC) : xw cI cZ ρ C = xw_go cI cZ ρ 0 C := by
  apply List.ext_getElem?
  intro j
  rw [xw_go_at]
  simp [xw]
def Cx0 : xC := Cx.set 8 (.inl (0, 6, .inl (upd (upd (upd (upd (upd (upd (fun _ => 0) 0 1) 1 1) 2 1) 3 1) 4 1) 5 1)))
def Cm0 : xC := Cm.set 3 (.inl (0, 6, .inl (upd (upd (upd (upd (upd (upd (fun _ => 0) 0 1) 1 1) 2 1) 3 1) 4 1) 5 1)))
