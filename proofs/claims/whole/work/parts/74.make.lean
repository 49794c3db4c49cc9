theorem ini_K : Cond.initialized RK ∈ mj_all := (mj_mem 1 (by decide +kernel) rfl)
theorem ins_K : Cond.instantiable RK 8 ∈ mj_all := (mj_mem 9 (by decide +kernel) rfl)
theorem ini_T : Cond.initialized RT ∈ mj_all := (mj_mem 6 (by decide +kernel) rfl)
theorem ins_T : Cond.instantiable RT 9 ∈ mj_all := (mj_mem 75 (by decide +kernel) rfl)
theorem ini_N : Cond.initialized RN ∈ mj_all := (mj_mem 2 (by decide +kernel) rfl)
theorem ins_N : Cond.instantiable RN 2 ∈ mj_all := (mj_mem 19 (by decide +kernel) rfl)
theorem ini_G : Cond.initialized RG ∈ mj_all := (mj_mem 3 (by decide +kernel) rfl)
theorem ins_G : Cond.instantiable RG 5 ∈ mj_all := (mj_mem 34 (by decide +kernel) rfl)
theorem ini_P : Cond.initialized RP ∈ mj_all := (mj_mem 4 (by decide +kernel) rfl)
theorem ins_P : Cond.instantiable RP 2 ∈ mj_all := (mj_mem 57 (by decide +kernel) rfl)
theorem ini_M : Cond.initialized RM ∈ mj_all := (mj_mem 7 (by decide +kernel) rfl)
theorem ins_M : Cond.instantiable RM 29 ∈ mj_all := (mj_mem 399 (by decide +kernel) rfl)
theorem ini_L : Cond.initialized RL ∈ mj_all := (mj_mem 0 (by decide +kernel) rfl)
theorem n_L_7 : Cond.classLink RL 7 RK ∈ mj_all := (mj_mem 8 (by decide +kernel) rfl)
theorem o_K : Cond.methodLink RK 3 objectInit ∈ mj_all := (mj_mem 13 (by decide +kernel) rfl)
theorem n_K_13 : Cond.classLink RK 13 RT ∈ mj_all := (mj_mem 16 (by decide +kernel) rfl)
theorem n_K_19 : Cond.classLink RK 19 RN ∈ mj_all := (mj_mem 18 (by decide +kernel) rfl)
theorem o_N : Cond.methodLink RN 3 objectInit ∈ mj_all := (mj_mem 23 (by decide +kernel) rfl)
theorem n_K_30 : Cond.classLink RK 30 RG ∈ mj_all := (mj_mem 33 (by decide +kernel) rfl)
theorem o_G : Cond.methodLink RG 3 objectInit ∈ mj_all := (mj_mem 38 (by decide +kernel) rfl)
theorem n_K_37 : Cond.classLink RK 37 RP ∈ mj_all := (mj_mem 56 (by decide +kernel) rfl)
theorem o_P : Cond.methodLink RP 3 objectInit ∈ mj_all := (mj_mem 61 (by decide +kernel) rfl)
theorem o_T : Cond.methodLink RT 3 objectInit ∈ mj_all := (mj_mem 79 (by decide +kernel) rfl)
theorem n_L_18 : Cond.classLink RL 18 RM ∈ mj_all := (mj_mem 398 (by decide +kernel) rfl)
theorem o_M : Cond.methodLink RM 1 objectInit ∈ mj_all := (mj_mem 403 (by decide +kernel) rfl)
theorem o_inst : Cond.instanceMethod objectInit ∈ mj_all := (mj_mem 14 (by decide +kernel) rfl)
theorem o_code : Cond.code objectInit ⟨#[0xb1]⟩ 1 none ∈ mj_all := mj_mem 15 (by decide +kernel) rfl
theorem a_T : Cond.arrayOver (.object RT) ∈ lw_tbl := List.mem_append_right _ (List.mem_of_getElem? (i := 17) (by decide +kernel))
theorem a_I : Cond.arrayClass .int ∈ mj_all := mj_mem 31 (by decide +kernel) rfl
theorem a_N : Cond.arrayOver (.object RN) ∈ lw_tbl := List.mem_append_right _ (List.mem_of_getElem? (i := 32) (by decide +kernel))
theorem a_Z : Cond.arrayClass .boolean ∈ mj_all := mj_mem 55 (by decide +kernel) rfl
theorem h_K_init : Cond.code yK_init cK_init 3 none ∈ mj_all := mj_mem 12 (by decide +kernel) rfl
theorem gC_K_init : GoodIn mj_all (Cond.code yK_init cK_init 3 none :: mj_all) := mj_gC h_K_init
theorem z_K_init : yK_init.cls ≠ "java/lang/invoke/MethodHandle" ∧ yK_init.cls ≠ "java/lang/invoke/VarHandle" ∧ (parseMethodDescriptor yK_init.desc).map (fun d => d.parameters.length) = some 1 := by decide +kernel
theorem i_K_init : Cond.instanceMethod yK_init ∈ mj_all := (mj_mem 11 (by decide +kernel) rfl)
theorem h_N_init : Cond.code yN_init cN_init 1 none ∈ mj_all := mj_mem 22 (by decide +kernel) rfl
theorem gC_N_init : GoodIn mj_all (Cond.code yN_init cN_init 1 none :: mj_all) := mj_gC h_N_init
theorem z_N_init : yN_init.cls ≠ "java/lang/invoke/MethodHandle" ∧ yN_init.cls ≠ "java/lang/invoke/VarHandle" ∧ (parseMethodDescriptor yN_init.desc).map (fun d => d.parameters.length) = some 0 := by decide +kernel
theorem i_N_init : Cond.instanceMethod yN_init ∈ mj_all := (mj_mem 21 (by decide +kernel) rfl)
theorem h_G_init : Cond.code yG_init cG_init 1 none ∈ mj_all := mj_mem 37 (by decide +kernel) rfl
theorem gC_G_init : GoodIn mj_all (Cond.code yG_init cG_init 1 none :: mj_all) := mj_gC h_G_init
theorem z_G_init : yG_init.cls ≠ "java/lang/invoke/MethodHandle" ∧ yG_init.cls ≠ "java/lang/invoke/VarHandle" ∧ (parseMethodDescriptor yG_init.desc).map (fun d => d.parameters.length) = some 0 := by decide +kernel
theorem i_G_init : Cond.instanceMethod yG_init ∈ mj_all := (mj_mem 36 (by decide +kernel) rfl)
theorem h_P_init : Cond.code yP_init cP_init 1 none ∈ mj_all := mj_mem 60 (by decide +kernel) rfl
theorem gC_P_init : GoodIn mj_all (Cond.code yP_init cP_init 1 none :: mj_all) := mj_gC h_P_init
theorem z_P_init : yP_init.cls ≠ "java/lang/invoke/MethodHandle" ∧ yP_init.cls ≠ "java/lang/invoke/VarHandle" ∧ (parseMethodDescriptor yP_init.desc).map (fun d => d.parameters.length) = some 0 := by decide +kernel
theorem i_P_init : Cond.instanceMethod yP_init ∈ mj_all := (mj_mem 59 (by decide +kernel) rfl)
theorem h_T_init : Cond.code yT_init cT_init 1 none ∈ mj_all := mj_mem 78 (by decide +kernel) rfl
theorem gC_T_init : GoodIn mj_all (Cond.code yT_init cT_init 1 none :: mj_all) := mj_gC h_T_init
theorem z_T_init : yT_init.cls ≠ "java/lang/invoke/MethodHandle" ∧ yT_init.cls ≠ "java/lang/invoke/VarHandle" ∧ (parseMethodDescriptor yT_init.desc).map (fun d => d.parameters.length) = some 0 := by decide +kernel
theorem i_T_init : Cond.instanceMethod yT_init ∈ mj_all := (mj_mem 77 (by decide +kernel) rfl)
theorem h_M_init : Cond.code yM_init cM_init 2 none ∈ mj_all := mj_mem 402 (by decide +kernel) rfl
theorem gC_M_init : GoodIn mj_all (Cond.code yM_init cM_init 2 none :: mj_all) := mj_gC h_M_init
theorem z_M_init : yM_init.cls ≠ "java/lang/invoke/MethodHandle" ∧ yM_init.cls ≠ "java/lang/invoke/VarHandle" ∧ (parseMethodDescriptor yM_init.desc).map (fun d => d.parameters.length) = some 1 := by decide +kernel
theorem i_M_init : Cond.instanceMethod yM_init ∈ mj_all := (mj_mem 401 (by decide +kernel) rfl)
theorem h_L_cell : Cond.code yL_cell cL_cell 2 (some .int) ∈ mj_all := mj_mem 397 (by decide +kernel) rfl
theorem gC_L_cell : GoodIn mj_all (Cond.code yL_cell cL_cell 2 (some .int) :: mj_all) := mj_gC h_L_cell
theorem z_L_cell : yL_cell.cls ≠ "java/lang/invoke/MethodHandle" ∧ yL_cell.cls ≠ "java/lang/invoke/VarHandle" ∧ (parseMethodDescriptor yL_cell.desc).map (fun d => d.parameters.length) = some 2 := by decide +kernel
theorem i_L_cell : Cond.static yL_cell ∈ mj_all := (mj_mem 396 (by decide +kernel) rfl)
theorem k_min_l : Cond.methodLink RK 44 Lib.Math.min.name ∈ mj_all := mj_mem 69 (by decide +kernel) rfl
theorem k_min_s : Cond.static Lib.Math.min.name ∈ mj_all := mj_mem 70 (by decide +kernel) rfl
theorem k_min_c : Cond.code Lib.Math.min.name Lib.Math.min.code 2 (some .int) ∈ mj_all := mj_mem 71 (by decide +kernel) rfl
theorem k_max_l : Cond.methodLink RK 50 Lib.Math.max.name ∈ mj_all := mj_mem 72 (by decide +kernel) rfl
theorem k_max_s : Cond.static Lib.Math.max.name ∈ mj_all := mj_mem 73 (by decide +kernel) rfl
theorem k_max_c : Cond.code Lib.Math.max.name Lib.Math.max.code 2 (some .int) ∈ mj_all := mj_mem 74 (by decide +kernel) rfl
theorem k_math : Cond.initialized "java/lang/Math" ∈ mj_all := mj_mem 5 (by decide +kernel) rfl
abbrev mi_TY (ca : Nat → ClassId) : List (ClassId × FieldType) := [(ca 0, .int), (ca 1, .boolean), (ca 2, .object "GrantKernel$Task"), (ca 3, .object "GrantKernel$Line")]
theorem mi_ty {D : va_G} {cl : List vw_C} {tys : List (ClassId × FieldType)} {U : State} {i j : Nat} {c c' : ClassId} {ty : FieldType} (hK : va_K D cl tys U) (hi : tys[i]? = some (c, ty)) (hj : tys[j]? = some (c', ty)) (hty : ty = .int ∨ ty = .boolean ∨ ∃ C, ty = .object C) : c' = c := by
  have h1 := (hK.2 i _ hi).2
  have h2 := (hK.2 j _ hj).2
  rcases hty with rfl | rfl | ⟨C, rfl⟩
  · exact Option.some.inj (h2.symm.trans h1)
  · exact Option.some.inj (h2.symm.trans h1)
  · obtain ⟨_, _, _, _, _, f1⟩ := h1
    obtain ⟨_, _, _, _, _, f2⟩ := h2
    exact Option.some.inj (f2.symm.trans f1)
section MI
variable {p : Program} {l : Launch} {e : Env} {R : Room} {s : State} {m : MethodId} {args : Array Value} {below : List Frame} {meth : Method} {c : Code} {H H0 : Heap} {locs : List Loc} {cells slots : Nat} {Q : State → Prop} {D : va_G} {cl : List vw_C} {ws : va_W} {A : Nat → Prop} {ca : Nat → ClassId} {cc : ByteArray} {pc : Nat} {ls : Array Slot} {rest : List Value}
theorem mi_newI (hexec : p.tables.exec = Jvm.exec) (hb : c.code = cc) (harr : (Cond.arrayClass .int).before args s = true) (hK : va_K D cl (mi_TY ca) s) (hP : va_P D cl ws H) (hD : va_D A ws) (hS : va_S A H0 H locs) (hA : ∀ q, H0.size ≤ q → A q) {n : Int32} (N' : Nat) (hn : ¬ n < 0) (hN : n.toNatClampNeg = N') (hbytes : N' * 4 ≤ 536870912) (hcells : cells + 1 ≤ R.cells) (hslots : slots + N' ≤ R.slots) (hdg : decode cc pc = .ok (.newarray .int, 2))
    (kk : ∀ (q : Nat) (H1 : Heap), va_P D cl (ws ++ [(q, .inl (ca 0, N', .inl (fun _ => 0)))]) H1 → va_D A (ws ++ [(q, .inl (ca 0, N', .inl (fun _ => 0)))]) → va_S A H0 H1 locs → W p l e R s m args below meth c H1 locs (cells + 1) (slots + N') Q (F0 m (pc + 2) ls (.ref q :: rest))) : W p l e R s m args below meth c H locs cells slots Q (F0 m pc ls (.int n :: rest)) := by
  refine va_newa (atype := .int) (ty := .int) (a0 := (N', .inl (fun _ => 0))) hexec hb harr rfl hK hP hD hS hA (fun cA => rfl) hn hN hbytes hcells hslots hdg (fun q cA H1 hK1 hP1 hD1 hS1 => ?_)
  obtain rfl : cA = ca 0 := mi_ty (i := 0) (j := 4) hK1 rfl rfl (Or.inl rfl)
  exact kk q H1 hP1 hD1 hS1
theorem mi_newZ (hexec : p.tables.exec = Jvm.exec) (hb : c.code = cc) (harr : (Cond.arrayClass .boolean).before args s = true) (hK : va_K D cl (mi_TY ca) s) (hP : va_P D cl ws H) (hD : va_D A ws) (hS : va_S A H0 H locs) (hA : ∀ q, H0.size ≤ q → A q) {n : Int32} (N' : Nat) (hn : ¬ n < 0) (hN : n.toNatClampNeg = N') (hbytes : N' * 1 ≤ 536870912) (hcells : cells + 1 ≤ R.cells) (hslots : slots + N' ≤ R.slots) (hdg : decode cc pc = .ok (.newarray .boolean, 2))
    (kk : ∀ (q : Nat) (H1 : Heap), va_P D cl (ws ++ [(q, .inl (ca 1, N', .inl (fun _ => 0)))]) H1 → va_D A (ws ++ [(q, .inl (ca 1, N', .inl (fun _ => 0)))]) → va_S A H0 H1 locs → W p l e R s m args below meth c H1 locs (cells + 1) (slots + N') Q (F0 m (pc + 2) ls (.ref q :: rest))) : W p l e R s m args below meth c H locs cells slots Q (F0 m pc ls (.int n :: rest)) := by
  refine va_newa (atype := .boolean) (ty := .boolean) (a0 := (N', .inl (fun _ => 0))) hexec hb harr rfl hK hP hD hS hA (fun cA => rfl) hn hN hbytes hcells hslots hdg (fun q cA H1 hK1 hP1 hD1 hS1 => ?_)
  obtain rfl : cA = ca 1 := mi_ty (i := 1) (j := 4) hK1 rfl rfl (Or.inr (Or.inl rfl))
  exact kk q H1 hP1 hD1 hS1
theorem mi_newQ (hexec : p.tables.exec = Jvm.exec) (hb : c.code = cc) {own C : String} {index : Nat} (i : Nat) (hown : s.vm.findClass own = some m.cls) (hclink : (Cond.classLink own index C).before args s = true) (hover : va_AO C s) (hK : va_K D cl (mi_TY ca) s) (hi : (mi_TY ca)[i]? = some (ca i, .object C)) (hP : va_P D cl ws H) (hD : va_D A ws) (hS : va_S A H0 H locs) (hA : ∀ q, H0.size ≤ q → A q) {n : Int32} (N' : Nat) (hn : ¬ n < 0) (hN : n.toNatClampNeg = N') (hbytes : N' * 4 ≤ 536870912) (hcells : cells + 1 ≤ R.cells) (hslots : slots + N' ≤ R.slots) (hdg : decode cc pc = .ok (.anewarray index, 3))
    (kk : ∀ (q : Nat) (H1 : Heap), va_P D cl (ws ++ [(q, .inl (ca i, N', .inr (.inr (.inr (.inr (fun _ => none))))))]) H1 → va_D A (ws ++ [(q, .inl (ca i, N', .inr (.inr (.inr (.inr (fun _ => none))))))]) → va_S A H0 H1 locs → W p l e R s m args below meth c H1 locs (cells + 1) (slots + N') Q (F0 m (pc + 3) ls (.ref q :: rest))) : W p l e R s m args below meth c H locs cells slots Q (F0 m pc ls (.int n :: rest)) := by
  refine va_newq (C := C) hexec hb hown hclink hover hK hP hD hS hA hn hN hbytes hcells hslots hdg (fun q cA H1 hK1 hP1 hD1 hS1 => ?_)
  have hi' : (mi_TY ca ++ [(cA, FieldType.object C)])[i]? = some (ca i, .object C) := by
    rw [List.getElem?_append_left (List.getElem?_eq_some_iff.mp hi).1]; exact hi
  obtain rfl : cA = ca i := mi_ty (i := i) (j := 4) hK1 hi' rfl (Or.inr (Or.inr ⟨C, rfl⟩))
  exact kk q H1 hP1 hD1 hS1
end MI
