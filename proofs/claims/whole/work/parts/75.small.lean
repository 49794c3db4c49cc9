/-! the small constructors -/
set_option maxRecDepth 100000 in
set_option maxHeartbeats 8000000 in
/-- Line() -/
theorem mN_init (l : Launch) (D : va_G) (ca : Nat → ClassId) (h0 sz : Nat) : Met l yN_init (Cond.code yN_init cN_init 1 none :: mj_all) ({ frames := 1, cells := 1, slots := 6, locals := 12 }) (va_Pc [.ref h0] (fun U => U.heap.size = sz ∧ va_P D mj_cl [(h0, .inr (2, [.null, .int 0]))] U.heap ∧ va_K D mj_cl (mi_TY ca) U ∧ va_D (fun _ => True) [(h0, .inr (2, [.null, .int 0]))])) (va_Qv (fun _ : Unit => True) (fun _ t => ∃ q1 : Nat, va_P D mj_cl [(h0, .inr (2, [.ref q1, .int 0])), (q1, .inl (ca 0, 6, .inl (fun _ => 0)))] t.heap ∧ va_D (va_A [(h0, .inr (2, [.null, .int 0]))] sz) [(h0, .inr (2, [.ref q1, .int 0])), (q1, .inl (ca 0, 6, .inl (fun _ => 0)))]) (va_A [(h0, .inr (2, [.null, .int 0]))] sz)) 1 6 (va_A [(h0, .inr (2, [.null, .int 0]))] sz) := by
  refine Met.ofW (cc := cN_init) (maxL := 1) (ret := none) (by decide) rfl ?_
  intro p e s m args below meth c s₁ B hml hv
  obtain ⟨rfl, hsz, hP, hK, hD0⟩ := hv
  have hx := B.exec
  have hb := B.bytes
  have hr := B.returns
  have hts0 := atoms_spec (ws := Cond.code yN_init cN_init 1 none :: mj_all) B.pre
  have hts : ∀ w ∈ mj_all, w.before _ s = true := fun w hw => hts0 w (List.mem_cons_of_mem _ hw)
  have hown : s.vm.findClass RN = some m.cls := findClass_of_methodNamed B.named
  have hlocks := B.notSynchronized
  have hin : meth.name = "<init>" := (name_of_methodNamed B.named B.method).1
  subst hsz
  have hD := hD0.self (sz := s.heap.size)
  generalize hAe : va_A [(h0, .inr (2, [.null, .int 0]))] s.heap.size = A at hD ⊢
  have hA : ∀ q : Nat, s.heap.size ≤ q → A q := fun q h => by rw [← hAe]; exact Or.inr h
  have hS : va_S A s.heap s.heap [] := va_S.rf
  have hP : va_P D mj_cl [(h0, .inr (2, [.null, .int 0]))] s.heap := hP
  have hl := lv_entry ([.ref h0]) (n := 1) (Nat.le_of_ble_eq_true rfl)
  rw [lg_entry_eq]
  generalize (lg_sl ([.ref h0]) ++ List.replicate (1 - (lg_sl ([.ref h0])).length) Slot.unset).toArray = ls at hl ⊢
  have hl : lv_has ls 1 [(0, .ref h0)] := hl
  refine lv_aload_n hx hb dN_init_0 rfl (lv_at hl 0 rfl) ?_
  refine W.objInit hx hb hown (hts _ o_N) (hts _ o_inst) (hts _ o_code) rfl (by rw [hml]; exact hl.1) rfl dN_init_1 (Nat.le_of_ble_eq_true rfl) (Nat.le_of_ble_eq_true rfl) ?_
  refine W.eq (g2 := F0 m 4 ls []) rfl ?_
  refine lv_aload_n hx hb dN_init_4 rfl (lv_at hl 0 rfl) ?_
  refine lv_bipush (v := 6) hx hb dN_init_5 (by decide) ?_
  refine mi_newI hx hb (hts _ a_I) hK hP hD hS hA 6 (by decide) (by decide) (by decide) (Nat.le_of_ble_eq_true rfl) (Nat.le_of_ble_eq_true rfl) dN_init_7 (fun q1 H hP hD hS => ?_)
  have hP : va_P D mj_cl [(h0, .inr (2, [.null, .int 0])), (q1, .inl (ca 0, 6, .inl (fun _ => 0)))] H := hP
  have hD : va_D A [(h0, .inr (2, [.null, .int 0])), (q1, .inl (ca 0, 6, .inl (fun _ => 0)))] := hD
  refine W.widen (k := 1) (n := 6) (by omega) (by omega) ?_
  refine va_putF (D := D) (ci := 2) (v := .ref q1) (ty := .array .int) (C := RN) (T := FN) (N := 2) hx hb hts inN_all tyN okN nmN hown hK hP hD hS 0 rfl rfl 0 (by decide) (hts _ l_N_9) (fun _ h9 => h9) rfl hin rfl (by decide +kernel) rfl rfl (Nat.le_of_ble_eq_true rfl) dN_init_9 (fun H locs hP hD hS => ?_)
  have hP : va_P D mj_cl [(h0, .inr (2, [.ref q1, .int 0])), (q1, .inl (ca 0, 6, .inl (fun _ => 0)))] H := hP
  have hD : va_D A [(h0, .inr (2, [.ref q1, .int 0])), (q1, .inl (ca 0, 6, .inl (fun _ => 0)))] := hD
  exact W.vret hx hb hr (fun t ht hW => ⟨⟨(), rfl, trivial, q1, by rw [ht]; exact hP, hD⟩, hS.F ht⟩) hS.2.2 dN_init_12
set_option maxRecDepth 100000 in
set_option maxHeartbeats 8000000 in
/-- Tape() -/
theorem mP_init (l : Launch) (D : va_G) (ca : Nat → ClassId) (h0 sz : Nat) : Met l yP_init (Cond.code yP_init cP_init 1 none :: mj_all) ({ frames := 1, cells := 1, slots := 16, locals := 12 }) (va_Pc [.ref h0] (fun U => U.heap.size = sz ∧ va_P D mj_cl [(h0, .inr (4, [.null, .int 0]))] U.heap ∧ va_K D mj_cl (mi_TY ca) U ∧ va_D (fun _ => True) [(h0, .inr (4, [.null, .int 0]))])) (va_Qv (fun _ : Unit => True) (fun _ t => ∃ q1 : Nat, va_P D mj_cl [(h0, .inr (4, [.ref q1, .int 0])), (q1, .inl (ca 0, 16, .inl (fun _ => 0)))] t.heap ∧ va_D (va_A [(h0, .inr (4, [.null, .int 0]))] sz) [(h0, .inr (4, [.ref q1, .int 0])), (q1, .inl (ca 0, 16, .inl (fun _ => 0)))]) (va_A [(h0, .inr (4, [.null, .int 0]))] sz)) 1 16 (va_A [(h0, .inr (4, [.null, .int 0]))] sz) := by
  refine Met.ofW (cc := cP_init) (maxL := 1) (ret := none) (by decide) rfl ?_
  intro p e s m args below meth c s₁ B hml hv
  obtain ⟨rfl, hsz, hP, hK, hD0⟩ := hv
  have hx := B.exec
  have hb := B.bytes
  have hr := B.returns
  have hts0 := atoms_spec (ws := Cond.code yP_init cP_init 1 none :: mj_all) B.pre
  have hts : ∀ w ∈ mj_all, w.before _ s = true := fun w hw => hts0 w (List.mem_cons_of_mem _ hw)
  have hown : s.vm.findClass RP = some m.cls := findClass_of_methodNamed B.named
  have hlocks := B.notSynchronized
  have hin : meth.name = "<init>" := (name_of_methodNamed B.named B.method).1
  subst hsz
  have hD := hD0.self (sz := s.heap.size)
  generalize hAe : va_A [(h0, .inr (4, [.null, .int 0]))] s.heap.size = A at hD ⊢
  have hA : ∀ q : Nat, s.heap.size ≤ q → A q := fun q h => by rw [← hAe]; exact Or.inr h
  have hS : va_S A s.heap s.heap [] := va_S.rf
  have hP : va_P D mj_cl [(h0, .inr (4, [.null, .int 0]))] s.heap := hP
  have hl := lv_entry ([.ref h0]) (n := 1) (Nat.le_of_ble_eq_true rfl)
  rw [lg_entry_eq]
  generalize (lg_sl ([.ref h0]) ++ List.replicate (1 - (lg_sl ([.ref h0])).length) Slot.unset).toArray = ls at hl ⊢
  have hl : lv_has ls 1 [(0, .ref h0)] := hl
  refine lv_aload_n hx hb dP_init_0 rfl (lv_at hl 0 rfl) ?_
  refine W.objInit hx hb hown (hts _ o_P) (hts _ o_inst) (hts _ o_code) rfl (by rw [hml]; exact hl.1) rfl dP_init_1 (Nat.le_of_ble_eq_true rfl) (Nat.le_of_ble_eq_true rfl) ?_
  refine W.eq (g2 := F0 m 4 ls []) rfl ?_
  refine lv_aload_n hx hb dP_init_4 rfl (lv_at hl 0 rfl) ?_
  refine lv_bipush (v := 16) hx hb dP_init_5 (by decide) ?_
  refine mi_newI hx hb (hts _ a_I) hK hP hD hS hA 16 (by decide) (by decide) (by decide) (Nat.le_of_ble_eq_true rfl) (Nat.le_of_ble_eq_true rfl) dP_init_7 (fun q1 H hP hD hS => ?_)
  have hP : va_P D mj_cl [(h0, .inr (4, [.null, .int 0])), (q1, .inl (ca 0, 16, .inl (fun _ => 0)))] H := hP
  have hD : va_D A [(h0, .inr (4, [.null, .int 0])), (q1, .inl (ca 0, 16, .inl (fun _ => 0)))] := hD
  refine W.widen (k := 1) (n := 16) (by omega) (by omega) ?_
  refine va_putF (D := D) (ci := 4) (v := .ref q1) (ty := .array .int) (C := RP) (T := FP) (N := 2) hx hb hts inP_all tyP okP nmP hown hK hP hD hS 0 rfl rfl 0 (by decide) (hts _ l_P_9) (fun _ h9 => h9) rfl hin rfl (by decide +kernel) rfl rfl (Nat.le_of_ble_eq_true rfl) dP_init_9 (fun H locs hP hD hS => ?_)
  have hP : va_P D mj_cl [(h0, .inr (4, [.ref q1, .int 0])), (q1, .inl (ca 0, 16, .inl (fun _ => 0)))] H := hP
  have hD : va_D A [(h0, .inr (4, [.ref q1, .int 0])), (q1, .inl (ca 0, 16, .inl (fun _ => 0)))] := hD
  exact W.vret hx hb hr (fun t ht hW => ⟨⟨(), rfl, trivial, q1, by rw [ht]; exact hP, hD⟩, hS.F ht⟩) hS.2.2 dP_init_12
set_option maxRecDepth 100000 in
set_option maxHeartbeats 8000000 in
/-- Task() -/
theorem mT_init (l : Launch) (D : va_G) (ca : Nat → ClassId) (h0 sz : Nat) : Met l yT_init (Cond.code yT_init cT_init 1 none :: mj_all) ({ frames := 1, cells := 1, slots := 8, locals := 12 }) (va_Pc [.ref h0] (fun U => U.heap.size = sz ∧ va_P D mj_cl [(h0, .inr (1, [.null, .int 0, .int 0, .int 0, .int 0, .int 0, .int 0, .int 0, .int 0]))] U.heap ∧ va_K D mj_cl (mi_TY ca) U ∧ va_D (fun _ => True) [(h0, .inr (1, [.null, .int 0, .int 0, .int 0, .int 0, .int 0, .int 0, .int 0, .int 0]))])) (va_Qv (fun _ : Unit => True) (fun _ t => ∃ q1 : Nat, va_P D mj_cl [(h0, .inr (1, [.ref q1, .int 0, .int 0, .int 0, .int 0, .int 0, .int (-1), .int 0, .int 0])), (q1, .inl (ca 0, 8, .inl (fun _ => 0)))] t.heap ∧ va_D (va_A [(h0, .inr (1, [.null, .int 0, .int 0, .int 0, .int 0, .int 0, .int 0, .int 0, .int 0]))] sz) [(h0, .inr (1, [.ref q1, .int 0, .int 0, .int 0, .int 0, .int 0, .int (-1), .int 0, .int 0])), (q1, .inl (ca 0, 8, .inl (fun _ => 0)))]) (va_A [(h0, .inr (1, [.null, .int 0, .int 0, .int 0, .int 0, .int 0, .int 0, .int 0, .int 0]))] sz)) 1 8 (va_A [(h0, .inr (1, [.null, .int 0, .int 0, .int 0, .int 0, .int 0, .int 0, .int 0, .int 0]))] sz) := by
  refine Met.ofW (cc := cT_init) (maxL := 1) (ret := none) (by decide) rfl ?_
  intro p e s m args below meth c s₁ B hml hv
  obtain ⟨rfl, hsz, hP, hK, hD0⟩ := hv
  have hx := B.exec
  have hb := B.bytes
  have hr := B.returns
  have hts0 := atoms_spec (ws := Cond.code yT_init cT_init 1 none :: mj_all) B.pre
  have hts : ∀ w ∈ mj_all, w.before _ s = true := fun w hw => hts0 w (List.mem_cons_of_mem _ hw)
  have hown : s.vm.findClass RT = some m.cls := findClass_of_methodNamed B.named
  have hlocks := B.notSynchronized
  have hin : meth.name = "<init>" := (name_of_methodNamed B.named B.method).1
  subst hsz
  have hD := hD0.self (sz := s.heap.size)
  generalize hAe : va_A [(h0, .inr (1, [.null, .int 0, .int 0, .int 0, .int 0, .int 0, .int 0, .int 0, .int 0]))] s.heap.size = A at hD ⊢
  have hA : ∀ q : Nat, s.heap.size ≤ q → A q := fun q h => by rw [← hAe]; exact Or.inr h
  have hS : va_S A s.heap s.heap [] := va_S.rf
  have hP : va_P D mj_cl [(h0, .inr (1, [.null, .int 0, .int 0, .int 0, .int 0, .int 0, .int 0, .int 0, .int 0]))] s.heap := hP
  have hl := lv_entry ([.ref h0]) (n := 1) (Nat.le_of_ble_eq_true rfl)
  rw [lg_entry_eq]
  generalize (lg_sl ([.ref h0]) ++ List.replicate (1 - (lg_sl ([.ref h0])).length) Slot.unset).toArray = ls at hl ⊢
  have hl : lv_has ls 1 [(0, .ref h0)] := hl
  refine lv_aload_n hx hb dT_init_0 rfl (lv_at hl 0 rfl) ?_
  refine W.objInit hx hb hown (hts _ o_T) (hts _ o_inst) (hts _ o_code) rfl (by rw [hml]; exact hl.1) rfl dT_init_1 (Nat.le_of_ble_eq_true rfl) (Nat.le_of_ble_eq_true rfl) ?_
  refine W.eq (g2 := F0 m 4 ls []) rfl ?_
  refine lv_aload_n hx hb dT_init_4 rfl (lv_at hl 0 rfl) ?_
  refine lv_bipush (v := 8) hx hb dT_init_5 (by decide) ?_
  refine mi_newI hx hb (hts _ a_I) hK hP hD hS hA 8 (by decide) (by decide) (by decide) (Nat.le_of_ble_eq_true rfl) (Nat.le_of_ble_eq_true rfl) dT_init_7 (fun q1 H hP hD hS => ?_)
  have hP : va_P D mj_cl [(h0, .inr (1, [.null, .int 0, .int 0, .int 0, .int 0, .int 0, .int 0, .int 0, .int 0])), (q1, .inl (ca 0, 8, .inl (fun _ => 0)))] H := hP
  have hD : va_D A [(h0, .inr (1, [.null, .int 0, .int 0, .int 0, .int 0, .int 0, .int 0, .int 0, .int 0])), (q1, .inl (ca 0, 8, .inl (fun _ => 0)))] := hD
  refine W.widen (k := 1) (n := 8) (by omega) (by omega) ?_
  refine va_putF (D := D) (ci := 1) (v := .ref q1) (ty := .array .int) (C := RT) (T := FT) (N := 9) hx hb hts inT_all tyT okT nmT hown hK hP hD hS 0 rfl rfl 0 (by decide) (hts _ l_T_9) (fun _ h9 => h9) rfl hin rfl (by decide +kernel) rfl rfl (Nat.le_of_ble_eq_true rfl) dT_init_9 (fun H locs hP hD hS => ?_)
  have hP : va_P D mj_cl [(h0, .inr (1, [.ref q1, .int 0, .int 0, .int 0, .int 0, .int 0, .int 0, .int 0, .int 0])), (q1, .inl (ca 0, 8, .inl (fun _ => 0)))] H := hP
  have hD : va_D A [(h0, .inr (1, [.ref q1, .int 0, .int 0, .int 0, .int 0, .int 0, .int 0, .int 0, .int 0])), (q1, .inl (ca 0, 8, .inl (fun _ => 0)))] := hD
  refine lv_aload_n hx hb dT_init_12 rfl (lv_at hl 0 rfl) ?_
  refine lv_iconst (v := 0) hx hb dT_init_13 (by decide) ?_
  refine va_put (D := D) (ci := 1) (v := .int 0) (ty := .int) (C := RT) (T := FT) (N := 9) hx hb hts inT_all tyT okT nmT hown hK hP hD hS 0 rfl rfl 1 (by decide) (hts _ l_T_15) (fun _ h9 => h9) rfl (by decide +kernel) rfl rfl (Nat.le_of_ble_eq_true rfl) dT_init_14 (fun H locs hP hD hS => ?_)
  have hP : va_P D mj_cl [(h0, .inr (1, [.ref q1, .int 0, .int 0, .int 0, .int 0, .int 0, .int 0, .int 0, .int 0])), (q1, .inl (ca 0, 8, .inl (fun _ => 0)))] H := hP
  have hD : va_D A [(h0, .inr (1, [.ref q1, .int 0, .int 0, .int 0, .int 0, .int 0, .int 0, .int 0, .int 0])), (q1, .inl (ca 0, 8, .inl (fun _ => 0)))] := hD
  refine lv_aload_n hx hb dT_init_17 rfl (lv_at hl 0 rfl) ?_
  refine lv_iconst (v := 0) hx hb dT_init_18 (by decide) ?_
  refine va_put (D := D) (ci := 1) (v := .int 0) (ty := .int) (C := RT) (T := FT) (N := 9) hx hb hts inT_all tyT okT nmT hown hK hP hD hS 0 rfl rfl 2 (by decide) (hts _ l_T_19) (fun _ h9 => h9) rfl (by decide +kernel) rfl rfl (Nat.le_of_ble_eq_true rfl) dT_init_19 (fun H locs hP hD hS => ?_)
  have hP : va_P D mj_cl [(h0, .inr (1, [.ref q1, .int 0, .int 0, .int 0, .int 0, .int 0, .int 0, .int 0, .int 0])), (q1, .inl (ca 0, 8, .inl (fun _ => 0)))] H := hP
  have hD : va_D A [(h0, .inr (1, [.ref q1, .int 0, .int 0, .int 0, .int 0, .int 0, .int 0, .int 0, .int 0])), (q1, .inl (ca 0, 8, .inl (fun _ => 0)))] := hD
  refine lv_aload_n hx hb dT_init_22 rfl (lv_at hl 0 rfl) ?_
  refine lv_iconst (v := (-1)) hx hb dT_init_23 (by decide) ?_
  refine va_put (D := D) (ci := 1) (v := .int (-1)) (ty := .int) (C := RT) (T := FT) (N := 9) hx hb hts inT_all tyT okT nmT hown hK hP hD hS 0 rfl rfl 6 (by decide) (hts _ l_T_22) (fun _ h9 => h9) rfl (by decide +kernel) rfl rfl (Nat.le_of_ble_eq_true rfl) dT_init_24 (fun H locs hP hD hS => ?_)
  have hP : va_P D mj_cl [(h0, .inr (1, [.ref q1, .int 0, .int 0, .int 0, .int 0, .int 0, .int (-1), .int 0, .int 0])), (q1, .inl (ca 0, 8, .inl (fun _ => 0)))] H := hP
  have hD : va_D A [(h0, .inr (1, [.ref q1, .int 0, .int 0, .int 0, .int 0, .int 0, .int (-1), .int 0, .int 0])), (q1, .inl (ca 0, 8, .inl (fun _ => 0)))] := hD
  exact W.vret hx hb hr (fun t ht hW => ⟨⟨(), rfl, trivial, q1, by rw [ht]; exact hP, hD⟩, hS.F ht⟩) hS.2.2 dT_init_27
set_option maxRecDepth 100000 in
set_option maxHeartbeats 8000000 in
/-- Grants() -/
theorem mG_init (l : Launch) (D : va_G) (ca : Nat → ClassId) (h0 sz : Nat) : Met l yG_init (Cond.code yG_init cG_init 1 none :: mj_all) ({ frames := 1, cells := 5, slots := 240, locals := 12 }) (va_Pc [.ref h0] (fun U => U.heap.size = sz ∧ va_P D mj_cl [(h0, .inr (3, [.null, .null, .null, .null, .null]))] U.heap ∧ va_K D mj_cl (mi_TY ca) U ∧ va_D (fun _ => True) [(h0, .inr (3, [.null, .null, .null, .null, .null]))])) (va_Qv (fun _ : Unit => True) (fun _ t => ∃ q1 q2 q3 q4 q5 : Nat, va_P D mj_cl [(h0, .inr (3, [.ref q1, .ref q2, .ref q3, .ref q4, .ref q5])), (q1, .inl (ca 0, 48, .inl (fun _ => 0))), (q2, .inl (ca 0, 48, .inl (fun _ => 0))), (q3, .inl (ca 0, 48, .inl (fun _ => 0))), (q4, .inl (ca 0, 48, .inl (fun _ => 0))), (q5, .inl (ca 1, 48, .inl (fun _ => 0)))] t.heap ∧ va_D (va_A [(h0, .inr (3, [.null, .null, .null, .null, .null]))] sz) [(h0, .inr (3, [.ref q1, .ref q2, .ref q3, .ref q4, .ref q5])), (q1, .inl (ca 0, 48, .inl (fun _ => 0))), (q2, .inl (ca 0, 48, .inl (fun _ => 0))), (q3, .inl (ca 0, 48, .inl (fun _ => 0))), (q4, .inl (ca 0, 48, .inl (fun _ => 0))), (q5, .inl (ca 1, 48, .inl (fun _ => 0)))]) (va_A [(h0, .inr (3, [.null, .null, .null, .null, .null]))] sz)) 5 240 (va_A [(h0, .inr (3, [.null, .null, .null, .null, .null]))] sz) := by
  refine Met.ofW (cc := cG_init) (maxL := 1) (ret := none) (by decide) rfl ?_
  intro p e s m args below meth c s₁ B hml hv
  obtain ⟨rfl, hsz, hP, hK, hD0⟩ := hv
  have hx := B.exec
  have hb := B.bytes
  have hr := B.returns
  have hts0 := atoms_spec (ws := Cond.code yG_init cG_init 1 none :: mj_all) B.pre
  have hts : ∀ w ∈ mj_all, w.before _ s = true := fun w hw => hts0 w (List.mem_cons_of_mem _ hw)
  have hown : s.vm.findClass RG = some m.cls := findClass_of_methodNamed B.named
  have hlocks := B.notSynchronized
  have hin : meth.name = "<init>" := (name_of_methodNamed B.named B.method).1
  subst hsz
  have hD := hD0.self (sz := s.heap.size)
  generalize hAe : va_A [(h0, .inr (3, [.null, .null, .null, .null, .null]))] s.heap.size = A at hD ⊢
  have hA : ∀ q : Nat, s.heap.size ≤ q → A q := fun q h => by rw [← hAe]; exact Or.inr h
  have hS : va_S A s.heap s.heap [] := va_S.rf
  have hP : va_P D mj_cl [(h0, .inr (3, [.null, .null, .null, .null, .null]))] s.heap := hP
  have hl := lv_entry ([.ref h0]) (n := 1) (Nat.le_of_ble_eq_true rfl)
  rw [lg_entry_eq]
  generalize (lg_sl ([.ref h0]) ++ List.replicate (1 - (lg_sl ([.ref h0])).length) Slot.unset).toArray = ls at hl ⊢
  have hl : lv_has ls 1 [(0, .ref h0)] := hl
  refine lv_aload_n hx hb dG_init_0 rfl (lv_at hl 0 rfl) ?_
  refine W.objInit hx hb hown (hts _ o_G) (hts _ o_inst) (hts _ o_code) rfl (by rw [hml]; exact hl.1) rfl dG_init_1 (Nat.le_of_ble_eq_true rfl) (Nat.le_of_ble_eq_true rfl) ?_
  refine W.eq (g2 := F0 m 4 ls []) rfl ?_
  refine lv_aload_n hx hb dG_init_4 rfl (lv_at hl 0 rfl) ?_
  refine lv_bipush (v := 48) hx hb dG_init_5 (by decide) ?_
  refine mi_newI hx hb (hts _ a_I) hK hP hD hS hA 48 (by decide) (by decide) (by decide) (Nat.le_of_ble_eq_true rfl) (Nat.le_of_ble_eq_true rfl) dG_init_7 (fun q1 H hP hD hS => ?_)
  have hP : va_P D mj_cl [(h0, .inr (3, [.null, .null, .null, .null, .null])), (q1, .inl (ca 0, 48, .inl (fun _ => 0)))] H := hP
  have hD : va_D A [(h0, .inr (3, [.null, .null, .null, .null, .null])), (q1, .inl (ca 0, 48, .inl (fun _ => 0)))] := hD
  refine W.widen (k := 1) (n := 48) (by omega) (by omega) ?_
  refine va_putF (D := D) (ci := 3) (v := .ref q1) (ty := .array .int) (C := RG) (T := FG) (N := 5) hx hb hts inG_all tyG okG nmG hown hK hP hD hS 0 rfl rfl 0 (by decide) (hts _ l_G_9) (fun _ h9 => h9) rfl hin rfl (by decide +kernel) rfl rfl (Nat.le_of_ble_eq_true rfl) dG_init_9 (fun H locs hP hD hS => ?_)
  have hP : va_P D mj_cl [(h0, .inr (3, [.ref q1, .null, .null, .null, .null])), (q1, .inl (ca 0, 48, .inl (fun _ => 0)))] H := hP
  have hD : va_D A [(h0, .inr (3, [.ref q1, .null, .null, .null, .null])), (q1, .inl (ca 0, 48, .inl (fun _ => 0)))] := hD
  refine lv_aload_n hx hb dG_init_12 rfl (lv_at hl 0 rfl) ?_
  refine lv_bipush (v := 48) hx hb dG_init_13 (by decide) ?_
  refine mi_newI hx hb (hts _ a_I) hK hP hD hS hA 48 (by decide) (by decide) (by decide) (Nat.le_of_ble_eq_true rfl) (Nat.le_of_ble_eq_true rfl) dG_init_15 (fun q2 H hP hD hS => ?_)
  have hP : va_P D mj_cl [(h0, .inr (3, [.ref q1, .null, .null, .null, .null])), (q1, .inl (ca 0, 48, .inl (fun _ => 0))), (q2, .inl (ca 0, 48, .inl (fun _ => 0)))] H := hP
  have hD : va_D A [(h0, .inr (3, [.ref q1, .null, .null, .null, .null])), (q1, .inl (ca 0, 48, .inl (fun _ => 0))), (q2, .inl (ca 0, 48, .inl (fun _ => 0)))] := hD
  refine W.widen (k := 2) (n := 96) (by omega) (by omega) ?_
  refine va_putF (D := D) (ci := 3) (v := .ref q2) (ty := .array .int) (C := RG) (T := FG) (N := 5) hx hb hts inG_all tyG okG nmG hown hK hP hD hS 0 rfl rfl 1 (by decide) (hts _ l_G_15) (fun _ h9 => h9) rfl hin rfl (by decide +kernel) rfl rfl (Nat.le_of_ble_eq_true rfl) dG_init_17 (fun H locs hP hD hS => ?_)
  have hP : va_P D mj_cl [(h0, .inr (3, [.ref q1, .ref q2, .null, .null, .null])), (q1, .inl (ca 0, 48, .inl (fun _ => 0))), (q2, .inl (ca 0, 48, .inl (fun _ => 0)))] H := hP
  have hD : va_D A [(h0, .inr (3, [.ref q1, .ref q2, .null, .null, .null])), (q1, .inl (ca 0, 48, .inl (fun _ => 0))), (q2, .inl (ca 0, 48, .inl (fun _ => 0)))] := hD
  refine lv_aload_n hx hb dG_init_20 rfl (lv_at hl 0 rfl) ?_
  refine lv_bipush (v := 48) hx hb dG_init_21 (by decide) ?_
  refine mi_newI hx hb (hts _ a_I) hK hP hD hS hA 48 (by decide) (by decide) (by decide) (Nat.le_of_ble_eq_true rfl) (Nat.le_of_ble_eq_true rfl) dG_init_23 (fun q3 H hP hD hS => ?_)
  have hP : va_P D mj_cl [(h0, .inr (3, [.ref q1, .ref q2, .null, .null, .null])), (q1, .inl (ca 0, 48, .inl (fun _ => 0))), (q2, .inl (ca 0, 48, .inl (fun _ => 0))), (q3, .inl (ca 0, 48, .inl (fun _ => 0)))] H := hP
  have hD : va_D A [(h0, .inr (3, [.ref q1, .ref q2, .null, .null, .null])), (q1, .inl (ca 0, 48, .inl (fun _ => 0))), (q2, .inl (ca 0, 48, .inl (fun _ => 0))), (q3, .inl (ca 0, 48, .inl (fun _ => 0)))] := hD
  refine W.widen (k := 3) (n := 144) (by omega) (by omega) ?_
  refine va_putF (D := D) (ci := 3) (v := .ref q3) (ty := .array .int) (C := RG) (T := FG) (N := 5) hx hb hts inG_all tyG okG nmG hown hK hP hD hS 0 rfl rfl 2 (by decide) (hts _ l_G_18) (fun _ h9 => h9) rfl hin rfl (by decide +kernel) rfl rfl (Nat.le_of_ble_eq_true rfl) dG_init_25 (fun H locs hP hD hS => ?_)
  have hP : va_P D mj_cl [(h0, .inr (3, [.ref q1, .ref q2, .ref q3, .null, .null])), (q1, .inl (ca 0, 48, .inl (fun _ => 0))), (q2, .inl (ca 0, 48, .inl (fun _ => 0))), (q3, .inl (ca 0, 48, .inl (fun _ => 0)))] H := hP
  have hD : va_D A [(h0, .inr (3, [.ref q1, .ref q2, .ref q3, .null, .null])), (q1, .inl (ca 0, 48, .inl (fun _ => 0))), (q2, .inl (ca 0, 48, .inl (fun _ => 0))), (q3, .inl (ca 0, 48, .inl (fun _ => 0)))] := hD
  refine lv_aload_n hx hb dG_init_28 rfl (lv_at hl 0 rfl) ?_
  refine lv_bipush (v := 48) hx hb dG_init_29 (by decide) ?_
  refine mi_newI hx hb (hts _ a_I) hK hP hD hS hA 48 (by decide) (by decide) (by decide) (Nat.le_of_ble_eq_true rfl) (Nat.le_of_ble_eq_true rfl) dG_init_31 (fun q4 H hP hD hS => ?_)
  have hP : va_P D mj_cl [(h0, .inr (3, [.ref q1, .ref q2, .ref q3, .null, .null])), (q1, .inl (ca 0, 48, .inl (fun _ => 0))), (q2, .inl (ca 0, 48, .inl (fun _ => 0))), (q3, .inl (ca 0, 48, .inl (fun _ => 0))), (q4, .inl (ca 0, 48, .inl (fun _ => 0)))] H := hP
  have hD : va_D A [(h0, .inr (3, [.ref q1, .ref q2, .ref q3, .null, .null])), (q1, .inl (ca 0, 48, .inl (fun _ => 0))), (q2, .inl (ca 0, 48, .inl (fun _ => 0))), (q3, .inl (ca 0, 48, .inl (fun _ => 0))), (q4, .inl (ca 0, 48, .inl (fun _ => 0)))] := hD
  refine W.widen (k := 4) (n := 192) (by omega) (by omega) ?_
  refine va_putF (D := D) (ci := 3) (v := .ref q4) (ty := .array .int) (C := RG) (T := FG) (N := 5) hx hb hts inG_all tyG okG nmG hown hK hP hD hS 0 rfl rfl 3 (by decide) (hts _ l_G_21) (fun _ h9 => h9) rfl hin rfl (by decide +kernel) rfl rfl (Nat.le_of_ble_eq_true rfl) dG_init_33 (fun H locs hP hD hS => ?_)
  have hP : va_P D mj_cl [(h0, .inr (3, [.ref q1, .ref q2, .ref q3, .ref q4, .null])), (q1, .inl (ca 0, 48, .inl (fun _ => 0))), (q2, .inl (ca 0, 48, .inl (fun _ => 0))), (q3, .inl (ca 0, 48, .inl (fun _ => 0))), (q4, .inl (ca 0, 48, .inl (fun _ => 0)))] H := hP
  have hD : va_D A [(h0, .inr (3, [.ref q1, .ref q2, .ref q3, .ref q4, .null])), (q1, .inl (ca 0, 48, .inl (fun _ => 0))), (q2, .inl (ca 0, 48, .inl (fun _ => 0))), (q3, .inl (ca 0, 48, .inl (fun _ => 0))), (q4, .inl (ca 0, 48, .inl (fun _ => 0)))] := hD
  refine lv_aload_n hx hb dG_init_36 rfl (lv_at hl 0 rfl) ?_
  refine lv_bipush (v := 48) hx hb dG_init_37 (by decide) ?_
  refine mi_newZ hx hb (hts _ a_Z) hK hP hD hS hA 48 (by decide) (by decide) (by decide) (Nat.le_of_ble_eq_true rfl) (Nat.le_of_ble_eq_true rfl) dG_init_39 (fun q5 H hP hD hS => ?_)
  have hP : va_P D mj_cl [(h0, .inr (3, [.ref q1, .ref q2, .ref q3, .ref q4, .null])), (q1, .inl (ca 0, 48, .inl (fun _ => 0))), (q2, .inl (ca 0, 48, .inl (fun _ => 0))), (q3, .inl (ca 0, 48, .inl (fun _ => 0))), (q4, .inl (ca 0, 48, .inl (fun _ => 0))), (q5, .inl (ca 1, 48, .inl (fun _ => 0)))] H := hP
  have hD : va_D A [(h0, .inr (3, [.ref q1, .ref q2, .ref q3, .ref q4, .null])), (q1, .inl (ca 0, 48, .inl (fun _ => 0))), (q2, .inl (ca 0, 48, .inl (fun _ => 0))), (q3, .inl (ca 0, 48, .inl (fun _ => 0))), (q4, .inl (ca 0, 48, .inl (fun _ => 0))), (q5, .inl (ca 1, 48, .inl (fun _ => 0)))] := hD
  refine W.widen (k := 5) (n := 240) (by omega) (by omega) ?_
  refine va_putF (D := D) (ci := 3) (v := .ref q5) (ty := .array .boolean) (C := RG) (T := FG) (N := 5) hx hb hts inG_all tyG okG nmG hown hK hP hD hS 0 rfl rfl 4 (by decide) (hts _ l_G_24) (fun _ h9 => h9) rfl hin rfl (by decide +kernel) rfl rfl (Nat.le_of_ble_eq_true rfl) dG_init_41 (fun H locs hP hD hS => ?_)
  have hP : va_P D mj_cl [(h0, .inr (3, [.ref q1, .ref q2, .ref q3, .ref q4, .ref q5])), (q1, .inl (ca 0, 48, .inl (fun _ => 0))), (q2, .inl (ca 0, 48, .inl (fun _ => 0))), (q3, .inl (ca 0, 48, .inl (fun _ => 0))), (q4, .inl (ca 0, 48, .inl (fun _ => 0))), (q5, .inl (ca 1, 48, .inl (fun _ => 0)))] H := hP
  have hD : va_D A [(h0, .inr (3, [.ref q1, .ref q2, .ref q3, .ref q4, .ref q5])), (q1, .inl (ca 0, 48, .inl (fun _ => 0))), (q2, .inl (ca 0, 48, .inl (fun _ => 0))), (q3, .inl (ca 0, 48, .inl (fun _ => 0))), (q4, .inl (ca 0, 48, .inl (fun _ => 0))), (q5, .inl (ca 1, 48, .inl (fun _ => 0)))] := hD
  exact W.vret hx hb hr (fun t ht hW => ⟨⟨(), rfl, trivial, q1, q2, q3, q4, q5, by rw [ht]; exact hP, hD⟩, hS.F ht⟩) hS.2.2 dG_init_44
