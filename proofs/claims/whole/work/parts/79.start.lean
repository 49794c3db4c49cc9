/-! THE LAW, from its entry -/
theorem mi_nwT : ∀ w ∈ mj_nw, w ∈ lw_tbl := by decide +kernel
theorem mi_nwO : ∀ w ∈ mj_nw, w.onTables = true := by decide +kernel
theorem mi_nwN : ∀ w ∈ mj_nw, mj_isN w := by
  unfold mj_nw
  refine List.forall_mem_cons.mpr ⟨Or.inl ⟨_, _, _, _, rfl⟩, List.forall_mem_cons.mpr ⟨Or.inl ⟨_, _, _, _, rfl⟩, List.forall_mem_cons.mpr ⟨Or.inl ⟨_, _, _, _, rfl⟩, List.forall_mem_cons.mpr ⟨Or.inl ⟨_, _, _, _, rfl⟩, List.forall_mem_cons.mpr ⟨Or.inl ⟨_, _, _, _, rfl⟩, List.forall_mem_cons.mpr ⟨Or.inl ⟨_, _, _, _, rfl⟩, fun _ h => absurd h List.not_mem_nil⟩⟩⟩⟩⟩⟩
theorem mi_known {s : State} {args : Array Value} (hts : ∀ w ∈ lw_tbl, w.before args s = true) : ∃ (D : va_G) (ca : Nat → ClassId), va_K D mj_cl (mi_TY ca) s := by
  have hm : ∀ w ∈ mj_all, w.before args s = true := fun w hw => hts w (mj_all_tbl hw)
  obtain ⟨c0, i0, k0⟩ := u_known (C := RK) (T := FK) (N := 8) (n := 8) hm inK_all (hm _ ins_K)
  obtain ⟨c1, i1, k1⟩ := u_known (C := RT) (T := FT) (N := 9) (n := 9) hm inT_all (hm _ ins_T)
  obtain ⟨c2, i2, k2⟩ := u_known (C := RN) (T := FN) (N := 2) (n := 2) hm inN_all (hm _ ins_N)
  obtain ⟨c3, i3, k3⟩ := u_known (C := RG) (T := FG) (N := 5) (n := 5) hm inG_all (hm _ ins_G)
  obtain ⟨c4, i4, k4⟩ := u_known (C := RP) (T := FP) (N := 2) (n := 2) hm inP_all (hm _ ins_P)
  obtain ⟨c5, i5, k5⟩ := u_known (C := RM) (T := FM) (N := 29) (n := 29) hm inM_all (hm _ ins_M)
  obtain ⟨aI, kI, pI', fI, gI, hI⟩ := Cond.arrayClass_spec (hm _ a_I)
  obtain ⟨aZ, kZ, pZ, fZ, gZ, hZ⟩ := Cond.arrayClass_spec (hm _ a_Z)
  obtain ⟨pT, aT, kT, fT, -, gT, hT, eT⟩ := Cond.arrayOver_spec (hts _ a_T)
  obtain ⟨pN, aN, kN, fN, -, gN, hN, eN⟩ := Cond.arrayOver_spec (hts _ a_N)
  refine ⟨(fun k => [c0, c1, c2, c3, c4, c5].getD k c0, fun k => [i0, i1, i2, i3, i4, i5].getD k i0), fun k => [aI, aZ, aT, aN].getD k aI, ?_, ?_⟩
  · intro k q hq
    match k, hq with
    | 0, hq => cases hq; exact k0
    | 1, hq => cases hq; exact k1
    | 2, hq => cases hq; exact k2
    | 3, hq => cases hq; exact k3
    | 4, hq => cases hq; exact k4
    | 5, hq => cases hq; exact k5
    | k + 6, hq => simp at hq
  · intro k q hq
    match k, hq with
    | 0, hq => cases hq; exact ⟨fun n z => ⟨fun k h => (by cases h), kI, gI, pI', hI⟩, fI⟩
    | 1, hq => cases hq; exact ⟨fun n z => ⟨fun k h => (by cases h), kZ, gZ, pZ, hZ⟩, fZ⟩
    | 2, hq => cases hq; exact ⟨fun n z => ⟨fun k h => (by cases h), kT, gT, pT, hT⟩, kT, pT, gT, hT, fT, eT⟩
    | 3, hq => cases hq; exact ⟨fun n z => ⟨fun k h => (by cases h), kN, gN, pN, hN⟩, kN, pN, gN, hN, fN, eN⟩
    | k + 4, hq => simp at hq
set_option maxRecDepth 100000 in
set_option maxHeartbeats 8000000 in
theorem whole_start {p : Program} {e : Env} {s : State} {m : MethodId} {below : List Frame} {meth : Method} {c : Code} (l : Launch) {b L : Nat} {xs : Nat → Int32} (hL : L ≤ 3073) (C0 : lw_At p s m meth c b L xs) : W p l e room_1 s m #[Value.ref b] below meth c s.heap [] 0 0 (lw_Z below #[Value.ref b] s) (entryFrame m ([Value.ref b] : List Value).toArray 4) := by
  obtain ⟨hx, hb, hr, hml, hown, htsT, hX, hbl, hlocks, hgv⟩ := id C0
  have hts : ∀ w ∈ mj_all, w.before #[Value.ref b] s = true := fun w hw => htsT w (mj_all_tbl hw)
  have hown : s.vm.findClass RL = some m.cls := hown
  have hA : ∀ q : Nat, s.heap.size ≤ q → (fun q : Nat => s.heap.size ≤ q) q := fun _ h => h
  have hbA : ¬ (fun q : Nat => s.heap.size ≤ q) b := Nat.not_le.mpr hbl
  obtain ⟨D, ca, hK⟩ := mi_known htsT
  have hN : mj_N mj_nw s := fun w hw => va_Nw.of (mi_nwO w hw) (htsT w (mi_nwT w hw))
  have hAT : va_AO RT s := va_AO.of (htsT _ a_T)
  have hAN : va_AO RN s := va_AO.of (htsT _ a_N)
  generalize hAe : (fun q : Nat => s.heap.size ≤ q) = A at hA hbA
  have hA' : ∀ q, A q → s.heap.size ≤ q := fun q h => by rw [← hAe] at h; exact h
  have hS : va_S A s.heap s.heap [] := va_S.rf
  have hP : va_P D mj_cl [] s.heap := fun k q h => by simp at h
  have hD : va_D A [] := ⟨fun i j p q h => by simp at h, fun k q h => by simp at h⟩
  have hl := lv_entry ([.ref b]) (n := 4) (Nat.le_of_ble_eq_true rfl)
  rw [lg_entry_eq]
  generalize (lg_sl ([.ref b]) ++ List.replicate (4 - (lg_sl ([.ref b])).length) Slot.unset).toArray = ls at hl ⊢
  have hl : lv_has ls 4 [(0, .ref b)] := hl
  have xcell : ∀ {H : Heap} {locs : List Loc} (hS : va_S A s.heap H locs), PreS s H (va_Pc [.ref b, .int 0] (fun U => va_X b L xs U U.heap ∧ b < U.heap.size)) [.ref b, .int 0] := fun {H locs} hS =>
    ⟨fun a U g mk q => by
      obtain ⟨q0, q1, q2⟩ := q
      exact ⟨q0, va_X.moved (u := U) (U := U.calling g mk a) (Vm.Alike.refl U.vm) q1, q2⟩, fun U hU hW => ⟨rfl, by rw [hU]; exact va_X.moved hW.alike (hX.kept (hS.2.1 b hbl hbA)), by rw [hU]; exact Nat.lt_of_lt_of_le hbl hS.1⟩⟩
  refine va_new (ci := 0) (fs := [.int 0, .null, .null, .null, .null, .null, .null, .int 0]) (C := RK) (T := FK) (N := 8) hx hb hts inK_all tyK okK hown (hts _ n_L_7) (hts _ ins_K) (hts _ ini_K) hK hP hD hS hA rfl (fun j hj => by rcases (show j = 0 ∨ j = 1 ∨ j = 2 ∨ j = 3 ∨ j = 4 ∨ j = 5 ∨ j = 6 ∨ j = 7 by omega) with rfl | rfl | rfl | rfl | rfl | rfl | rfl | rfl <;> rfl) (Nat.le_of_ble_eq_true rfl) (Nat.le_of_ble_eq_true rfl) dL_law_0 (fun h0 H hP hD hS => ?_)
  have hP : va_P D mj_cl [(h0, .inr (0, [.int 0, .null, .null, .null, .null, .null, .null, .int 0]))] H := hP
  have hD : va_D A [(h0, .inr (0, [.int 0, .null, .null, .null, .null, .null, .null, .int 0]))] := hD
  refine W.widen (k := 1) (n := 8) (by omega) (by omega) ?_
  refine lv_dup hx hb dL_law_3 rfl ?_
  refine lv_aload_n hx hb dL_law_4 rfl (lv_at hl 0 rfl) ?_
  refine lv_iconst (v := 0) hx hb dL_law_5 (by decide) ?_
  refine va_calli (va_runS (As := [.ref b, .int 0]) (rest := [.ref h0, .ref h0]) ⟨hx, hb, hml, hown, hts⟩ (mL_cell l b L xs (by omega)) (cwS 2 hts (mj_gS l_L_9 i_L_cell ini_L h_L_cell) rfl rfl rfl ⟨rfl, z_L_cell⟩ ⟨Nat.le_of_ble_eq_true rfl, Nat.le_of_ble_eq_true rfl⟩) (xcell hS) rfl rfl hl.1 rfl (lv_room (Nat.le_of_ble_eq_true rfl)) dL_law_6 ⟨Nat.le_of_ble_eq_true rfl, Nat.le_of_ble_eq_true rfl⟩) hS (fun q _ h => absurd h (fun h => h)) (fun q h => absurd h (fun h => h)) (fun x0 u t H1 locs ht hvm hw hB hz1 hk1 hS => ?_)
  have hP := hP.kept (H1 := H1) (fun k q hk => hk1 q.1 ((hP k q hk).lt) (fun h => h))
  generalize H1 = H at hP hS ⊢
  refine W.widen (k := 1) (n := 8) (by omega) (by omega) ?_
  have hPc := hP.sub (ws' := [(h0, .inr (0, [.int 0, .null, .null, .null, .null, .null, .null, .int 0]))]) [0] rfl
  have hDc := hD.sub (ws' := [(h0, .inr (0, [.int 0, .null, .null, .null, .null, .null, .null, .int 0]))]) [0] (by decide) rfl
  have hFc := va_free (wc := [(h0, .inr (0, [.int 0, .null, .null, .null, .null, .null, .null, .int 0]))]) hD hS hA [0] rfl
  refine va_callv (va_runI (As := [.int x0]) (rest := [.ref h0]) ⟨hx, hb, hml, hown, hts⟩ (mK_init l D ca h0 H.size x0) (cwI 1 hts gC_K_init rfl rfl rfl (hts _ ini_K) (hts _ l_L_15) (hts _ i_K_init) rfl z_K_init ⟨Nat.le_of_ble_eq_true rfl, Nat.le_of_ble_eq_true rfl⟩) ⟨fun a U g mk q => by obtain ⟨q0, q1, qP, qK, qD, qT, qN, qW⟩ := q; exact ⟨q0, q1, qP, va_K.moved (u := U) (U := U.calling g mk a) (Vm.Alike.refl U.vm) qK, qD, va_AO.moved (u := U) (U := U.calling g mk a) (Vm.Alike.refl U.vm) qT, va_AO.moved (u := U) (U := U.calling g mk a) (Vm.Alike.refl U.vm) qN, mj_N.same (s := U) (U := U.calling g mk a) mi_nwN rfl qW⟩, fun U hU hW => ⟨rfl, by rw [hU], by rw [hU]; exact hPc, va_K.moved hW.alike hK, hDc.weaken (fun _ _ _ _ => trivial), va_AO.moved hW.alike hAT, va_AO.moved hW.alike hAN, mj_N.warm mi_nwN hW hN⟩⟩ rfl rfl hl.1 rfl (lv_room (Nat.le_of_ble_eq_true rfl)) dL_law_9 ⟨Nat.le_of_ble_eq_true rfl, Nat.le_of_ble_eq_true rfl⟩) hS (fun q _ h => hFc q h) hFc (fun u t H1 locs ht hvm hw1 hB hz1 hk1 hS => ?_)
  obtain ⟨aK, hK0, hP1, hD1⟩ := hB
  rw [ht] at hP1
  obtain ⟨hP, hD⟩ := va_join (wr := []) (w1 := xK ca aK (mi_q x0)) hP hD [0] [] rfl rfl (by decide) (by decide) hk1 hFc hP1 hD1
  generalize H1 = H at hP hS ⊢
  have hP : va_P D mj_cl (xK ca aK (mi_q x0)) H := hP
  have hD : va_D A (xK ca aK (mi_q x0)) := hD
  refine W.widen (k := 34) (n := 551) (by omega) (by omega) ?_
  refine lv_astore_n (lv' := [(1, .ref h0), (0, .ref b)]) hx hb dL_law_12 rfl hl (by decide) rfl (fun ls hl => ?_)
  refine va_new (ci := 5) (fs := [.int 0, .null, .null, .null, .null, .null, .null, .null, .null, .null, .null, .int 0, .int 0, .null, .null, .null, .null, .null, .null, .null, .null, .null, .int 0, .null, .int 0, .int 0, .int 0, .int 0, .int 0]) (C := RM) (T := FM) (N := 29) hx hb hts inM_all tyM okM hown (hts _ n_L_18) (hts _ ins_M) (hts _ ini_M) hK hP hD hS hA rfl (fun j hj => by rcases (show j = 0 ∨ j = 1 ∨ j = 2 ∨ j = 3 ∨ j = 4 ∨ j = 5 ∨ j = 6 ∨ j = 7 ∨ j = 8 ∨ j = 9 ∨ j = 10 ∨ j = 11 ∨ j = 12 ∨ j = 13 ∨ j = 14 ∨ j = 15 ∨ j = 16 ∨ j = 17 ∨ j = 18 ∨ j = 19 ∨ j = 20 ∨ j = 21 ∨ j = 22 ∨ j = 23 ∨ j = 24 ∨ j = 25 ∨ j = 26 ∨ j = 27 ∨ j = 28 by omega) with rfl | rfl | rfl | rfl | rfl | rfl | rfl | rfl | rfl | rfl | rfl | rfl | rfl | rfl | rfl | rfl | rfl | rfl | rfl | rfl | rfl | rfl | rfl | rfl | rfl | rfl | rfl | rfl | rfl <;> rfl) (Nat.le_of_ble_eq_true rfl) (Nat.le_of_ble_eq_true rfl) dL_law_13 (fun h1 H hP hD hS => ?_)
  refine W.widen (k := 35) (n := 580) (by omega) (by omega) ?_
  refine lv_dup hx hb dL_law_16 rfl ?_
  refine lv_aload_n hx hb dL_law_17 rfl (lv_at hl 1 rfl) ?_
  refine lv_iconst (v := 0) hx hb dL_law_18 (by decide) ?_
  refine va_calli (va_runS (As := [.ref b, .int 0]) (rest := [.ref h1, .ref h1]) ⟨hx, hb, hml, hown, hts⟩ (mL_cell l b L xs (by omega)) (cwS 2 hts (mj_gS l_L_9 i_L_cell ini_L h_L_cell) rfl rfl rfl ⟨rfl, z_L_cell⟩ ⟨Nat.le_of_ble_eq_true rfl, Nat.le_of_ble_eq_true rfl⟩) (xcell hS) rfl rfl hl.1 rfl (lv_room (Nat.le_of_ble_eq_true rfl)) dL_law_19 ⟨Nat.le_of_ble_eq_true rfl, Nat.le_of_ble_eq_true rfl⟩) hS (fun q _ h => absurd h (fun h => h)) (fun q h => absurd h (fun h => h)) (fun x1 u2 t H1 locs ht hvm hw2 hB hz1 hk1 hS => ?_)
  obtain rfl : x1 = x0 := hw2.trans hw.symm
  have hP := hP.kept (H1 := H1) (fun k q hk => hk1 q.1 ((hP k q hk).lt) (fun h => h))
  generalize H1 = H at hP hS ⊢
  refine W.widen (k := 35) (n := 580) (by omega) (by omega) ?_
  have hPc := hP.sub (ws' := [(h1, .inr (5, [.int 0, .null, .null, .null, .null, .null, .null, .null, .null, .null, .null, .int 0, .int 0, .null, .null, .null, .null, .null, .null, .null, .null, .null, .int 0, .null, .int 0, .int 0, .int 0, .int 0, .int 0]))]) [34] rfl
  have hDc := hD.sub (ws' := [(h1, .inr (5, [.int 0, .null, .null, .null, .null, .null, .null, .null, .null, .null, .null, .int 0, .int 0, .null, .null, .null, .null, .null, .null, .null, .null, .null, .int 0, .null, .int 0, .int 0, .int 0, .int 0, .int 0]))]) [34] (by decide) rfl
  have hFc := va_free (wc := [(h1, .inr (5, [.int 0, .null, .null, .null, .null, .null, .null, .null, .null, .null, .null, .int 0, .int 0, .null, .null, .null, .null, .null, .null, .null, .null, .null, .int 0, .null, .int 0, .int 0, .int 0, .int 0, .int 0]))]) hD hS hA [34] rfl
  refine va_callv (va_runI (As := [.int x1]) (rest := [.ref h1]) ⟨hx, hb, hml, hown, hts⟩ (mM_init l D ca h1 H.size x1) (cwI 1 hts gC_M_init rfl rfl rfl (hts _ ini_M) (hts _ l_L_20) (hts _ i_M_init) rfl z_M_init ⟨Nat.le_of_ble_eq_true rfl, Nat.le_of_ble_eq_true rfl⟩) ⟨fun a U g mk q => by obtain ⟨q0, q1, qP, qK, qD⟩ := q; exact ⟨q0, q1, qP, va_K.moved (u := U) (U := U.calling g mk a) (Vm.Alike.refl U.vm) qK, qD⟩, fun U hU hW => ⟨rfl, by rw [hU], by rw [hU]; exact hPc, va_K.moved hW.alike hK, hDc.weaken (fun _ _ _ _ => trivial)⟩⟩ rfl rfl hl.1 rfl (lv_room (Nat.le_of_ble_eq_true rfl)) dL_law_22 ⟨Nat.le_of_ble_eq_true rfl, Nat.le_of_ble_eq_true rfl⟩) hS (fun q _ h => hFc q h) hFc (fun u t H1 locs ht hvm hw1 hB hz1 hk1 hS => ?_)
  obtain ⟨aM, hM0, hP1, hD1⟩ := hB
  rw [ht] at hP1
  obtain ⟨hP, hD⟩ := va_join (wr := xK ca aK (mi_q x1)) (w1 := xM ca aM (mi_q x1)) hP hD [34] [0, 1, 2, 3, 4, 5, 6, 7, 8, 9, 10, 11, 12, 13, 14, 15, 16, 17, 18, 19, 20, 21, 22, 23, 24, 25, 26, 27, 28, 29, 30, 31, 32, 33] rfl rfl (by decide) (by decide) hk1 hFc hP1 hD1
  generalize H1 = H at hP hS ⊢
  refine W.widen (k := 600000) (n := 7302250) (by omega) (by omega) ?_
  refine lv_astore_n (lv' := [(2, .ref h1), (1, .ref h0), (0, .ref b)]) hx hb dL_law_25 rfl hl (by decide) rfl (fun ls hl => ?_)
  refine lv_iconst (v := 1) hx hb dL_law_26 (by decide) ?_
  refine lv_istore_n (lv' := [(3, .int 1), (2, .ref h1), (1, .ref h0), (0, .ref b)]) hx hb dL_law_27 rfl hl (by decide) rfl (fun ls hl => ?_)
  obtain ⟨ad, hadK, hadM, hadb⟩ : ∃ ad : Nat → Nat, (∀ i, i < 34 → ad i = aK i) ∧ (∀ i, i < 21 → ad (34 + i) = aM i) ∧ ad 55 = b := by
    refine ⟨fun i => if i < 34 then aK i else if i < 55 then aM (i - 34) else b, fun i hi => if_pos hi, fun i hi => ?_, rfl⟩
    dsimp only
    rw [if_neg (by omega), if_pos (by omega), show 34 + i - 34 = i from by omega]
  have eK : xK ca ad (mi_q x1) = xK ca aK (mi_q x1) := xK_congr hadK
  have eM : xM ca (fun i => ad (34 + i)) (mi_q x1) = xM ca aM (mi_q x1) := xM_congr hadM
  rw [← eK, ← eM] at hP hD
  have hPK : va_P D mj_cl (xK ca ad (mi_q x1)) H := hP.sub [0, 1, 2, 3, 4, 5, 6, 7, 8, 9, 10, 11, 12, 13, 14, 15, 16, 17, 18, 19, 20, 21, 22, 23, 24, 25, 26, 27, 28, 29, 30, 31, 32, 33] rfl
  have hPM : va_P D mj_cl (xM ca (fun i => ad (34 + i)) (mi_q x1)) H := hP.sub [34, 35, 36, 37, 38, 39, 40, 41, 42, 43, 44, 45, 46, 47, 48, 49, 50, 51, 52, 53, 54] rfl
  have hDx : ∀ x : mj_X, va_D A (mk_wl ca ad x) := fun x => mi_D hD (mi_fst x)
  have hAw : ∀ i, i < 55 → A (ad i) := by
    intro i hi
    have h := mk_at (ca := ca) (ad := ad) (k := mi_k0 0) (mm := mi_m0 0) i
    by_cases a : i < 34
    · rw [if_pos a] at h; exact (hDx _).2 i _ h
    · rw [if_neg a, if_pos hi] at h; exact (hDx _).2 i _ h
  subst hadb
  have hok : mj_Ok (mk_v (l, D, ca, ad)) := by
    refine ⟨fun x => ⟨(hDx x).1, fun k q hk => ?_⟩, mi_nwN⟩
    obtain ⟨x1, x2⟩ := x
    rw [mk_at] at hk
    by_cases a : k < 34
    · rw [if_pos a] at hk; cases hk; exact ⟨k, by omega, rfl⟩
    · rw [if_neg a] at hk
      by_cases a2 : k < 55
      · rw [if_pos a2] at hk; cases hk; exact ⟨k, a2, rfl⟩
      · rw [if_neg a2] at hk; cases hk
  have hC : mj_Cx (mk_v (l, D, ca, ad)) (p, e, room_1, s, m, #[Value.ref (ad 55)], below, meth, c, A, 600000, 7302250, lw_Z below #[Value.ref (ad 55)] s) code 4 RL mj_all room_1 :=
    ⟨hx, hb, hml, hown, hts, hK, hN, hDx, rfl, fun q hq => by obtain ⟨i, hi, rfl⟩ := hq; exact hAw i hi, ⟨Nat.le_of_ble_eq_true rfl, Nat.le_of_ble_eq_true rfl⟩, mi_nwN⟩
  have hXs : mj_Xs (mk_v (l, D, ca, ad)) (p, e, room_1, s, m, #[Value.ref (ad 55)], below, meth, c, A, 600000, 7302250, lw_Z below #[Value.ref (ad 55)] s) L xs := ⟨hX, hbl, hbA⟩
  have hCl : mj_Cl (mk_v (l, D, ca, ad)) (p, e, room_1, s, m, #[Value.ref (ad 55)], below, meth, c, A, 600000, 7302250, lw_Z below #[Value.ref (ad 55)] s) := ⟨hr, hlocks, rfl, rfl, rfl, rfl, rfl, hA'⟩
  have hlaw := xLaw (xs := xs) (Ln := L) (by omega) 513 1 (mi_k0 (mi_q x1)) (mi_m0 (mi_q x1)) [] (fun _ => []) 0 (by omega) (by omega) (mi_start (mi_q_of x1)) (by omega)
  refine (uL_law_28 hok hC hXs hCl 514 (nI 1) _ _ hlaw) H locs ls (mi_world hPK hPM) hS ⟨hl.1.trans hml.symm, hl.2.1, fun j w hj => ?_⟩
  have := mj_lk_mem hj
  simp only [List.mem_cons, List.not_mem_nil, or_false, Prod.mk.injEq] at this
  rcases this with ⟨rfl, rfl⟩ | ⟨rfl, rfl⟩ | ⟨rfl, rfl⟩ | ⟨rfl, rfl⟩
  · exact hl.2.2 (0, .ref (ad 55)) (by simp)
  · have h := hl.2.2 (1, .ref h0) (by simp)
    rw [← hK0, ← hadK 0 (by omega)] at h
    exact h
  · have h := hl.2.2 (2, .ref h1) (by simp)
    rw [← hM0, ← hadM 0 (by omega)] at h
    exact h
  · exact hl.2.2 (3, .int 1) (by simp)
