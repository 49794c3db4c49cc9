/-! GrantKernel.isBetween -/
def wK_isBetween (p0 : Int32) (p1 : Int32) (p2 : Int32)  (Q : Int32 → Prop) : Prop := ((p0 < p1) → Q 0) ∧ ((¬ p0 < p1) → ((p2 < p0) → Q 0) ∧ ((¬ p2 < p0) → Q 1))
set_option maxRecDepth 100000 in
set_option maxHeartbeats 4000000 in
theorem qK_isBetween {E : mj_E} (hok : mj_Ok (mk_v E)) {p0 : Int32} {p1 : Int32} {p2 : Int32} {x : mj_X} {Q : Int32 → Prop} (h : wK_isBetween p0 p1 p2  Q) : mj_Ct (mk_v E) yK_isBetween (Cond.code yK_isBetween cK_isBetween 3 (some .boolean) :: mj_all) { frames := 0, cells := 0, slots := 0, locals := 0 } [.int p0, .int p1, .int p2] x (mj_iR x Q) := by
  refine mj_enterA (L := [(0, .int p0), (1, .int p1), (2, .int p2)]) hok (by decide +kernel) ⟨rfl, rfl⟩ (fun _ => Nat.le_of_ble_eq_true rfl) rfl (fun r C Z => ?_)
  unfold wK_isBetween at h
  refine mj_iload_n C dK_isBetween_0 rfl ?_
  refine mj_iload_n C dK_isBetween_1 rfl ?_
  refine mj_icmp_lt (tgt := 14) C dK_isBetween_2 (by decide) (fun c1 => ?_) (fun c1 => ?_)
  · have h := h.1 c1
    refine mj_iconst (a := 0) C dK_isBetween_14 (by decide) ?_
    exact mj_zret C Z (Or.inl rfl) dK_isBetween_15 ⟨_, rfl, rfl, h⟩
  · have h := h.2 c1
    refine mj_iload_n C dK_isBetween_5 rfl ?_
    refine mj_iload_n C dK_isBetween_6 rfl ?_
    refine mj_icmp_gt (tgt := 14) C dK_isBetween_7 (by decide) (fun c2 => ?_) (fun c2 => ?_)
    · have h := h.1 c2
      refine mj_iconst (a := 0) C dK_isBetween_14 (by decide) ?_
      exact mj_zret C Z (Or.inl rfl) dK_isBetween_15 ⟨_, rfl, rfl, h⟩
    · have h := h.2 c2
      refine mj_iconst (a := 1) C dK_isBetween_10 (by decide) ?_
      refine mj_goto (tgt := 15) C dK_isBetween_11 (by decide) ?_
      exact mj_zret C Z (Or.inr rfl) dK_isBetween_15 ⟨_, rfl, rfl, h⟩
/-! GrantKernel.poke -/
def wK_poke (p0 : Int32) (p1 : Int32) (k : mj_St) (Q : Int32 → mj_St → Prop) : Prop := wK_isBetween p0 0 127 (fun a1 => (((¬ a1 = 0) → vp_in p0 128 ∧ (∀ k3 : mj_St, k3 = mj_up k 1 p0.toNatClampNeg p1 → (Q 1 k3))) ∧ ((a1 = 0) → Q 0 k)))
set_option maxRecDepth 100000 in
set_option maxHeartbeats 4000000 in
theorem qK_poke {E : mj_E} (hok : mj_Ok (mk_v E)) {p0 : Int32} {p1 : Int32} {k mm : mj_St} {Q : Int32 → mj_St → Prop} (h : wK_poke p0 p1 k Q) : mj_Ct (mk_v E) yK_poke (Cond.code yK_poke cK_poke 3 (some .boolean) :: mj_all) { frames := 1, cells := 0, slots := 0, locals := 22 } [.ref 0, .int p0, .int p1] (k, mm) (mj_iK mm Q) := by
  refine mj_enterA (L := [(0, .ref 0), (1, .int p0), (2, .int p1)]) hok (by decide +kernel) ⟨rfl, rfl⟩ (fun _ => Nat.le_of_ble_eq_true rfl) rfl (fun r C Z => ?_)
  unfold wK_poke at h
  refine mj_iload_n C dK_poke_0 rfl ?_
  refine mj_iconst (a := 0) C dK_poke_1 (by decide) ?_
  refine mj_bipush (a := 127) C dK_poke_2 (by decide) ?_
  refine mj_callS_iR C (qK_isBetween hok h) (g_K_isBetween l_K_58) z_K_isBetween ⟨Nat.le_of_ble_eq_true rfl, Nat.le_of_ble_eq_true rfl, rfl, rfl⟩ rfl rfl (Nat.le_of_ble_eq_true rfl) dK_poke_4 (fun a1 h => ?_)
  refine mj_if_ne (tgt := 12) C dK_poke_7 (by decide) (fun c2 => ?_) (fun c2 => ?_)
  · have h := h.1 c2
    refine mj_aload_n C dK_poke_12 rfl ?_
    refine mj_getR C inK_all rfl e_GK 1 (by decide) l_K_9 rfl dK_poke_13 ?_
    refine mj_iload_n C dK_poke_16 rfl ?_
    refine mj_iload_n C dK_poke_17 rfl ?_
    refine mj_iast (t0 := 0) C e_memory rfl h.1 s_memory dK_poke_18 ?_
    have h := h.2 _ rfl
    refine mj_iconst (a := 1) C dK_poke_19 (by decide) ?_
    exact mj_zret C Z (Or.inr rfl) dK_poke_20 ⟨_, _, rfl, rfl, h⟩
  · have h := h.2 c2
    refine mj_iconst (a := 0) C dK_poke_10 (by decide) ?_
    exact mj_zret C Z (Or.inl rfl) dK_poke_11 ⟨_, _, rfl, rfl, h⟩
/-! GrantKernel.peek -/
def wK_peek (p0 : Int32) (k : mj_St) (Q : Int32 → Prop) : Prop := wK_isBetween p0 0 127 (fun a1 => (((a1 = 0) → Q 0) ∧ ((¬ a1 = 0) → vp_in p0 128 ∧ (Q (k 1 p0.toNatClampNeg)))))
set_option maxRecDepth 100000 in
set_option maxHeartbeats 4000000 in
theorem qK_peek {E : mj_E} (hok : mj_Ok (mk_v E)) {p0 : Int32} {k mm : mj_St} {Q : Int32 → Prop} (h : wK_peek p0 k Q) : mj_Ct (mk_v E) yK_peek (Cond.code yK_peek cK_peek 2 (some .int) :: mj_all) { frames := 1, cells := 0, slots := 0, locals := 22 } [.ref 0, .int p0] (k, mm) (mj_iR (k, mm) Q) := by
  refine mj_enterA (L := [(0, .ref 0), (1, .int p0)]) hok (by decide +kernel) ⟨rfl, rfl⟩ (fun _ => Nat.le_of_ble_eq_true rfl) rfl (fun r C Z => ?_)
  unfold wK_peek at h
  refine mj_iload_n C dK_peek_0 rfl ?_
  refine mj_iconst (a := 0) C dK_peek_1 (by decide) ?_
  refine mj_bipush (a := 127) C dK_peek_2 (by decide) ?_
  refine mj_callS_iR C (qK_isBetween hok h) (g_K_isBetween l_K_58) z_K_isBetween ⟨Nat.le_of_ble_eq_true rfl, Nat.le_of_ble_eq_true rfl, rfl, rfl⟩ rfl rfl (Nat.le_of_ble_eq_true rfl) dK_peek_4 (fun a1 h => ?_)
  refine mj_if_eq (tgt := 19) C dK_peek_7 (by decide) (fun c2 => ?_) (fun c2 => ?_)
  · have h := h.1 c2
    refine mj_iconst (a := 0) C dK_peek_19 (by decide) ?_
    exact mj_iret C Z dK_peek_20 ⟨_, rfl, rfl, h⟩
  · have h := h.2 c2
    refine mj_aload_n C dK_peek_10 rfl ?_
    refine mj_getR C inK_all rfl e_GK 1 (by decide) l_K_9 rfl dK_peek_11 ?_
    refine mj_iload_n C dK_peek_14 rfl ?_
    refine mj_iald (t0 := 0) C e_memory rfl h.1 dK_peek_15 ?_
    have h := h.2
    refine mj_goto (tgt := 20) C dK_peek_16 (by decide) ?_
    exact mj_iret C Z dK_peek_20 ⟨_, rfl, rfl, h⟩
/-! GrantKernel.leastFree -/
def wK_leastFree_2 (n : Nat) (x1 : Int32) (k : mj_St)  (Q : Int32 → Prop)  : Prop := match n with
  | 0 => False
  | n + 1 => ((6 ≤ x1) → Q (-1)) ∧ ((¬ 6 ≤ x1) → vp_in x1 6 ∧ (((¬ (k (3 + x1.toNatClampNeg) 1) = 0) → ∀ a4 : Int32, a4 = x1 + 1 → (wK_leastFree_2 n a4 k Q)) ∧ (((k (3 + x1.toNatClampNeg) 1) = 0) → Q x1)))
set_option maxRecDepth 100000 in
set_option maxHeartbeats 4000000 in
theorem uK_leastFree_2 {E : mj_E} {r : mj_R} {mm : mj_St} {k : mj_St} {Q : Int32 → Prop} (hok : mj_Ok (mk_v E)) (C : mj_Cx (mk_v E) r cK_leastFree 2 RK mj_all { frames := 0, cells := 0, slots := 0, locals := 0 }) (Z : mj_Cr (mk_v E) r (some .int) (mj_iR (k, mm) Q))   : ∀ (n : Nat) (x1 : Int32) , wK_leastFree_2 n x1 k Q → mj_G (mk_v E) r 2 [(0, .ref 0), (1, .int x1)] [] (k, mm) := by
  intro n
  induction n with
  | zero => intro x1 h; exact False.elim h
  | succ n ih =>
    intro x1 h
    rw [wK_leastFree_2] at h
    refine mj_iload_n C dK_leastFree_2 rfl ?_
    refine mj_bipush (a := 6) C dK_leastFree_3 (by decide) ?_
    refine mj_icmp_ge (tgt := 28) C dK_leastFree_5 (by decide) (fun c1 => ?_) (fun c1 => ?_)
    · have h := h.1 c1
      refine mj_iconst (a := (-1)) C dK_leastFree_28 (by decide) ?_
      exact mj_iret C Z dK_leastFree_29 ⟨_, rfl, rfl, h⟩
    · have h := h.2 c1
      refine mj_aload_n C dK_leastFree_8 rfl ?_
      refine mj_getR C inK_all rfl e_GK 2 (by decide) l_K_15 rfl dK_leastFree_9 ?_
      refine mj_iload_n C dK_leastFree_12 rfl ?_
      have t2 := mk_isT h.1
      refine mj_aald (t0 := 2) C e_tasks rfl h.1 rfl dK_leastFree_13 ?_
      have h := h.2
      refine mj_getI C inT_all rfl (e_Task t2) 1 (by decide) l_K_96 rfl dK_leastFree_14 ?_
      refine mj_if_ne (tgt := 22) C dK_leastFree_17 (by decide) (fun c3 => ?_) (fun c3 => ?_)
      · have h := h.1 c3
        refine mj_iinc (b := 1) C dK_leastFree_22 rfl (by decide) (by decide) rfl ?_
        have h := h _ rfl
        refine mj_goto (tgt := 2) C dK_leastFree_25 (by decide) ?_
        exact mj_sub2 (ih _ h) ⟨rfl, rfl, trivial⟩
      · have h := h.2 c3
        refine mj_iload_n C dK_leastFree_20 rfl ?_
        exact mj_iret C Z dK_leastFree_21 ⟨_, rfl, rfl, h⟩
def wK_leastFree  (k : mj_St) (Q : Int32 → Prop) : Prop := (∃ e2, wK_leastFree_2 e2 0 k Q)
set_option maxRecDepth 100000 in
set_option maxHeartbeats 4000000 in
theorem qK_leastFree {E : mj_E} (hok : mj_Ok (mk_v E))  {k mm : mj_St} {Q : Int32 → Prop} (h : wK_leastFree  k Q) : mj_Ct (mk_v E) yK_leastFree (Cond.code yK_leastFree cK_leastFree 2 (some .int) :: mj_all) { frames := 0, cells := 0, slots := 0, locals := 0 } [.ref 0] (k, mm) (mj_iR (k, mm) Q) := by
  refine mj_enterA (L := [(0, .ref 0)]) hok (by decide +kernel) ⟨rfl, rfl⟩ (fun _ => Nat.le_of_ble_eq_true rfl) rfl (fun r C Z => ?_)
  unfold wK_leastFree at h
  refine mj_iconst (a := 0) C dK_leastFree_0 (by decide) ?_
  refine mj_istore_n C dK_leastFree_1 (by decide) rfl ?_
  obtain ⟨n0, h⟩ := h
  exact mj_sub2 (uK_leastFree_2 hok C Z  n0 _ h) ⟨rfl, rfl, trivial⟩
/-! GrantKernel$Task.begin -/
def wT_begin_23 (n : Nat) (x0 : Nat) (x4 : Int32)  (k : mj_St) (Q : mj_St → Prop)  : Prop := match n with
  | 0 => False
  | n + 1 => mk_T x0 ∧ (((8 ≤ x4) → Q k) ∧ ((¬ 8 ≤ x4) → vp_in x4 8 ∧ (∀ k8 : mj_St, k8 = mj_up k (x0 + 6) x4.toNatClampNeg 0 → (∀ a9 : Int32, a9 = x4 + 1 → (wT_begin_23 n x0 a9 k8 Q)))))
set_option maxRecDepth 100000 in
set_option maxHeartbeats 4000000 in
theorem uT_begin_23 {E : mj_E} {r : mj_R} {mm : mj_St} {Q : mj_St → Prop} (hok : mj_Ok (mk_v E)) (C : mj_Cx (mk_v E) r cT_begin 5 RT mj_all { frames := 0, cells := 0, slots := 0, locals := 0 }) (Z : mj_Cr (mk_v E) r none (mj_vK mm Q))   : ∀ (n : Nat) (x0 : Nat) (x4 : Int32) (k : mj_St), wT_begin_23 n x0 x4 k Q → mj_G (mk_v E) r 23 [(0, .ref x0), (4, .int x4)] [] (k, mm) := by
  intro n
  induction n with
  | zero => intro x0 x4 k h; exact False.elim h
  | succ n ih =>
    intro x0 x4 k h
    rw [wT_begin_23] at h
    have t6 := h.1
    have h := h.2
    refine mj_iload C dT_begin_23 rfl ?_
    refine mj_bipush (a := 8) C dT_begin_25 (by decide) ?_
    refine mj_icmp_ge (tgt := 44) C dT_begin_27 (by decide) (fun c7 => ?_) (fun c7 => ?_)
    · have h := h.1 c7
      exact mj_vret C Z dT_begin_44 ⟨_, rfl, rfl, h⟩
    · have h := h.2 c7
      refine mj_aload_n C dT_begin_30 rfl ?_
      refine mj_getR C inT_all rfl (e_Task t6) 0 (by decide) l_T_9 rfl dT_begin_31 ?_
      refine mj_iload C dT_begin_34 rfl ?_
      refine mj_iconst (a := 0) C dT_begin_36 (by decide) ?_
      refine mj_iast (t0 := 0) C (e_regs t6) rfl h.1 (s_regs t6) dT_begin_37 ?_
      have h := h.2 _ rfl
      refine mj_iinc (b := 1) C dT_begin_38 rfl (by decide) (by decide) rfl ?_
      have h := h _ rfl
      refine mj_goto (tgt := 23) C dT_begin_41 (by decide) ?_
      exact mj_sub2 (ih _ _ _ h) ⟨rfl, rfl, trivial⟩
def wT_begin (o : Nat) (p0 : Int32) (p1 : Int32) (p2 : Int32) (k : mj_St) (Q : mj_St → Prop) : Prop := mk_T o ∧ (∀ k2 : mj_St, k2 = mj_up k o 3 p0 → (∀ k3 : mj_St, k3 = mj_up k2 o 4 p1 → (∀ k4 : mj_St, k4 = mj_up k3 o 5 p2 → (∀ k5 : mj_St, k5 = mj_up k4 o 6 (-1) → ((∃ e23, wT_begin_23 e23 o 0 k5 Q))))))
set_option maxRecDepth 100000 in
set_option maxHeartbeats 4000000 in
theorem qT_begin {E : mj_E} (hok : mj_Ok (mk_v E)) {o : Nat} {p0 : Int32} {p1 : Int32} {p2 : Int32} {k mm : mj_St} {Q : mj_St → Prop} (h : wT_begin o p0 p1 p2 k Q) : mj_Ct (mk_v E) yT_begin (Cond.code yT_begin cT_begin 5 none :: mj_all) { frames := 0, cells := 0, slots := 0, locals := 0 } [.ref o, .int p0, .int p1, .int p2] (k, mm) (mj_vK mm Q) := by
  refine mj_enterA (L := [(0, .ref o), (1, .int p0), (2, .int p1), (3, .int p2)]) hok (by decide +kernel) ⟨rfl, rfl⟩ (fun _ => Nat.le_of_ble_eq_true rfl) rfl (fun r C Z => ?_)
  unfold wT_begin at h
  have t1 := h.1
  have h := h.2
  refine mj_aload_n C dT_begin_0 rfl ?_
  refine mj_iload_n C dT_begin_1 rfl ?_
  refine mj_put C inT_all rfl tyT okT nmT (e_Task t1) 3 (by decide) l_T_25 rfl (by decide +kernel) (Nat.le_of_ble_eq_true rfl) (s_Task_3 t1) dT_begin_2 ?_
  have h := h _ rfl
  refine mj_aload_n C dT_begin_5 rfl ?_
  refine mj_iload_n C dT_begin_6 rfl ?_
  refine mj_put C inT_all rfl tyT okT nmT (e_Task t1) 4 (by decide) l_T_28 rfl (by decide +kernel) (Nat.le_of_ble_eq_true rfl) (s_Task_4 t1) dT_begin_7 ?_
  have h := h _ rfl
  refine mj_aload_n C dT_begin_10 rfl ?_
  refine mj_iload_n C dT_begin_11 rfl ?_
  refine mj_put C inT_all rfl tyT okT nmT (e_Task t1) 5 (by decide) l_T_31 rfl (by decide +kernel) (Nat.le_of_ble_eq_true rfl) (s_Task_5 t1) dT_begin_12 ?_
  have h := h _ rfl
  refine mj_aload_n C dT_begin_15 rfl ?_
  refine mj_iconst (a := (-1)) C dT_begin_16 (by decide) ?_
  refine mj_put C inT_all rfl tyT okT nmT (e_Task t1) 6 (by decide) l_T_22 rfl (by decide +kernel) (Nat.le_of_ble_eq_true rfl) (s_Task_6 t1) dT_begin_17 ?_
  have h := h _ rfl
  refine mj_iconst (a := 0) C dT_begin_20 (by decide) ?_
  refine mj_istore C dT_begin_21 (by decide) rfl ?_
  obtain ⟨n0, h⟩ := h
  exact mj_sub2 (uT_begin_23 hok C Z  n0 _ _ _ h) ⟨rfl, rfl, trivial⟩
/-! GrantKernel$Line.append -/
def wN_append (o : Nat) (p0 : Int32) (k : mj_St) (Q : mj_St → Prop) : Prop := mk_N o ∧ (((6 ≤ (k o 1)) → Q k) ∧ ((¬ 6 ≤ (k o 1)) → vp_in (k o 1) 6 ∧ (∀ k3 : mj_St, k3 = mj_up k (o + 5) (k o 1).toNatClampNeg p0 → (∀ k4 : mj_St, k4 = mj_up k3 o 1 ((k3 o 1) + 1) → (Q k4)))))
set_option maxRecDepth 100000 in
set_option maxHeartbeats 4000000 in
theorem qN_append {E : mj_E} (hok : mj_Ok (mk_v E)) {o : Nat} {p0 : Int32} {k mm : mj_St} {Q : mj_St → Prop} (h : wN_append o p0 k Q) : mj_Ct (mk_v E) yN_append (Cond.code yN_append cN_append 2 none :: mj_all) { frames := 0, cells := 0, slots := 0, locals := 0 } [.ref o, .int p0] (k, mm) (mj_vK mm Q) := by
  refine mj_enterA (L := [(0, .ref o), (1, .int p0)]) hok (by decide +kernel) ⟨rfl, rfl⟩ (fun _ => Nat.le_of_ble_eq_true rfl) rfl (fun r C Z => ?_)
  unfold wN_append at h
  have t1 := h.1
  have h := h.2
  refine mj_aload_n C dN_append_0 rfl ?_
  refine mj_getI C inN_all rfl (e_Line t1) 1 (by decide) l_N_15 rfl dN_append_1 ?_
  refine mj_bipush (a := 6) C dN_append_4 (by decide) ?_
  refine mj_icmp_ge (tgt := 29) C dN_append_6 (by decide) (fun c2 => ?_) (fun c2 => ?_)
  · have h := h.1 c2
    exact mj_vret C Z dN_append_29 ⟨_, rfl, rfl, h⟩
  · have h := h.2 c2
    refine mj_aload_n C dN_append_9 rfl ?_
    refine mj_getR C inN_all rfl (e_Line t1) 0 (by decide) l_N_9 rfl dN_append_10 ?_
    refine mj_aload_n C dN_append_13 rfl ?_
    refine mj_getI C inN_all rfl (e_Line t1) 1 (by decide) l_N_15 rfl dN_append_14 ?_
    refine mj_iload_n C dN_append_17 rfl ?_
    refine mj_iast (t0 := 0) C (e_threads t1) rfl h.1 (s_threads t1) dN_append_18 ?_
    have h := h.2 _ rfl
    refine mj_aload_n C dN_append_19 rfl ?_
    refine mj_dup C dN_append_20 rfl ?_
    refine mj_getI C inN_all rfl (e_Line t1) 1 (by decide) l_N_15 rfl dN_append_21 ?_
    refine mj_iconst (a := 1) C dN_append_24 (by decide) ?_
    refine mj_iadd C dN_append_25 ?_
    refine mj_put C inN_all rfl tyN okN nmN (e_Line t1) 1 (by decide) l_N_15 rfl (by decide +kernel) (Nat.le_of_ble_eq_true rfl) (s_Line_1 t1) dN_append_26 ?_
    have h := h _ rfl
    exact mj_vret C Z dN_append_29 ⟨_, rfl, rfl, h⟩
/-! GrantKernel.makeReady -/
def wK_makeReady (p0 : Int32) (k : mj_St) (Q : mj_St → Prop) : Prop := vp_in p0 6 ∧ (∀ k2 : mj_St, k2 = mj_up k (3 + p0.toNatClampNeg) 1 1 → (wN_append 15 p0 k2 (fun k3 => (Q k3))))
set_option maxRecDepth 100000 in
set_option maxHeartbeats 4000000 in
theorem qK_makeReady {E : mj_E} (hok : mj_Ok (mk_v E)) {p0 : Int32} {k mm : mj_St} {Q : mj_St → Prop} (h : wK_makeReady p0 k Q) : mj_Ct (mk_v E) yK_makeReady (Cond.code yK_makeReady cK_makeReady 2 none :: mj_all) { frames := 1, cells := 0, slots := 0, locals := 21 } [.ref 0, .int p0] (k, mm) (mj_vK mm Q) := by
  refine mj_enterA (L := [(0, .ref 0), (1, .int p0)]) hok (by decide +kernel) ⟨rfl, rfl⟩ (fun _ => Nat.le_of_ble_eq_true rfl) rfl (fun r C Z => ?_)
  unfold wK_makeReady at h
  refine mj_aload_n C dK_makeReady_0 rfl ?_
  refine mj_getR C inK_all rfl e_GK 2 (by decide) l_K_15 rfl dK_makeReady_1 ?_
  refine mj_iload_n C dK_makeReady_4 rfl ?_
  have t1 := mk_isT h.1
  refine mj_aald (t0 := 2) C e_tasks rfl h.1 rfl dK_makeReady_5 ?_
  have h := h.2
  refine mj_iconst (a := 1) C dK_makeReady_6 (by decide) ?_
  refine mj_put C inT_all rfl tyT okT nmT (e_Task t1) 1 (by decide) l_K_96 rfl (by decide +kernel) (Nat.le_of_ble_eq_true rfl) (s_Task_1 t1) dK_makeReady_7 ?_
  have h := h _ rfl
  refine mj_aload_n C dK_makeReady_10 rfl ?_
  refine mj_getR C inK_all rfl e_GK 3 (by decide) l_K_22 rfl dK_makeReady_11 ?_
  refine mj_iload_n C dK_makeReady_14 rfl ?_
  refine mj_callV_vWK C (qN_append hok h) (g_N_append l_K_139) rfl (e_Line (by decide)) z_N_append ⟨Nat.le_of_ble_eq_true rfl, Nat.le_of_ble_eq_true rfl, rfl, rfl⟩ rfl rfl (Nat.le_of_ble_eq_true rfl) dK_makeReady_15 (fun k3 h => ?_)
  exact mj_vret C Z dK_makeReady_18 ⟨_, rfl, rfl, h⟩
/-! GrantKernel.spawn -/
def wK_spawn_44 (x1 : Int32) (x2 : Int32) (x3 : Int32) (y0 : Int32)  (k : mj_St) (Q : Int32 → mj_St → Prop)  : Prop := ((¬ y0 = (-1)) → vp_in y0 6 ∧ (wT_begin (3 + y0.toNatClampNeg) x1 x2 x3 k (fun k6 => (wK_makeReady y0 k6 (fun k7 => (Q y0 k7)))))) ∧ ((y0 = (-1)) → Q (-1) k)
set_option maxRecDepth 100000 in
set_option maxHeartbeats 4000000 in
theorem uK_spawn_44 {E : mj_E} {r : mj_R} {mm : mj_St} {Q : Int32 → mj_St → Prop} (hok : mj_Ok (mk_v E)) (C : mj_Cx (mk_v E) r cK_spawn 6 RK mj_all { frames := 2, cells := 0, slots := 0, locals := 42 }) (Z : mj_Cr (mk_v E) r (some .int) (mj_iK mm Q)) {x1 : Int32} {x2 : Int32} {x3 : Int32} {y0 : Int32} {k : mj_St}   (h : wK_spawn_44 x1 x2 x3 y0 k Q) : mj_G (mk_v E) r 44 [(0, .ref 0), (1, .int x1), (2, .int x2), (3, .int x3)] [.int y0] (k, mm) := by
  unfold wK_spawn_44 at h
  refine mj_istore C dK_spawn_44 (by decide) rfl ?_
  refine mj_iload C dK_spawn_46 rfl ?_
  refine mj_iconst (a := (-1)) C dK_spawn_48 (by decide) ?_
  refine mj_icmp_ne (tgt := 54) C dK_spawn_49 (by decide) (fun c4 => ?_) (fun c4 => ?_)
  · have h := h.1 c4
    refine mj_aload_n C dK_spawn_54 rfl ?_
    refine mj_getR C inK_all rfl e_GK 2 (by decide) l_K_15 rfl dK_spawn_55 ?_
    refine mj_iload C dK_spawn_58 rfl ?_
    have t5 := mk_isT h.1
    refine mj_aald (t0 := 2) C e_tasks rfl h.1 rfl dK_spawn_60 ?_
    have h := h.2
    refine mj_iload_n C dK_spawn_61 rfl ?_
    refine mj_iload_n C dK_spawn_62 rfl ?_
    refine mj_iload_n C dK_spawn_63 rfl ?_
    refine mj_callV_vWK C (qT_begin hok h) (g_T_begin l_K_66) rfl (e_Task t5) z_T_begin ⟨Nat.le_of_ble_eq_true rfl, Nat.le_of_ble_eq_true rfl, rfl, rfl⟩ rfl rfl (Nat.le_of_ble_eq_true rfl) dK_spawn_64 (fun k6 h => ?_)
    refine mj_aload_n C dK_spawn_67 rfl ?_
    refine mj_iload C dK_spawn_68 rfl ?_
    refine mj_callV_vWK C (qK_makeReady hok h) (g_K_makeReady l_K_70) rfl e_GK z_K_makeReady ⟨Nat.le_of_ble_eq_true rfl, Nat.le_of_ble_eq_true rfl, rfl, rfl⟩ rfl rfl (Nat.le_of_ble_eq_true rfl) dK_spawn_70 (fun k7 h => ?_)
    refine mj_iload C dK_spawn_73 rfl ?_
    exact mj_iret C Z dK_spawn_75 ⟨_, _, rfl, rfl, h⟩
  · have h := h.2 c4
    refine mj_iconst (a := (-1)) C dK_spawn_52 (by decide) ?_
    exact mj_iret C Z dK_spawn_53 ⟨_, _, rfl, rfl, h⟩
def wK_spawn_29 (x1 : Int32) (x2 : Int32) (x3 : Int32) (y0 : Int32)  (k : mj_St) (Q : Int32 → mj_St → Prop)  : Prop := ((y0 = 0) → wK_spawn_44 x1 x2 x3 (-1) k Q) ∧ ((¬ y0 = 0) → wK_leastFree k (fun a8 => (wK_spawn_44 x1 x2 x3 a8 k Q)))
set_option maxRecDepth 100000 in
set_option maxHeartbeats 4000000 in
theorem uK_spawn_29 {E : mj_E} {r : mj_R} {mm : mj_St} {Q : Int32 → mj_St → Prop} (hok : mj_Ok (mk_v E)) (C : mj_Cx (mk_v E) r cK_spawn 6 RK mj_all { frames := 2, cells := 0, slots := 0, locals := 42 }) (Z : mj_Cr (mk_v E) r (some .int) (mj_iK mm Q)) {x1 : Int32} {x2 : Int32} {x3 : Int32} {y0 : Int32} {k : mj_St}   (h : wK_spawn_29 x1 x2 x3 y0 k Q) : mj_G (mk_v E) r 29 [(0, .ref 0), (1, .int x1), (2, .int x2), (3, .int x3)] [.int y0] (k, mm) := by
  unfold wK_spawn_29 at h
  refine mj_istore C dK_spawn_29 (by decide) rfl ?_
  refine mj_iload C dK_spawn_31 rfl ?_
  refine mj_if_eq (tgt := 43) C dK_spawn_33 (by decide) (fun c3 => ?_) (fun c3 => ?_)
  · have h := h.1 c3
    refine mj_iconst (a := (-1)) C dK_spawn_43 (by decide) ?_
    exact mj_sub2 (uK_spawn_44 hok C Z  h) ⟨rfl, rfl, rfl, rfl, trivial⟩
  · have h := h.2 c3
    refine mj_aload_n C dK_spawn_36 rfl ?_
    refine mj_callV_iR C (qK_leastFree hok h) (g_K_leastFree l_K_62) rfl e_GK z_K_leastFree ⟨Nat.le_of_ble_eq_true rfl, Nat.le_of_ble_eq_true rfl, rfl, rfl⟩ rfl rfl (Nat.le_of_ble_eq_true rfl) dK_spawn_37 (fun a8 h => ?_)
    refine mj_goto (tgt := 44) C dK_spawn_40 (by decide) ?_
    exact mj_sub2 (uK_spawn_44 hok C Z  h) ⟨rfl, rfl, rfl, rfl, trivial⟩
def wK_spawn_28 (x1 : Int32) (x2 : Int32) (x3 : Int32)  (k : mj_St) (Q : Int32 → mj_St → Prop)  : Prop := wK_spawn_29 x1 x2 x3 0 k Q
set_option maxRecDepth 100000 in
set_option maxHeartbeats 4000000 in
theorem uK_spawn_28 {E : mj_E} {r : mj_R} {mm : mj_St} {Q : Int32 → mj_St → Prop} (hok : mj_Ok (mk_v E)) (C : mj_Cx (mk_v E) r cK_spawn 6 RK mj_all { frames := 2, cells := 0, slots := 0, locals := 42 }) (Z : mj_Cr (mk_v E) r (some .int) (mj_iK mm Q)) {x1 : Int32} {x2 : Int32} {x3 : Int32} {k : mj_St}   (h : wK_spawn_28 x1 x2 x3 k Q) : mj_G (mk_v E) r 28 [(0, .ref 0), (1, .int x1), (2, .int x2), (3, .int x3)] [] (k, mm) := by
  unfold wK_spawn_28 at h
  refine mj_iconst (a := 0) C dK_spawn_28 (by decide) ?_
  exact mj_sub2 (uK_spawn_29 hok C Z  h) ⟨rfl, rfl, rfl, rfl, trivial⟩
def wK_spawn (p0 : Int32) (p1 : Int32) (p2 : Int32) (k : mj_St) (Q : Int32 → mj_St → Prop) : Prop := wK_isBetween p1 0 128 (fun a1 => (((a1 = 0) → wK_spawn_28 p0 p1 p2 k Q) ∧ ((¬ a1 = 0) → wK_isBetween p2 0 (128 - p1) (fun a9 => (((a9 = 0) → wK_spawn_28 p0 p1 p2 k Q) ∧ ((¬ a9 = 0) → wK_spawn_29 p0 p1 p2 1 k Q))))))
set_option maxRecDepth 100000 in
set_option maxHeartbeats 4000000 in
theorem qK_spawn {E : mj_E} (hok : mj_Ok (mk_v E)) {p0 : Int32} {p1 : Int32} {p2 : Int32} {k mm : mj_St} {Q : Int32 → mj_St → Prop} (h : wK_spawn p0 p1 p2 k Q) : mj_Ct (mk_v E) yK_spawn (Cond.code yK_spawn cK_spawn 6 (some .int) :: mj_all) { frames := 2, cells := 0, slots := 0, locals := 42 } [.ref 0, .int p0, .int p1, .int p2] (k, mm) (mj_iK mm Q) := by
  refine mj_enterA (L := [(0, .ref 0), (1, .int p0), (2, .int p1), (3, .int p2)]) hok (by decide +kernel) ⟨rfl, rfl⟩ (fun _ => Nat.le_of_ble_eq_true rfl) rfl (fun r C Z => ?_)
  unfold wK_spawn at h
  refine mj_iload_n C dK_spawn_0 rfl ?_
  refine mj_iconst (a := 0) C dK_spawn_1 (by decide) ?_
  refine mj_sipush (a := 128) C dK_spawn_2 (by decide) ?_
  refine mj_callS_iR C (qK_isBetween hok h) (g_K_isBetween l_K_58) z_K_isBetween ⟨Nat.le_of_ble_eq_true rfl, Nat.le_of_ble_eq_true rfl, rfl, rfl⟩ rfl rfl (Nat.le_of_ble_eq_true rfl) dK_spawn_5 (fun a1 h => ?_)
  refine mj_if_eq (tgt := 28) C dK_spawn_8 (by decide) (fun c2 => ?_) (fun c2 => ?_)
  · have h := h.1 c2
    exact mj_sub2 (uK_spawn_28 hok C Z  h) ⟨rfl, rfl, rfl, rfl, trivial⟩
  · have h := h.2 c2
    refine mj_iload_n C dK_spawn_11 rfl ?_
    refine mj_iconst (a := 0) C dK_spawn_12 (by decide) ?_
    refine mj_sipush (a := 128) C dK_spawn_13 (by decide) ?_
    refine mj_iload_n C dK_spawn_16 rfl ?_
    refine mj_isub C dK_spawn_17 ?_
    refine mj_callS_iR C (qK_isBetween hok h) (g_K_isBetween l_K_58) z_K_isBetween ⟨Nat.le_of_ble_eq_true rfl, Nat.le_of_ble_eq_true rfl, rfl, rfl⟩ rfl rfl (Nat.le_of_ble_eq_true rfl) dK_spawn_18 (fun a9 h => ?_)
    refine mj_if_eq (tgt := 28) C dK_spawn_21 (by decide) (fun c10 => ?_) (fun c10 => ?_)
    · have h := h.1 c10
      exact mj_sub2 (uK_spawn_28 hok C Z  h) ⟨rfl, rfl, rfl, rfl, trivial⟩
    · have h := h.2 c10
      refine mj_iconst (a := 1) C dK_spawn_24 (by decide) ?_
      refine mj_goto (tgt := 29) C dK_spawn_25 (by decide) ?_
      exact mj_sub2 (uK_spawn_29 hok C Z  h) ⟨rfl, rfl, rfl, rfl, trivial⟩
/-! GrantKernel.usedTask -/
def wK_usedTask (p0 : Int32) (k : mj_St) (Q : Option Nat → Prop) : Prop := wK_isBetween p0 0 5 (fun a1 => (((a1 = 0) → Q none) ∧ ((¬ a1 = 0) → vp_in p0 6 ∧ ((((k (3 + p0.toNatClampNeg) 1) = 0) → Q none) ∧ ((¬ (k (3 + p0.toNatClampNeg) 1) = 0) → vp_in p0 6 ∧ (Q (some (3 + p0.toNatClampNeg))))))))
set_option maxRecDepth 100000 in
set_option maxHeartbeats 4000000 in
theorem qK_usedTask {E : mj_E} (hok : mj_Ok (mk_v E)) {p0 : Int32} {k mm : mj_St} {Q : Option Nat → Prop} (h : wK_usedTask p0 k Q) : mj_Ct (mk_v E) yK_usedTask (Cond.code yK_usedTask cK_usedTask 2 (some (.object "GrantKernel$Task")) :: mj_all) { frames := 1, cells := 0, slots := 0, locals := 22 } [.ref 0, .int p0] (k, mm) (mj_aR (k, mm) Q) := by
  refine mj_enterA (L := [(0, .ref 0), (1, .int p0)]) hok (by decide +kernel) ⟨rfl, rfl⟩ (fun _ => Nat.le_of_ble_eq_true rfl) rfl (fun r C Z => ?_)
  unfold wK_usedTask at h
  refine mj_iload_n C dK_usedTask_0 rfl ?_
  refine mj_iconst (a := 0) C dK_usedTask_1 (by decide) ?_
  refine mj_iconst (a := 5) C dK_usedTask_2 (by decide) ?_
  refine mj_callS_iR C (qK_isBetween hok h) (g_K_isBetween l_K_58) z_K_isBetween ⟨Nat.le_of_ble_eq_true rfl, Nat.le_of_ble_eq_true rfl, rfl, rfl⟩ rfl rfl (Nat.le_of_ble_eq_true rfl) dK_usedTask_3 (fun a1 h => ?_)
  refine mj_if_eq (tgt := 30) C dK_usedTask_6 (by decide) (fun c2 => ?_) (fun c2 => ?_)
  · have h := h.1 c2
    refine mj_null C dK_usedTask_30 ?_
    exact mj_aretN C Z dK_usedTask_31 ⟨none, rfl, rfl, h⟩
  · have h := h.2 c2
    refine mj_aload_n C dK_usedTask_9 rfl ?_
    refine mj_getR C inK_all rfl e_GK 2 (by decide) l_K_15 rfl dK_usedTask_10 ?_
    refine mj_iload_n C dK_usedTask_13 rfl ?_
    have t3 := mk_isT h.1
    refine mj_aald (t0 := 2) C e_tasks rfl h.1 rfl dK_usedTask_14 ?_
    have h := h.2
    refine mj_getI C inT_all rfl (e_Task t3) 1 (by decide) l_K_96 rfl dK_usedTask_15 ?_
    refine mj_if_eq (tgt := 30) C dK_usedTask_18 (by decide) (fun c4 => ?_) (fun c4 => ?_)
    · have h := h.1 c4
      refine mj_null C dK_usedTask_30 ?_
      exact mj_aretN C Z dK_usedTask_31 ⟨none, rfl, rfl, h⟩
    · have h := h.2 c4
      refine mj_aload_n C dK_usedTask_21 rfl ?_
      refine mj_getR C inK_all rfl e_GK 2 (by decide) l_K_15 rfl dK_usedTask_22 ?_
      refine mj_iload_n C dK_usedTask_25 rfl ?_
      have t5 := mk_isT h.1
      refine mj_aald (t0 := 2) C e_tasks rfl h.1 rfl dK_usedTask_26 ?_
      have h := h.2
      refine mj_goto (tgt := 31) C dK_usedTask_27 (by decide) ?_
      exact mj_aretS C Z dK_usedTask_31 ⟨some _, rfl, rfl, h⟩
/-! GrantKernel.put -/
def wK_put (p0 : Int32) (p1 : Int32) (p2 : Int32) (k : mj_St) (Q : Int32 → mj_St → Prop) : Prop := wK_usedTask p0 k (fun u1 => (((u1 = none) → Q 0 k) ∧ (∀ o2 : Nat, u1 = some o2 → mk_T o2 ∧ (wK_isBetween p1 0 7 (fun a4 => (((¬ a4 = 0) → vp_in p1 8 ∧ (∀ k6 : mj_St, k6 = mj_up k (o2 + 6) p1.toNatClampNeg p2 → (Q 1 k6))) ∧ ((a4 = 0) → Q 0 k)))))))
set_option maxRecDepth 100000 in
set_option maxHeartbeats 4000000 in
theorem qK_put {E : mj_E} (hok : mj_Ok (mk_v E)) {p0 : Int32} {p1 : Int32} {p2 : Int32} {k mm : mj_St} {Q : Int32 → mj_St → Prop} (h : wK_put p0 p1 p2 k Q) : mj_Ct (mk_v E) yK_put (Cond.code yK_put cK_put 5 (some .boolean) :: mj_all) { frames := 2, cells := 0, slots := 0, locals := 43 } [.ref 0, .int p0, .int p1, .int p2] (k, mm) (mj_iK mm Q) := by
  refine mj_enterA (L := [(0, .ref 0), (1, .int p0), (2, .int p1), (3, .int p2)]) hok (by decide +kernel) ⟨rfl, rfl⟩ (fun _ => Nat.le_of_ble_eq_true rfl) rfl (fun r C Z => ?_)
  unfold wK_put at h
  refine mj_aload_n C dK_put_0 rfl ?_
  refine mj_iload_n C dK_put_1 rfl ?_
  refine mj_callV_aR C (qK_usedTask hok h) (g_K_usedTask l_K_74) rfl e_GK z_K_usedTask ⟨Nat.le_of_ble_eq_true rfl, Nat.le_of_ble_eq_true rfl, rfl, rfl⟩ rfl rfl (Nat.le_of_ble_eq_true rfl) dK_put_2 (fun h => ?_) (fun o2 h => ?_)
  · have h := h.1 rfl
    refine mj_astoreN C dK_put_5 (by decide) rfl ?_
    refine mj_aloadN C dK_put_7 rfl ?_
    refine mj_ifnullN (tgt := 22) C dK_put_9 (by decide) ?_
    refine mj_iconst (a := 0) C dK_put_22 (by decide) ?_
    exact mj_zret C Z (Or.inl rfl) dK_put_23 ⟨_, _, rfl, rfl, h⟩
  · have t3 := (h.2 _ rfl).1
    have h := (h.2 _ rfl).2
    refine mj_astore C dK_put_5 (by decide) rfl ?_
    refine mj_aload C dK_put_7 rfl ?_
    refine mj_ifnull C dK_put_9 ?_
    refine mj_iload_n C dK_put_12 rfl ?_
    refine mj_iconst (a := 0) C dK_put_13 (by decide) ?_
    refine mj_bipush (a := 7) C dK_put_14 (by decide) ?_
    refine mj_callS_iR C (qK_isBetween hok h) (g_K_isBetween l_K_58) z_K_isBetween ⟨Nat.le_of_ble_eq_true rfl, Nat.le_of_ble_eq_true rfl, rfl, rfl⟩ rfl rfl (Nat.le_of_ble_eq_true rfl) dK_put_16 (fun a4 h => ?_)
    refine mj_if_ne (tgt := 24) C dK_put_19 (by decide) (fun c5 => ?_) (fun c5 => ?_)
    · have h := h.1 c5
      refine mj_aload C dK_put_24 rfl ?_
      refine mj_getR C inT_all rfl (e_Task t3) 0 (by decide) l_K_78 rfl dK_put_26 ?_
      refine mj_iload_n C dK_put_29 rfl ?_
      refine mj_iload_n C dK_put_30 rfl ?_
      refine mj_iast (t0 := 0) C (e_regs t3) rfl h.1 (s_regs t3) dK_put_31 ?_
      have h := h.2 _ rfl
      refine mj_iconst (a := 1) C dK_put_32 (by decide) ?_
      exact mj_zret C Z (Or.inr rfl) dK_put_33 ⟨_, _, rfl, rfl, h⟩
    · have h := h.2 c5
      refine mj_iconst (a := 0) C dK_put_22 (by decide) ?_
      exact mj_zret C Z (Or.inl rfl) dK_put_23 ⟨_, _, rfl, rfl, h⟩
/-! GrantKernel.slotPlace -/
def wK_slotPlace (p0 : Int32) (p1 : Int32)  (Q : Int32 → Prop) : Prop := Q ((8 * p0) + p1)
set_option maxRecDepth 100000 in
set_option maxHeartbeats 4000000 in
theorem qK_slotPlace {E : mj_E} (hok : mj_Ok (mk_v E)) {p0 : Int32} {p1 : Int32} {x : mj_X} {Q : Int32 → Prop} (h : wK_slotPlace p0 p1  Q) : mj_Ct (mk_v E) yK_slotPlace (Cond.code yK_slotPlace cK_slotPlace 2 (some .int) :: mj_all) { frames := 0, cells := 0, slots := 0, locals := 0 } [.int p0, .int p1] x (mj_iR x Q) := by
  refine mj_enterA (L := [(0, .int p0), (1, .int p1)]) hok (by decide +kernel) ⟨rfl, rfl⟩ (fun _ => Nat.le_of_ble_eq_true rfl) rfl (fun r C Z => ?_)
  unfold wK_slotPlace at h
  refine mj_bipush (a := 8) C dK_slotPlace_0 (by decide) ?_
  refine mj_iload_n C dK_slotPlace_2 rfl ?_
  refine mj_imul C dK_slotPlace_3 ?_
  refine mj_iload_n C dK_slotPlace_4 rfl ?_
  refine mj_iadd C dK_slotPlace_5 ?_
  exact mj_iret C Z dK_slotPlace_6 ⟨_, rfl, rfl, h⟩
/-! GrantKernel.placeOf -/
def wK_placeOf_24 (x0 : Int32) (x1 : Int32) (y0 : Int32)   (Q : Int32 → Prop)  : Prop := ((y0 = 0) → Q (-1)) ∧ ((¬ y0 = 0) → wK_slotPlace x0 x1 (fun a4 => (Q a4)))
set_option maxRecDepth 100000 in
set_option maxHeartbeats 4000000 in
theorem uK_placeOf_24 {E : mj_E} {r : mj_R} {x : mj_X} {Q : Int32 → Prop} (hok : mj_Ok (mk_v E)) (C : mj_Cx (mk_v E) r cK_placeOf 3 RK mj_all { frames := 1, cells := 0, slots := 0, locals := 22 }) (Z : mj_Cr (mk_v E) r (some .int) (mj_iR x Q)) {x0 : Int32} {x1 : Int32} {y0 : Int32}    (h : wK_placeOf_24 x0 x1 y0 Q) : mj_G (mk_v E) r 24 [(0, .int x0), (1, .int x1)] [.int y0] x := by
  unfold wK_placeOf_24 at h
  refine mj_istore_n C dK_placeOf_24 (by decide) rfl ?_
  refine mj_iload_n C dK_placeOf_25 rfl ?_
  refine mj_if_eq (tgt := 37) C dK_placeOf_26 (by decide) (fun c3 => ?_) (fun c3 => ?_)
  · have h := h.1 c3
    refine mj_iconst (a := (-1)) C dK_placeOf_37 (by decide) ?_
    exact mj_iret C Z dK_placeOf_38 ⟨_, rfl, rfl, h⟩
  · have h := h.2 c3
    refine mj_iload_n C dK_placeOf_29 rfl ?_
    refine mj_iload_n C dK_placeOf_30 rfl ?_
    refine mj_callS_iR C (qK_slotPlace hok h) (g_K_slotPlace l_K_102) z_K_slotPlace ⟨Nat.le_of_ble_eq_true rfl, Nat.le_of_ble_eq_true rfl, rfl, rfl⟩ rfl rfl (Nat.le_of_ble_eq_true rfl) dK_placeOf_31 (fun a4 h => ?_)
    refine mj_goto (tgt := 38) C dK_placeOf_34 (by decide) ?_
    exact mj_iret C Z dK_placeOf_38 ⟨_, rfl, rfl, h⟩
def wK_placeOf_23 (x0 : Int32) (x1 : Int32)   (Q : Int32 → Prop)  : Prop := wK_placeOf_24 x0 x1 0 Q
set_option maxRecDepth 100000 in
set_option maxHeartbeats 4000000 in
theorem uK_placeOf_23 {E : mj_E} {r : mj_R} {x : mj_X} {Q : Int32 → Prop} (hok : mj_Ok (mk_v E)) (C : mj_Cx (mk_v E) r cK_placeOf 3 RK mj_all { frames := 1, cells := 0, slots := 0, locals := 22 }) (Z : mj_Cr (mk_v E) r (some .int) (mj_iR x Q)) {x0 : Int32} {x1 : Int32}    (h : wK_placeOf_23 x0 x1 Q) : mj_G (mk_v E) r 23 [(0, .int x0), (1, .int x1)] [] x := by
  unfold wK_placeOf_23 at h
  refine mj_iconst (a := 0) C dK_placeOf_23 (by decide) ?_
  exact mj_sub2 (uK_placeOf_24 hok C Z  h) ⟨rfl, rfl, trivial⟩
def wK_placeOf (p0 : Int32) (p1 : Int32)  (Q : Int32 → Prop) : Prop := wK_isBetween p0 0 5 (fun a1 => (((a1 = 0) → wK_placeOf_23 p0 p1 Q) ∧ ((¬ a1 = 0) → wK_isBetween p1 0 7 (fun a5 => (((a5 = 0) → wK_placeOf_23 p0 p1 Q) ∧ ((¬ a5 = 0) → wK_placeOf_24 p0 p1 1 Q))))))
set_option maxRecDepth 100000 in
set_option maxHeartbeats 4000000 in
theorem qK_placeOf {E : mj_E} (hok : mj_Ok (mk_v E)) {p0 : Int32} {p1 : Int32} {x : mj_X} {Q : Int32 → Prop} (h : wK_placeOf p0 p1  Q) : mj_Ct (mk_v E) yK_placeOf (Cond.code yK_placeOf cK_placeOf 3 (some .int) :: mj_all) { frames := 1, cells := 0, slots := 0, locals := 22 } [.int p0, .int p1] x (mj_iR x Q) := by
  refine mj_enterA (L := [(0, .int p0), (1, .int p1)]) hok (by decide +kernel) ⟨rfl, rfl⟩ (fun _ => Nat.le_of_ble_eq_true rfl) rfl (fun r C Z => ?_)
  unfold wK_placeOf at h
  refine mj_iload_n C dK_placeOf_0 rfl ?_
  refine mj_iconst (a := 0) C dK_placeOf_1 (by decide) ?_
  refine mj_iconst (a := 5) C dK_placeOf_2 (by decide) ?_
  refine mj_callS_iR C (qK_isBetween hok h) (g_K_isBetween l_K_58) z_K_isBetween ⟨Nat.le_of_ble_eq_true rfl, Nat.le_of_ble_eq_true rfl, rfl, rfl⟩ rfl rfl (Nat.le_of_ble_eq_true rfl) dK_placeOf_3 (fun a1 h => ?_)
  refine mj_if_eq (tgt := 23) C dK_placeOf_6 (by decide) (fun c2 => ?_) (fun c2 => ?_)
  · have h := h.1 c2
    exact mj_sub2 (uK_placeOf_23 hok C Z  h) ⟨rfl, rfl, trivial⟩
  · have h := h.2 c2
    refine mj_iload_n C dK_placeOf_9 rfl ?_
    refine mj_iconst (a := 0) C dK_placeOf_10 (by decide) ?_
    refine mj_bipush (a := 7) C dK_placeOf_11 (by decide) ?_
    refine mj_callS_iR C (qK_isBetween hok h) (g_K_isBetween l_K_58) z_K_isBetween ⟨Nat.le_of_ble_eq_true rfl, Nat.le_of_ble_eq_true rfl, rfl, rfl⟩ rfl rfl (Nat.le_of_ble_eq_true rfl) dK_placeOf_13 (fun a5 h => ?_)
    refine mj_if_eq (tgt := 23) C dK_placeOf_16 (by decide) (fun c6 => ?_) (fun c6 => ?_)
    · have h := h.1 c6
      exact mj_sub2 (uK_placeOf_23 hok C Z  h) ⟨rfl, rfl, trivial⟩
    · have h := h.2 c6
      refine mj_iconst (a := 1) C dK_placeOf_19 (by decide) ?_
      refine mj_goto (tgt := 24) C dK_placeOf_20 (by decide) ?_
      exact mj_sub2 (uK_placeOf_24 hok C Z  h) ⟨rfl, rfl, trivial⟩
/-! GrantKernel$Grants.holds -/
def wG_holds (p0 : Int32) (k : mj_St) (Q : Int32 → Prop) : Prop := vp_in p0 48 ∧ ((((k 27 p0.toNatClampNeg) = 0) → Q 0) ∧ ((¬ (k 27 p0.toNatClampNeg) = 0) → Q 1))
set_option maxRecDepth 100000 in
set_option maxHeartbeats 4000000 in
theorem qG_holds {E : mj_E} (hok : mj_Ok (mk_v E)) {p0 : Int32} {k mm : mj_St} {Q : Int32 → Prop} (h : wG_holds p0 k Q) : mj_Ct (mk_v E) yG_holds (Cond.code yG_holds cG_holds 2 (some .boolean) :: mj_all) { frames := 0, cells := 0, slots := 0, locals := 0 } [.ref 26, .int p0] (k, mm) (mj_iR (k, mm) Q) := by
  refine mj_enterA (L := [(0, .ref 26), (1, .int p0)]) hok (by decide +kernel) ⟨rfl, rfl⟩ (fun _ => Nat.le_of_ble_eq_true rfl) rfl (fun r C Z => ?_)
  unfold wG_holds at h
  refine mj_aload_n C dG_holds_0 rfl ?_
  refine mj_getR C inG_all rfl e_Grants 0 (by decide) l_G_9 rfl dG_holds_1 ?_
  refine mj_iload_n C dG_holds_4 rfl ?_
  refine mj_iald (t0 := 0) C e_kinds rfl h.1 dG_holds_5 ?_
  have h := h.2
  refine mj_if_eq (tgt := 13) C dG_holds_6 (by decide) (fun c1 => ?_) (fun c1 => ?_)
  · have h := h.1 c1
    refine mj_iconst (a := 0) C dG_holds_13 (by decide) ?_
    exact mj_zret C Z (Or.inl rfl) dG_holds_14 ⟨_, rfl, rfl, h⟩
  · have h := h.2 c1
    refine mj_iconst (a := 1) C dG_holds_9 (by decide) ?_
    refine mj_goto (tgt := 14) C dG_holds_10 (by decide) ?_
    exact mj_zret C Z (Or.inr rfl) dG_holds_14 ⟨_, rfl, rfl, h⟩
/-! GrantKernel.isObjectOfKind -/
def wK_isObjectOfKind (p0 : Int32) (p1 : Int32)  (Q : Int32 → Prop) : Prop := ((¬ p0 = 1) → ((¬ p0 = 2) → Q 0) ∧ ((p0 = 2) → ((¬ p1 = 0) → Q 0) ∧ ((p1 = 0) → Q 1))) ∧ ((p0 = 1) → wK_isBetween p1 0 3 (fun a4 => (mj_bz a4 ∧ Q a4)))
set_option maxRecDepth 100000 in
set_option maxHeartbeats 4000000 in
theorem qK_isObjectOfKind {E : mj_E} (hok : mj_Ok (mk_v E)) {p0 : Int32} {p1 : Int32} {x : mj_X} {Q : Int32 → Prop} (h : wK_isObjectOfKind p0 p1  Q) : mj_Ct (mk_v E) yK_isObjectOfKind (Cond.code yK_isObjectOfKind cK_isObjectOfKind 2 (some .boolean) :: mj_all) { frames := 1, cells := 0, slots := 0, locals := 22 } [.int p0, .int p1] x (mj_iR x Q) := by
  refine mj_enterA (L := [(0, .int p0), (1, .int p1)]) hok (by decide +kernel) ⟨rfl, rfl⟩ (fun _ => Nat.le_of_ble_eq_true rfl) rfl (fun r C Z => ?_)
  unfold wK_isObjectOfKind at h
  refine mj_iload_n C dK_isObjectOfKind_0 rfl ?_
  refine mj_iconst (a := 1) C dK_isObjectOfKind_1 (by decide) ?_
  refine mj_icmp_ne (tgt := 12) C dK_isObjectOfKind_2 (by decide) (fun c1 => ?_) (fun c1 => ?_)
  · have h := h.1 c1
    refine mj_iload_n C dK_isObjectOfKind_12 rfl ?_
    refine mj_iconst (a := 2) C dK_isObjectOfKind_13 (by decide) ?_
    refine mj_icmp_ne (tgt := 25) C dK_isObjectOfKind_14 (by decide) (fun c2 => ?_) (fun c2 => ?_)
    · have h := h.1 c2
      refine mj_iconst (a := 0) C dK_isObjectOfKind_25 (by decide) ?_
      exact mj_zret C Z (Or.inl rfl) dK_isObjectOfKind_26 ⟨_, rfl, rfl, h⟩
    · have h := h.2 c2
      refine mj_iload_n C dK_isObjectOfKind_17 rfl ?_
      refine mj_if_ne (tgt := 25) C dK_isObjectOfKind_18 (by decide) (fun c3 => ?_) (fun c3 => ?_)
      · have h := h.1 c3
        refine mj_iconst (a := 0) C dK_isObjectOfKind_25 (by decide) ?_
        exact mj_zret C Z (Or.inl rfl) dK_isObjectOfKind_26 ⟨_, rfl, rfl, h⟩
      · have h := h.2 c3
        refine mj_iconst (a := 1) C dK_isObjectOfKind_21 (by decide) ?_
        refine mj_goto (tgt := 26) C dK_isObjectOfKind_22 (by decide) ?_
        exact mj_zret C Z (Or.inr rfl) dK_isObjectOfKind_26 ⟨_, rfl, rfl, h⟩
  · have h := h.2 c1
    refine mj_iload_n C dK_isObjectOfKind_5 rfl ?_
    refine mj_iconst (a := 0) C dK_isObjectOfKind_6 (by decide) ?_
    refine mj_iconst (a := 3) C dK_isObjectOfKind_7 (by decide) ?_
    refine mj_callS_iR C (qK_isBetween hok h) (g_K_isBetween l_K_58) z_K_isBetween ⟨Nat.le_of_ble_eq_true rfl, Nat.le_of_ble_eq_true rfl, rfl, rfl⟩ rfl rfl (Nat.le_of_ble_eq_true rfl) dK_isObjectOfKind_8 (fun a4 h => ?_)
    exact mj_zret C Z h.1 dK_isObjectOfKind_11 ⟨_, rfl, rfl, h.2⟩
/-! GrantKernel$Grants.fill -/
def wG_fill (p0 : Int32) (p1 : Int32) (p2 : Int32) (p3 : Int32) (p4 : Int32) (k : mj_St) (Q : mj_St → Prop) : Prop := vp_in p0 48 ∧ (∀ k1 : mj_St, k1 = mj_up k 27 p0.toNatClampNeg p1 → (vp_in p0 48 ∧ (∀ k2 : mj_St, k2 = mj_up k1 28 p0.toNatClampNeg p2 → (vp_in p0 48 ∧ (∀ k3 : mj_St, k3 = mj_up k2 29 p0.toNatClampNeg p3 → (vp_in p0 48 ∧ (∀ k4 : mj_St, k4 = mj_up k3 30 p0.toNatClampNeg p4 → (Q k4))))))))
set_option maxRecDepth 100000 in
set_option maxHeartbeats 4000000 in
theorem qG_fill {E : mj_E} (hok : mj_Ok (mk_v E)) {p0 : Int32} {p1 : Int32} {p2 : Int32} {p3 : Int32} {p4 : Int32} {k mm : mj_St} {Q : mj_St → Prop} (h : wG_fill p0 p1 p2 p3 p4 k Q) : mj_Ct (mk_v E) yG_fill (Cond.code yG_fill cG_fill 6 none :: mj_all) { frames := 0, cells := 0, slots := 0, locals := 0 } [.ref 26, .int p0, .int p1, .int p2, .int p3, .int p4] (k, mm) (mj_vK mm Q) := by
  refine mj_enterA (L := [(0, .ref 26), (1, .int p0), (2, .int p1), (3, .int p2), (4, .int p3), (5, .int p4)]) hok (by decide +kernel) ⟨rfl, rfl⟩ (fun _ => Nat.le_of_ble_eq_true rfl) rfl (fun r C Z => ?_)
  unfold wG_fill at h
  refine mj_aload_n C dG_fill_0 rfl ?_
  refine mj_getR C inG_all rfl e_Grants 0 (by decide) l_G_9 rfl dG_fill_1 ?_
  refine mj_iload_n C dG_fill_4 rfl ?_
  refine mj_iload_n C dG_fill_5 rfl ?_
  refine mj_iast (t0 := 0) C e_kinds rfl h.1 s_kinds dG_fill_6 ?_
  have h := h.2 _ rfl
  refine mj_aload_n C dG_fill_7 rfl ?_
  refine mj_getR C inG_all rfl e_Grants 1 (by decide) l_G_15 rfl dG_fill_8 ?_
  refine mj_iload_n C dG_fill_11 rfl ?_
  refine mj_iload_n C dG_fill_12 rfl ?_
  refine mj_iast (t0 := 0) C e_objects rfl h.1 s_objects dG_fill_13 ?_
  have h := h.2 _ rfl
  refine mj_aload_n C dG_fill_14 rfl ?_
  refine mj_getR C inG_all rfl e_Grants 2 (by decide) l_G_18 rfl dG_fill_15 ?_
  refine mj_iload_n C dG_fill_18 rfl ?_
  refine mj_iload C dG_fill_19 rfl ?_
  refine mj_iast (t0 := 0) C e_rights rfl h.1 s_rights dG_fill_21 ?_
  have h := h.2 _ rfl
  refine mj_aload_n C dG_fill_22 rfl ?_
  refine mj_getR C inG_all rfl e_Grants 3 (by decide) l_G_21 rfl dG_fill_23 ?_
  refine mj_iload_n C dG_fill_26 rfl ?_
  refine mj_iload C dG_fill_27 rfl ?_
  refine mj_iast (t0 := 0) C e_parents rfl h.1 s_parents dG_fill_29 ?_
  have h := h.2 _ rfl
  exact mj_vret C Z dG_fill_30 ⟨_, rfl, rfl, h⟩
/-! GrantKernel.give -/
def wK_give (p0 : Int32) (p1 : Int32) (p2 : Int32) (p3 : Int32) (p4 : Int32) (k : mj_St) (Q : Int32 → mj_St → Prop) : Prop := wK_placeOf p0 p1 (fun a1 => (((a1 = (-1)) → Q 0 k) ∧ ((¬ a1 = (-1)) → wK_usedTask p0 k (fun u3 => (((u3 = none) → Q 0 k) ∧ (∀ o4 : Nat, u3 = some o4 → mk_T o4 ∧ (wG_holds a1 k (fun a6 => (((a6 = 0) → wK_isObjectOfKind p2 p3 (fun a8 => (((a8 = 0) → Q 0 k) ∧ ((¬ a8 = 0) → wK_isBetween p4 0 7 (fun a10 => (((¬ a10 = 0) → wG_fill a1 p2 p3 p4 (-1) k (fun k12 => (Q 1 k12))) ∧ ((a10 = 0) → Q 0 k))))))) ∧ ((¬ a6 = 0) → Q 0 k))))))))))
set_option maxRecDepth 100000 in
set_option maxHeartbeats 4000000 in
theorem qK_give {E : mj_E} (hok : mj_Ok (mk_v E)) {p0 : Int32} {p1 : Int32} {p2 : Int32} {p3 : Int32} {p4 : Int32} {k mm : mj_St} {Q : Int32 → mj_St → Prop} (h : wK_give p0 p1 p2 p3 p4 k Q) : mj_Ct (mk_v E) yK_give (Cond.code yK_give cK_give 7 (some .boolean) :: mj_all) { frames := 2, cells := 0, slots := 0, locals := 44 } [.ref 0, .int p0, .int p1, .int p2, .int p3, .int p4] (k, mm) (mj_iK mm Q) := by
  refine mj_enterA (L := [(0, .ref 0), (1, .int p0), (2, .int p1), (3, .int p2), (4, .int p3), (5, .int p4)]) hok (by decide +kernel) ⟨rfl, rfl⟩ (fun _ => Nat.le_of_ble_eq_true rfl) rfl (fun r C Z => ?_)
  unfold wK_give at h
  refine mj_iload_n C dK_give_0 rfl ?_
  refine mj_iload_n C dK_give_1 rfl ?_
  refine mj_callS_iR C (qK_placeOf hok h) (g_K_placeOf l_K_81) z_K_placeOf ⟨Nat.le_of_ble_eq_true rfl, Nat.le_of_ble_eq_true rfl, rfl, rfl⟩ rfl rfl (Nat.le_of_ble_eq_true rfl) dK_give_2 (fun a1 h => ?_)
  refine mj_istore C dK_give_5 (by decide) rfl ?_
  refine mj_iload C dK_give_7 rfl ?_
  refine mj_iconst (a := (-1)) C dK_give_9 (by decide) ?_
  refine mj_icmp_eq (tgt := 33) C dK_give_10 (by decide) (fun c2 => ?_) (fun c2 => ?_)
  · have h := h.1 c2
    refine mj_iconst (a := 0) C dK_give_33 (by decide) ?_
    exact mj_zret C Z (Or.inl rfl) dK_give_34 ⟨_, _, rfl, rfl, h⟩
  · have h := h.2 c2
    refine mj_aload_n C dK_give_13 rfl ?_
    refine mj_iload_n C dK_give_14 rfl ?_
    refine mj_callV_aR C (qK_usedTask hok h) (g_K_usedTask l_K_74) rfl e_GK z_K_usedTask ⟨Nat.le_of_ble_eq_true rfl, Nat.le_of_ble_eq_true rfl, rfl, rfl⟩ rfl rfl (Nat.le_of_ble_eq_true rfl) dK_give_15 (fun h => ?_) (fun o4 h => ?_)
    · have h := h.1 rfl
      refine mj_ifnullN (tgt := 33) C dK_give_18 (by decide) ?_
      refine mj_iconst (a := 0) C dK_give_33 (by decide) ?_
      exact mj_zret C Z (Or.inl rfl) dK_give_34 ⟨_, _, rfl, rfl, h⟩
    · have t5 := (h.2 _ rfl).1
      have h := (h.2 _ rfl).2
      refine mj_ifnull C dK_give_18 ?_
      refine mj_aload_n C dK_give_21 rfl ?_
      refine mj_getR C inK_all rfl e_GK 5 (by decide) l_K_33 rfl dK_give_22 ?_
      refine mj_iload C dK_give_25 rfl ?_
      refine mj_callV_iR C (qG_holds hok h) (g_G_holds l_K_84) rfl e_Grants z_G_holds ⟨Nat.le_of_ble_eq_true rfl, Nat.le_of_ble_eq_true rfl, rfl, rfl⟩ rfl rfl (Nat.le_of_ble_eq_true rfl) dK_give_27 (fun a6 h => ?_)
      refine mj_if_eq (tgt := 35) C dK_give_30 (by decide) (fun c7 => ?_) (fun c7 => ?_)
      · have h := h.1 c7
        refine mj_iload_n C dK_give_35 rfl ?_
        refine mj_iload C dK_give_36 rfl ?_
        refine mj_callS_iR C (qK_isObjectOfKind hok h) (g_K_isObjectOfKind l_K_88) z_K_isObjectOfKind ⟨Nat.le_of_ble_eq_true rfl, Nat.le_of_ble_eq_true rfl, rfl, rfl⟩ rfl rfl (Nat.le_of_ble_eq_true rfl) dK_give_38 (fun a8 h => ?_)
        refine mj_if_eq (tgt := 55) C dK_give_41 (by decide) (fun c9 => ?_) (fun c9 => ?_)
        · have h := h.1 c9
          refine mj_iconst (a := 0) C dK_give_55 (by decide) ?_
          exact mj_zret C Z (Or.inl rfl) dK_give_56 ⟨_, _, rfl, rfl, h⟩
        · have h := h.2 c9
          refine mj_iload C dK_give_44 rfl ?_
          refine mj_iconst (a := 0) C dK_give_46 (by decide) ?_
          refine mj_bipush (a := 7) C dK_give_47 (by decide) ?_
          refine mj_callS_iR C (qK_isBetween hok h) (g_K_isBetween l_K_58) z_K_isBetween ⟨Nat.le_of_ble_eq_true rfl, Nat.le_of_ble_eq_true rfl, rfl, rfl⟩ rfl rfl (Nat.le_of_ble_eq_true rfl) dK_give_49 (fun a10 h => ?_)
          refine mj_if_ne (tgt := 57) C dK_give_52 (by decide) (fun c11 => ?_) (fun c11 => ?_)
          · have h := h.1 c11
            refine mj_aload_n C dK_give_57 rfl ?_
            refine mj_getR C inK_all rfl e_GK 5 (by decide) l_K_33 rfl dK_give_58 ?_
            refine mj_iload C dK_give_61 rfl ?_
            refine mj_iload_n C dK_give_63 rfl ?_
            refine mj_iload C dK_give_64 rfl ?_
            refine mj_iload C dK_give_66 rfl ?_
            refine mj_iconst (a := (-1)) C dK_give_68 (by decide) ?_
            refine mj_callV_vWK C (qG_fill hok h) (g_G_fill l_K_92) rfl e_Grants z_G_fill ⟨Nat.le_of_ble_eq_true rfl, Nat.le_of_ble_eq_true rfl, rfl, rfl⟩ rfl rfl (Nat.le_of_ble_eq_true rfl) dK_give_69 (fun k12 h => ?_)
            refine mj_iconst (a := 1) C dK_give_72 (by decide) ?_
            exact mj_zret C Z (Or.inr rfl) dK_give_73 ⟨_, _, rfl, rfl, h⟩
          · have h := h.2 c11
            refine mj_iconst (a := 0) C dK_give_55 (by decide) ?_
            exact mj_zret C Z (Or.inl rfl) dK_give_56 ⟨_, _, rfl, rfl, h⟩
      · have h := h.2 c7
        refine mj_iconst (a := 0) C dK_give_33 (by decide) ?_
        exact mj_zret C Z (Or.inl rfl) dK_give_34 ⟨_, _, rfl, rfl, h⟩
/-! GrantKernel$Task.end -/
def wT_end (o : Nat) (k : mj_St) (Q : mj_St → Prop) : Prop := mk_T o ∧ (∀ k2 : mj_St, k2 = mj_up k o 1 0 → (∀ k3 : mj_St, k3 = mj_up k2 o 2 0 → (Q k3)))
set_option maxRecDepth 100000 in
set_option maxHeartbeats 4000000 in
theorem qT_end {E : mj_E} (hok : mj_Ok (mk_v E)) {o : Nat} {k mm : mj_St} {Q : mj_St → Prop} (h : wT_end o k Q) : mj_Ct (mk_v E) yT_end (Cond.code yT_end cT_end 1 none :: mj_all) { frames := 0, cells := 0, slots := 0, locals := 0 } [.ref o] (k, mm) (mj_vK mm Q) := by
  refine mj_enterA (L := [(0, .ref o)]) hok (by decide +kernel) ⟨rfl, rfl⟩ (fun _ => Nat.le_of_ble_eq_true rfl) rfl (fun r C Z => ?_)
  unfold wT_end at h
  have t1 := h.1
  have h := h.2
  refine mj_aload_n C dT_end_0 rfl ?_
  refine mj_iconst (a := 0) C dT_end_1 (by decide) ?_
  refine mj_put C inT_all rfl tyT okT nmT (e_Task t1) 1 (by decide) l_T_15 rfl (by decide +kernel) (Nat.le_of_ble_eq_true rfl) (s_Task_1 t1) dT_end_2 ?_
  have h := h _ rfl
  refine mj_aload_n C dT_end_5 rfl ?_
  refine mj_iconst (a := 0) C dT_end_6 (by decide) ?_
  refine mj_put C inT_all rfl tyT okT nmT (e_Task t1) 2 (by decide) l_T_19 rfl (by decide +kernel) (Nat.le_of_ble_eq_true rfl) (s_Task_2 t1) dT_end_7 ?_
  have h := h _ rfl
  exact mj_vret C Z dT_end_10 ⟨_, rfl, rfl, h⟩
/-! GrantKernel$Grants.empty -/
def wG_empty (p0 : Int32) (k : mj_St) (Q : mj_St → Prop) : Prop := wG_fill p0 0 0 0 (-1) k (fun k1 => (Q k1))
set_option maxRecDepth 100000 in
set_option maxHeartbeats 4000000 in
theorem qG_empty {E : mj_E} (hok : mj_Ok (mk_v E)) {p0 : Int32} {k mm : mj_St} {Q : mj_St → Prop} (h : wG_empty p0 k Q) : mj_Ct (mk_v E) yG_empty (Cond.code yG_empty cG_empty 2 none :: mj_all) { frames := 1, cells := 0, slots := 0, locals := 25 } [.ref 26, .int p0] (k, mm) (mj_vK mm Q) := by
  refine mj_enterA (L := [(0, .ref 26), (1, .int p0)]) hok (by decide +kernel) ⟨rfl, rfl⟩ (fun _ => Nat.le_of_ble_eq_true rfl) rfl (fun r C Z => ?_)
  unfold wG_empty at h
  refine mj_aload_n C dG_empty_0 rfl ?_
  refine mj_iload_n C dG_empty_1 rfl ?_
  refine mj_iconst (a := 0) C dG_empty_2 (by decide) ?_
  refine mj_iconst (a := 0) C dG_empty_3 (by decide) ?_
  refine mj_iconst (a := 0) C dG_empty_4 (by decide) ?_
  refine mj_iconst (a := (-1)) C dG_empty_5 (by decide) ?_
  refine mj_callV_vWK C (qG_fill hok h) (g_G_fill l_G_28) rfl e_Grants z_G_fill ⟨Nat.le_of_ble_eq_true rfl, Nat.le_of_ble_eq_true rfl, rfl, rfl⟩ rfl rfl (Nat.le_of_ble_eq_true rfl) dG_empty_6 (fun k1 h => ?_)
  exact mj_vret C Z dG_empty_9 ⟨_, rfl, rfl, h⟩
/-! GrantKernel$Grants.removeAt -/
def wG_removeAt_47 (x1 : Int32) (x2 : Int32)  (k : mj_St) (Q : mj_St → Prop) (K11 : Int32 → Int32 → mj_St → Prop) : Prop := ∀ a7 : Int32, a7 = x2 + 1 → (K11 x1 a7 k)
set_option maxRecDepth 100000 in
set_option maxHeartbeats 4000000 in
theorem uG_removeAt_47 {E : mj_E} {r : mj_R} {mm : mj_St} {Q : mj_St → Prop} (hok : mj_Ok (mk_v E)) (C : mj_Cx (mk_v E) r cG_removeAt 3 RG mj_all { frames := 2, cells := 0, slots := 0, locals := 46 }) (Z : mj_Cr (mk_v E) r none (mj_vK mm Q)) {x1 : Int32} {x2 : Int32} {k : mj_St} {K11 : Int32 → Int32 → mj_St → Prop} (hK11 : ∀ (x1 : Int32) (x2 : Int32) (k : mj_St), K11 x1 x2 k → mj_G (mk_v E) r 11 [(0, .ref 26), (1, .int x1), (2, .int x2)] [] (k, mm)) (h : wG_removeAt_47 x1 x2 k Q K11) : mj_G (mk_v E) r 47 [(0, .ref 26), (1, .int x1), (2, .int x2)] [] (k, mm) := by
  unfold wG_removeAt_47 at h
  refine mj_iinc (b := 1) C dG_removeAt_47 rfl (by decide) (by decide) rfl ?_
  have h := h _ rfl
  refine mj_goto (tgt := 11) C dG_removeAt_50 (by decide) ?_
  exact mj_sub2 (hK11 _ _ _ h) ⟨rfl, rfl, rfl, trivial⟩
def wG_removeAt_11 (n : Nat) (x1 : Int32) (x2 : Int32)  (k : mj_St) (Q : mj_St → Prop)  : Prop := match n with
  | 0 => False
  | n + 1 => ((48 ≤ x2) → wG_empty x1 k (fun k4 => (Q k4))) ∧ ((¬ 48 ≤ x2) → wG_holds x2 k (fun a5 => (((a5 = 0) → wG_removeAt_47 x1 x2 k Q (fun x1_ x2_ k_ => wG_removeAt_11 n x1_ x2_ k_ Q)) ∧ ((¬ a5 = 0) → vp_in x2 48 ∧ (((¬ (k 30 x2.toNatClampNeg) = x1) → wG_removeAt_47 x1 x2 k Q (fun x1_ x2_ k_ => wG_removeAt_11 n x1_ x2_ k_ Q)) ∧ (((k 30 x2.toNatClampNeg) = x1) → vp_in x1 48 ∧ (vp_in x2 48 ∧ (∀ k9 : mj_St, k9 = mj_up k 30 x2.toNatClampNeg (k 30 x1.toNatClampNeg) → (wG_removeAt_47 x1 x2 k9 Q (fun x1_ x2_ k_ => wG_removeAt_11 n x1_ x2_ k_ Q))))))))))
set_option maxRecDepth 100000 in
set_option maxHeartbeats 4000000 in
theorem uG_removeAt_11 {E : mj_E} {r : mj_R} {mm : mj_St} {Q : mj_St → Prop} (hok : mj_Ok (mk_v E)) (C : mj_Cx (mk_v E) r cG_removeAt 3 RG mj_all { frames := 2, cells := 0, slots := 0, locals := 46 }) (Z : mj_Cr (mk_v E) r none (mj_vK mm Q))   : ∀ (n : Nat) (x1 : Int32) (x2 : Int32) (k : mj_St), wG_removeAt_11 n x1 x2 k Q → mj_G (mk_v E) r 11 [(0, .ref 26), (1, .int x1), (2, .int x2)] [] (k, mm) := by
  intro n
  induction n with
  | zero => intro x1 x2 k h; exact False.elim h
  | succ n ih =>
    intro x1 x2 k h
    rw [wG_removeAt_11] at h
    refine mj_iload_n C dG_removeAt_11 rfl ?_
    refine mj_bipush (a := 48) C dG_removeAt_12 (by decide) ?_
    refine mj_icmp_ge (tgt := 53) C dG_removeAt_14 (by decide) (fun c3 => ?_) (fun c3 => ?_)
    · have h := h.1 c3
      refine mj_aload_n C dG_removeAt_53 rfl ?_
      refine mj_iload_n C dG_removeAt_54 rfl ?_
      refine mj_callV_vWK C (qG_empty hok h) (g_G_empty l_G_36) rfl e_Grants z_G_empty ⟨Nat.le_of_ble_eq_true rfl, Nat.le_of_ble_eq_true rfl, rfl, rfl⟩ rfl rfl (Nat.le_of_ble_eq_true rfl) dG_removeAt_55 (fun k4 h => ?_)
      exact mj_vret C Z dG_removeAt_58 ⟨_, rfl, rfl, h⟩
    · have h := h.2 c3
      refine mj_aload_n C dG_removeAt_17 rfl ?_
      refine mj_iload_n C dG_removeAt_18 rfl ?_
      refine mj_callV_iR C (qG_holds hok h) (g_G_holds l_G_32) rfl e_Grants z_G_holds ⟨Nat.le_of_ble_eq_true rfl, Nat.le_of_ble_eq_true rfl, rfl, rfl⟩ rfl rfl (Nat.le_of_ble_eq_true rfl) dG_removeAt_19 (fun a5 h => ?_)
      refine mj_if_eq (tgt := 47) C dG_removeAt_22 (by decide) (fun c6 => ?_) (fun c6 => ?_)
      · have h := h.1 c6
        exact mj_sub2 (uG_removeAt_47 hok C Z (fun _ _ _ h => ih _ _ _ h) h) ⟨rfl, rfl, rfl, trivial⟩
      · have h := h.2 c6
        refine mj_aload_n C dG_removeAt_25 rfl ?_
        refine mj_getR C inG_all rfl e_Grants 3 (by decide) l_G_21 rfl dG_removeAt_26 ?_
        refine mj_iload_n C dG_removeAt_29 rfl ?_
        refine mj_iald (t0 := 0) C e_parents rfl h.1 dG_removeAt_30 ?_
        have h := h.2
        refine mj_iload_n C dG_removeAt_31 rfl ?_
        refine mj_icmp_ne (tgt := 47) C dG_removeAt_32 (by decide) (fun c8 => ?_) (fun c8 => ?_)
        · have h := h.1 c8
          exact mj_sub2 (uG_removeAt_47 hok C Z (fun _ _ _ h => ih _ _ _ h) h) ⟨rfl, rfl, rfl, trivial⟩
        · have h := h.2 c8
          refine mj_aload_n C dG_removeAt_35 rfl ?_
          refine mj_getR C inG_all rfl e_Grants 3 (by decide) l_G_21 rfl dG_removeAt_36 ?_
          refine mj_iload_n C dG_removeAt_39 rfl ?_
          refine mj_aload_n C dG_removeAt_40 rfl ?_
          refine mj_getR C inG_all rfl e_Grants 3 (by decide) l_G_21 rfl dG_removeAt_41 ?_
          refine mj_iload_n C dG_removeAt_44 rfl ?_
          refine mj_iald (t0 := 0) C e_parents rfl h.1 dG_removeAt_45 ?_
          have h := h.2
          refine mj_iast (t0 := 0) C e_parents rfl h.1 s_parents dG_removeAt_46 ?_
          have h := h.2 _ rfl
          exact mj_sub2 (uG_removeAt_47 hok C Z (fun _ _ _ h => ih _ _ _ h) h) ⟨rfl, rfl, rfl, trivial⟩
def wG_removeAt (p0 : Int32) (k : mj_St) (Q : mj_St → Prop) : Prop := wG_holds p0 k (fun a1 => (((¬ a1 = 0) → (∃ e11, wG_removeAt_11 e11 p0 0 k Q)) ∧ ((a1 = 0) → Q k)))
set_option maxRecDepth 100000 in
set_option maxHeartbeats 4000000 in
theorem qG_removeAt {E : mj_E} (hok : mj_Ok (mk_v E)) {p0 : Int32} {k mm : mj_St} {Q : mj_St → Prop} (h : wG_removeAt p0 k Q) : mj_Ct (mk_v E) yG_removeAt (Cond.code yG_removeAt cG_removeAt 3 none :: mj_all) { frames := 2, cells := 0, slots := 0, locals := 46 } [.ref 26, .int p0] (k, mm) (mj_vK mm Q) := by
  refine mj_enterA (L := [(0, .ref 26), (1, .int p0)]) hok (by decide +kernel) ⟨rfl, rfl⟩ (fun _ => Nat.le_of_ble_eq_true rfl) rfl (fun r C Z => ?_)
  unfold wG_removeAt at h
  refine mj_aload_n C dG_removeAt_0 rfl ?_
  refine mj_iload_n C dG_removeAt_1 rfl ?_
  refine mj_callV_iR C (qG_holds hok h) (g_G_holds l_G_32) rfl e_Grants z_G_holds ⟨Nat.le_of_ble_eq_true rfl, Nat.le_of_ble_eq_true rfl, rfl, rfl⟩ rfl rfl (Nat.le_of_ble_eq_true rfl) dG_removeAt_2 (fun a1 h => ?_)
  refine mj_if_ne (tgt := 9) C dG_removeAt_5 (by decide) (fun c2 => ?_) (fun c2 => ?_)
  · have h := h.1 c2
    refine mj_iconst (a := 0) C dG_removeAt_9 (by decide) ?_
    refine mj_istore_n C dG_removeAt_10 (by decide) rfl ?_
    obtain ⟨n0, h⟩ := h
    exact mj_sub2 (uG_removeAt_11 hok C Z  n0 _ _ _ h) ⟨rfl, rfl, rfl, trivial⟩
  · have h := h.2 c2
    exact mj_vret C Z dG_removeAt_8 ⟨_, rfl, rfl, h⟩
/-! GrantKernel.reap -/
def wK_reap_35 (n : Nat) (x1 : Int32) (x3 : Int32)  (k : mj_St) (Q : Int32 → mj_St → Prop)  : Prop := match n with
  | 0 => False
  | n + 1 => ((8 ≤ x3) → Q 1 k) ∧ ((¬ 8 ≤ x3) → wK_slotPlace x1 x3 (fun a8 => (wG_removeAt a8 k (fun k9 => (∀ a10 : Int32, a10 = x3 + 1 → (wK_reap_35 n x1 a10 k9 Q))))))
set_option maxRecDepth 100000 in
set_option maxHeartbeats 4000000 in
theorem uK_reap_35 {E : mj_E} {r : mj_R} {mm : mj_St} {Q : Int32 → mj_St → Prop} (hok : mj_Ok (mk_v E)) (C : mj_Cx (mk_v E) r cK_reap 4 RK mj_all { frames := 3, cells := 0, slots := 0, locals := 68 }) (Z : mj_Cr (mk_v E) r (some .boolean) (mj_iK mm Q))   : ∀ (n : Nat) (x1 : Int32) (x3 : Int32) (k : mj_St), wK_reap_35 n x1 x3 k Q → mj_G (mk_v E) r 35 [(0, .ref 0), (1, .int x1), (3, .int x3)] [] (k, mm) := by
  intro n
  induction n with
  | zero => intro x1 x3 k h; exact False.elim h
  | succ n ih =>
    intro x1 x3 k h
    rw [wK_reap_35] at h
    refine mj_iload_n C dK_reap_35 rfl ?_
    refine mj_bipush (a := 8) C dK_reap_36 (by decide) ?_
    refine mj_icmp_ge (tgt := 59) C dK_reap_38 (by decide) (fun c7 => ?_) (fun c7 => ?_)
    · have h := h.1 c7
      refine mj_iconst (a := 1) C dK_reap_59 (by decide) ?_
      exact mj_zret C Z (Or.inr rfl) dK_reap_60 ⟨_, _, rfl, rfl, h⟩
    · have h := h.2 c7
      refine mj_aload_n C dK_reap_41 rfl ?_
      refine mj_getR C inK_all rfl e_GK 5 (by decide) l_K_33 rfl dK_reap_42 ?_
      refine mj_iload_n C dK_reap_45 rfl ?_
      refine mj_iload_n C dK_reap_46 rfl ?_
      refine mj_callS_iR C (qK_slotPlace hok h) (g_K_slotPlace l_K_102) z_K_slotPlace ⟨Nat.le_of_ble_eq_true rfl, Nat.le_of_ble_eq_true rfl, rfl, rfl⟩ rfl rfl (Nat.le_of_ble_eq_true rfl) dK_reap_47 (fun a8 h => ?_)
      refine mj_callV_vWK C (qG_removeAt hok h) (g_G_removeAt l_K_105) rfl e_Grants z_G_removeAt ⟨Nat.le_of_ble_eq_true rfl, Nat.le_of_ble_eq_true rfl, rfl, rfl⟩ rfl rfl (Nat.le_of_ble_eq_true rfl) dK_reap_50 (fun k9 h => ?_)
      refine mj_iinc (b := 1) C dK_reap_53 rfl (by decide) (by decide) rfl ?_
      have h := h _ rfl
      refine mj_goto (tgt := 35) C dK_reap_56 (by decide) ?_
      exact mj_sub2 (ih _ _ _ h) ⟨rfl, rfl, rfl, trivial⟩
def wK_reap_29 (x1 : Int32) (x2 : Nat)  (k : mj_St) (Q : Int32 → mj_St → Prop)  : Prop := mk_T x2 ∧ (wT_end x2 k (fun k6 => ((∃ e35, wK_reap_35 e35 x1 0 k6 Q))))
set_option maxRecDepth 100000 in
set_option maxHeartbeats 4000000 in
theorem uK_reap_29 {E : mj_E} {r : mj_R} {mm : mj_St} {Q : Int32 → mj_St → Prop} (hok : mj_Ok (mk_v E)) (C : mj_Cx (mk_v E) r cK_reap 4 RK mj_all { frames := 3, cells := 0, slots := 0, locals := 68 }) (Z : mj_Cr (mk_v E) r (some .boolean) (mj_iK mm Q)) {x1 : Int32} {x2 : Nat} {k : mj_St}   (h : wK_reap_29 x1 x2 k Q) : mj_G (mk_v E) r 29 [(0, .ref 0), (1, .int x1), (2, .ref x2)] [] (k, mm) := by
  unfold wK_reap_29 at h
  have t5 := h.1
  have h := h.2
  refine mj_aload_n C dK_reap_29 rfl ?_
  refine mj_callV_vWK C (qT_end hok h) (g_T_end l_K_99) rfl (e_Task t5) z_T_end ⟨Nat.le_of_ble_eq_true rfl, Nat.le_of_ble_eq_true rfl, rfl, rfl⟩ rfl rfl (Nat.le_of_ble_eq_true rfl) dK_reap_30 (fun k6 h => ?_)
  refine mj_iconst (a := 0) C dK_reap_33 (by decide) ?_
  refine mj_istore_n C dK_reap_34 (by decide) rfl ?_
  obtain ⟨n0, h⟩ := h
  exact mj_sub2 (uK_reap_35 hok C Z  n0 _ _ _ h) ⟨rfl, rfl, rfl, trivial⟩
def wK_reap (p0 : Int32) (k : mj_St) (Q : Int32 → mj_St → Prop) : Prop := wK_usedTask p0 k (fun u1 => (((u1 = none) → Q 0 k) ∧ (∀ o2 : Nat, u1 = some o2 → mk_T o2 ∧ ((((k o2 1) = 6) → wK_reap_29 p0 o2 k Q) ∧ ((¬ (k o2 1) = 6) → (((k o2 1) = 5) → wK_reap_29 p0 o2 k Q) ∧ ((¬ (k o2 1) = 5) → Q 0 k))))))
set_option maxRecDepth 100000 in
set_option maxHeartbeats 4000000 in
theorem qK_reap {E : mj_E} (hok : mj_Ok (mk_v E)) {p0 : Int32} {k mm : mj_St} {Q : Int32 → mj_St → Prop} (h : wK_reap p0 k Q) : mj_Ct (mk_v E) yK_reap (Cond.code yK_reap cK_reap 4 (some .boolean) :: mj_all) { frames := 3, cells := 0, slots := 0, locals := 68 } [.ref 0, .int p0] (k, mm) (mj_iK mm Q) := by
  refine mj_enterA (L := [(0, .ref 0), (1, .int p0)]) hok (by decide +kernel) ⟨rfl, rfl⟩ (fun _ => Nat.le_of_ble_eq_true rfl) rfl (fun r C Z => ?_)
  unfold wK_reap at h
  refine mj_aload_n C dK_reap_0 rfl ?_
  refine mj_iload_n C dK_reap_1 rfl ?_
  refine mj_callV_aR C (qK_usedTask hok h) (g_K_usedTask l_K_74) rfl e_GK z_K_usedTask ⟨Nat.le_of_ble_eq_true rfl, Nat.le_of_ble_eq_true rfl, rfl, rfl⟩ rfl rfl (Nat.le_of_ble_eq_true rfl) dK_reap_2 (fun h => ?_) (fun o2 h => ?_)
  · have h := h.1 rfl
    refine mj_astore_nN C dK_reap_5 (by decide) rfl ?_
    refine mj_aload_nN C dK_reap_6 rfl ?_
    refine mj_ifnullN (tgt := 27) C dK_reap_7 (by decide) ?_
    refine mj_iconst (a := 0) C dK_reap_27 (by decide) ?_
    exact mj_zret C Z (Or.inl rfl) dK_reap_28 ⟨_, _, rfl, rfl, h⟩
  · have t3 := (h.2 _ rfl).1
    have h := (h.2 _ rfl).2
    refine mj_astore_n C dK_reap_5 (by decide) rfl ?_
    refine mj_aload_n C dK_reap_6 rfl ?_
    refine mj_ifnull C dK_reap_7 ?_
    refine mj_aload_n C dK_reap_10 rfl ?_
    refine mj_getI C inT_all rfl (e_Task t3) 1 (by decide) l_K_96 rfl dK_reap_11 ?_
    refine mj_bipush (a := 6) C dK_reap_14 (by decide) ?_
    refine mj_icmp_eq (tgt := 29) C dK_reap_16 (by decide) (fun c4 => ?_) (fun c4 => ?_)
    · have h := h.1 c4
      exact mj_sub2 (uK_reap_29 hok C Z  h) ⟨rfl, rfl, rfl, trivial⟩
    · have h := h.2 c4
      refine mj_aload_n C dK_reap_19 rfl ?_
      refine mj_getI C inT_all rfl (e_Task t3) 1 (by decide) l_K_96 rfl dK_reap_20 ?_
      refine mj_iconst (a := 5) C dK_reap_23 (by decide) ?_
      refine mj_icmp_eq (tgt := 29) C dK_reap_24 (by decide) (fun c11 => ?_) (fun c11 => ?_)
      · have h := h.1 c11
        exact mj_sub2 (uK_reap_29 hok C Z  h) ⟨rfl, rfl, rfl, trivial⟩
      · have h := h.2 c11
        refine mj_iconst (a := 0) C dK_reap_27 (by decide) ?_
        exact mj_zret C Z (Or.inl rfl) dK_reap_28 ⟨_, _, rfl, rfl, h⟩
/-! GrantKernel$Line.at -/
def wN_at (o : Nat) (p0 : Int32) (k : mj_St) (Q : Int32 → Prop) : Prop := mk_N o ∧ (wK_isBetween p0 0 ((k o 1) - 1) (fun a2 => (((a2 = 0) → Q (-1)) ∧ ((¬ a2 = 0) → vp_in p0 6 ∧ (Q (k (o + 5) p0.toNatClampNeg))))))
set_option maxRecDepth 100000 in
set_option maxHeartbeats 4000000 in
theorem qN_at {E : mj_E} (hok : mj_Ok (mk_v E)) {o : Nat} {p0 : Int32} {k mm : mj_St} {Q : Int32 → Prop} (h : wN_at o p0 k Q) : mj_Ct (mk_v E) yN_at (Cond.code yN_at cN_at 2 (some .int) :: mj_all) { frames := 1, cells := 0, slots := 0, locals := 22 } [.ref o, .int p0] (k, mm) (mj_iR (k, mm) Q) := by
  refine mj_enterA (L := [(0, .ref o), (1, .int p0)]) hok (by decide +kernel) ⟨rfl, rfl⟩ (fun _ => Nat.le_of_ble_eq_true rfl) rfl (fun r C Z => ?_)
  unfold wN_at at h
  have t1 := h.1
  have h := h.2
  refine mj_iload_n C dN_at_0 rfl ?_
  refine mj_iconst (a := 0) C dN_at_1 (by decide) ?_
  refine mj_aload_n C dN_at_2 rfl ?_
  refine mj_getI C inN_all rfl (e_Line t1) 1 (by decide) l_N_15 rfl dN_at_3 ?_
  refine mj_iconst (a := 1) C dN_at_6 (by decide) ?_
  refine mj_isub C dN_at_7 ?_
  refine mj_callSN_iR C (qK_isBetween hok h) gN_K_isBetween l_N_19 z_K_isBetween.2 ⟨Nat.le_of_ble_eq_true rfl, Nat.le_of_ble_eq_true rfl, rfl, rfl⟩ rfl rfl (Nat.le_of_ble_eq_true rfl) dN_at_8 (fun a2 h => ?_)
  refine mj_if_eq (tgt := 23) C dN_at_11 (by decide) (fun c3 => ?_) (fun c3 => ?_)
  · have h := h.1 c3
    refine mj_iconst (a := (-1)) C dN_at_23 (by decide) ?_
    exact mj_iret C Z dN_at_24 ⟨_, rfl, rfl, h⟩
  · have h := h.2 c3
    refine mj_aload_n C dN_at_14 rfl ?_
    refine mj_getR C inN_all rfl (e_Line t1) 0 (by decide) l_N_9 rfl dN_at_15 ?_
    refine mj_iload_n C dN_at_18 rfl ?_
    refine mj_iald (t0 := 0) C (e_threads t1) rfl h.1 dN_at_19 ?_
    have h := h.2
    refine mj_goto (tgt := 24) C dN_at_20 (by decide) ?_
    exact mj_iret C Z dN_at_24 ⟨_, rfl, rfl, h⟩
/-! GrantKernel$Task.isGood -/
def wT_isGood (o : Nat) (p0 : Int64) (k : mj_St) (Q : Int32 → Prop) : Prop := mk_T o ∧ ((((lg_cmp p0 0) < 0) → Q 0) ∧ ((¬ (lg_cmp p0 0) < 0) → ((0 ≤ (lg_cmp p0 ((k o 5).toInt64))) → Q 0) ∧ ((¬ 0 ≤ (lg_cmp p0 ((k o 5).toInt64))) → Q 1)))
set_option maxRecDepth 100000 in
set_option maxHeartbeats 4000000 in
theorem qT_isGood {E : mj_E} (hok : mj_Ok (mk_v E)) {o : Nat} {p0 : Int64} {k mm : mj_St} {Q : Int32 → Prop} (h : wT_isGood o p0 k Q) : mj_Ct (mk_v E) yT_isGood (Cond.code yT_isGood cT_isGood 3 (some .boolean) :: mj_all) { frames := 0, cells := 0, slots := 0, locals := 0 } [.ref o, .long p0] (k, mm) (mj_iR (k, mm) Q) := by
  refine mj_enterA (L := [(0, .ref o), (1, .long p0)]) hok (by decide +kernel) ⟨rfl, rfl⟩ (fun _ => Nat.le_of_ble_eq_true rfl) rfl (fun r C Z => ?_)
  unfold wT_isGood at h
  have t1 := h.1
  have h := h.2
  refine mj_lload_n C dT_isGood_0 rfl ?_
  refine mj_lconst (a := 0) C dT_isGood_1 (by decide) ?_
  refine mj_lcmp C dT_isGood_2 ?_
  refine mj_if_lt (tgt := 20) C dT_isGood_3 (by decide) (fun c2 => ?_) (fun c2 => ?_)
  · have h := h.1 c2
    refine mj_iconst (a := 0) C dT_isGood_20 (by decide) ?_
    exact mj_zret C Z (Or.inl rfl) dT_isGood_21 ⟨_, rfl, rfl, h⟩
  · have h := h.2 c2
    refine mj_lload_n C dT_isGood_6 rfl ?_
    refine mj_aload_n C dT_isGood_7 rfl ?_
    refine mj_getI C inT_all rfl (e_Task t1) 5 (by decide) l_T_31 rfl dT_isGood_8 ?_
    refine mj_i2l C dT_isGood_11 ?_
    refine mj_lcmp C dT_isGood_12 ?_
    refine mj_if_ge (tgt := 20) C dT_isGood_13 (by decide) (fun c3 => ?_) (fun c3 => ?_)
    · have h := h.1 c3
      refine mj_iconst (a := 0) C dT_isGood_20 (by decide) ?_
      exact mj_zret C Z (Or.inl rfl) dT_isGood_21 ⟨_, rfl, rfl, h⟩
    · have h := h.2 c3
      refine mj_iconst (a := 1) C dT_isGood_16 (by decide) ?_
      refine mj_goto (tgt := 21) C dT_isGood_17 (by decide) ?_
      exact mj_zret C Z (Or.inr rfl) dT_isGood_21 ⟨_, rfl, rfl, h⟩
/-! GrantKernel$Task.fail -/
def wT_fail (o : Nat) (p0 : Int32) (k : mj_St) (Q : mj_St → Prop) : Prop := mk_T o ∧ (∀ k2 : mj_St, k2 = mj_up k o 1 5 → (∀ k3 : mj_St, k3 = mj_up k2 o 2 p0 → (Q k3)))
set_option maxRecDepth 100000 in
set_option maxHeartbeats 4000000 in
theorem qT_fail {E : mj_E} (hok : mj_Ok (mk_v E)) {o : Nat} {p0 : Int32} {k mm : mj_St} {Q : mj_St → Prop} (h : wT_fail o p0 k Q) : mj_Ct (mk_v E) yT_fail (Cond.code yT_fail cT_fail 2 none :: mj_all) { frames := 0, cells := 0, slots := 0, locals := 0 } [.ref o, .int p0] (k, mm) (mj_vK mm Q) := by
  refine mj_enterA (L := [(0, .ref o), (1, .int p0)]) hok (by decide +kernel) ⟨rfl, rfl⟩ (fun _ => Nat.le_of_ble_eq_true rfl) rfl (fun r C Z => ?_)
  unfold wT_fail at h
  have t1 := h.1
  have h := h.2
  refine mj_aload_n C dT_fail_0 rfl ?_
  refine mj_iconst (a := 5) C dT_fail_1 (by decide) ?_
  refine mj_put C inT_all rfl tyT okT nmT (e_Task t1) 1 (by decide) l_T_15 rfl (by decide +kernel) (Nat.le_of_ble_eq_true rfl) (s_Task_1 t1) dT_fail_2 ?_
  have h := h _ rfl
  refine mj_aload_n C dT_fail_5 rfl ?_
  refine mj_iload_n C dT_fail_6 rfl ?_
  refine mj_put C inT_all rfl tyT okT nmT (e_Task t1) 2 (by decide) l_T_19 rfl (by decide +kernel) (Nat.le_of_ble_eq_true rfl) (s_Task_2 t1) dT_fail_7 ?_
  have h := h _ rfl
  exact mj_vret C Z dT_fail_10 ⟨_, rfl, rfl, h⟩
/-! GrantKernel.opOf -/
def wK_opOf (p0 : Int32)  (Q : Int32 → Prop) : Prop := Q (p0 &&& 31)
set_option maxRecDepth 100000 in
set_option maxHeartbeats 4000000 in
theorem qK_opOf {E : mj_E} (hok : mj_Ok (mk_v E)) {p0 : Int32} {x : mj_X} {Q : Int32 → Prop} (h : wK_opOf p0  Q) : mj_Ct (mk_v E) yK_opOf (Cond.code yK_opOf cK_opOf 1 (some .int) :: mj_all) { frames := 0, cells := 0, slots := 0, locals := 0 } [.int p0] x (mj_iR x Q) := by
  refine mj_enterA (L := [(0, .int p0)]) hok (by decide +kernel) ⟨rfl, rfl⟩ (fun _ => Nat.le_of_ble_eq_true rfl) rfl (fun r C Z => ?_)
  unfold wK_opOf at h
  refine mj_iload_n C dK_opOf_0 rfl ?_
  refine mj_bipush (a := 31) C dK_opOf_1 (by decide) ?_
  refine mj_iand C dK_opOf_3 ?_
  exact mj_iret C Z dK_opOf_4 ⟨_, rfl, rfl, h⟩
/-! GrantKernel.fieldB -/
def wK_fieldB (p0 : Int32)  (Q : Int32 → Prop) : Prop := Q ((p0 >>> (8 &&& 31)) &&& 7)
set_option maxRecDepth 100000 in
set_option maxHeartbeats 4000000 in
theorem qK_fieldB {E : mj_E} (hok : mj_Ok (mk_v E)) {p0 : Int32} {x : mj_X} {Q : Int32 → Prop} (h : wK_fieldB p0  Q) : mj_Ct (mk_v E) yK_fieldB (Cond.code yK_fieldB cK_fieldB 1 (some .int) :: mj_all) { frames := 0, cells := 0, slots := 0, locals := 0 } [.int p0] x (mj_iR x Q) := by
  refine mj_enterA (L := [(0, .int p0)]) hok (by decide +kernel) ⟨rfl, rfl⟩ (fun _ => Nat.le_of_ble_eq_true rfl) rfl (fun r C Z => ?_)
  unfold wK_fieldB at h
  refine mj_iload_n C dK_fieldB_0 rfl ?_
  refine mj_bipush (a := 8) C dK_fieldB_1 (by decide) ?_
  refine mj_ishr C dK_fieldB_3 ?_
  refine mj_bipush (a := 7) C dK_fieldB_4 (by decide) ?_
  refine mj_iand C dK_fieldB_6 ?_
  exact mj_iret C Z dK_fieldB_7 ⟨_, rfl, rfl, h⟩
/-! GrantKernel.numberOf -/
def wK_numberOf (p0 : Int32)  (Q : Int32 → Prop) : Prop := Q (p0 >>> (14 &&& 31))
set_option maxRecDepth 100000 in
set_option maxHeartbeats 4000000 in
theorem qK_numberOf {E : mj_E} (hok : mj_Ok (mk_v E)) {p0 : Int32} {x : mj_X} {Q : Int32 → Prop} (h : wK_numberOf p0  Q) : mj_Ct (mk_v E) yK_numberOf (Cond.code yK_numberOf cK_numberOf 1 (some .int) :: mj_all) { frames := 0, cells := 0, slots := 0, locals := 0 } [.int p0] x (mj_iR x Q) := by
  refine mj_enterA (L := [(0, .int p0)]) hok (by decide +kernel) ⟨rfl, rfl⟩ (fun _ => Nat.le_of_ble_eq_true rfl) rfl (fun r C Z => ?_)
  unfold wK_numberOf at h
  refine mj_iload_n C dK_numberOf_0 rfl ?_
  refine mj_bipush (a := 14) C dK_numberOf_1 (by decide) ?_
  refine mj_ishr C dK_numberOf_3 ?_
  exact mj_iret C Z dK_numberOf_4 ⟨_, rfl, rfl, h⟩
/-! GrantKernel.fieldA -/
def wK_fieldA (p0 : Int32)  (Q : Int32 → Prop) : Prop := Q ((p0 >>> (5 &&& 31)) &&& 7)
set_option maxRecDepth 100000 in
set_option maxHeartbeats 4000000 in
theorem qK_fieldA {E : mj_E} (hok : mj_Ok (mk_v E)) {p0 : Int32} {x : mj_X} {Q : Int32 → Prop} (h : wK_fieldA p0  Q) : mj_Ct (mk_v E) yK_fieldA (Cond.code yK_fieldA cK_fieldA 1 (some .int) :: mj_all) { frames := 0, cells := 0, slots := 0, locals := 0 } [.int p0] x (mj_iR x Q) := by
  refine mj_enterA (L := [(0, .int p0)]) hok (by decide +kernel) ⟨rfl, rfl⟩ (fun _ => Nat.le_of_ble_eq_true rfl) rfl (fun r C Z => ?_)
  unfold wK_fieldA at h
  refine mj_iload_n C dK_fieldA_0 rfl ?_
  refine mj_iconst (a := 5) C dK_fieldA_1 (by decide) ?_
  refine mj_ishr C dK_fieldA_2 ?_
  refine mj_bipush (a := 7) C dK_fieldA_3 (by decide) ?_
  refine mj_iand C dK_fieldA_5 ?_
  exact mj_iret C Z dK_fieldA_6 ⟨_, rfl, rfl, h⟩
/-! GrantKernel.access -/
def wK_access (p0 : Nat) (p1 : Int32) (k : mj_St) (Q : Int32 → mj_St → Prop) : Prop := mk_T p0 ∧ (wK_fieldB p1 (fun a2 => (vp_in a2 8 ∧ (wK_numberOf p1 (fun a3 => (∀ a4 : Int64, a4 = ((k (p0 + 6) a2.toNatClampNeg).toInt64) + (a3.toInt64) → (wT_isGood p0 a4 k (fun a5 => (((¬ a5 = 0) → ∀ a7 : Int32, a7 = (k p0 4) + (a4.toInt32) → (wK_opOf p1 (fun a8 => (((¬ a8 = 8) → wK_fieldA p1 (fun a10 => (vp_in a10 8 ∧ (vp_in a7 128 ∧ (∀ k11 : mj_St, k11 = mj_up k 1 a7.toNatClampNeg (k (p0 + 6) a10.toNatClampNeg) → (Q 0 k11)))))) ∧ ((a8 = 8) → wK_fieldA p1 (fun a12 => (vp_in a7 128 ∧ (vp_in a12 8 ∧ (∀ k13 : mj_St, k13 = mj_up k (p0 + 6) a12.toNatClampNeg (k 1 a7.toNatClampNeg) → (Q 0 k13)))))))))) ∧ ((a5 = 0) → Q 2 k))))))))))
set_option maxRecDepth 100000 in
set_option maxHeartbeats 4000000 in
theorem qK_access {E : mj_E} (hok : mj_Ok (mk_v E)) {p0 : Nat} {p1 : Int32} {k mm : mj_St} {Q : Int32 → mj_St → Prop} (h : wK_access p0 p1 k Q) : mj_Ct (mk_v E) yK_access (Cond.code yK_access cK_access 6 (some .int) :: mj_all) { frames := 1, cells := 0, slots := 0, locals := 22 } [.ref 0, .ref p0, .int p1] (k, mm) (mj_iK mm Q) := by
  refine mj_enterA (L := [(0, .ref 0), (1, .ref p0), (2, .int p1)]) hok (by decide +kernel) ⟨rfl, rfl⟩ (fun _ => Nat.le_of_ble_eq_true rfl) rfl (fun r C Z => ?_)
  unfold wK_access at h
  have t1 := h.1
  have h := h.2
  refine mj_aload_n C dK_access_0 rfl ?_
  refine mj_getR C inT_all rfl (e_Task t1) 0 (by decide) l_K_78 rfl dK_access_1 ?_
  refine mj_iload_n C dK_access_4 rfl ?_
  refine mj_callS_iR C (qK_fieldB hok h) (g_K_fieldB l_K_202) z_K_fieldB ⟨Nat.le_of_ble_eq_true rfl, Nat.le_of_ble_eq_true rfl, rfl, rfl⟩ rfl rfl (Nat.le_of_ble_eq_true rfl) dK_access_5 (fun a2 h => ?_)
  refine mj_iald (t0 := 0) C (e_regs t1) rfl h.1 dK_access_8 ?_
  have h := h.2
  refine mj_i2l C dK_access_9 ?_
  refine mj_iload_n C dK_access_10 rfl ?_
  refine mj_callS_iR C (qK_numberOf hok h) (g_K_numberOf l_K_136) z_K_numberOf ⟨Nat.le_of_ble_eq_true rfl, Nat.le_of_ble_eq_true rfl, rfl, rfl⟩ rfl rfl (Nat.le_of_ble_eq_true rfl) dK_access_11 (fun a3 h => ?_)
  refine mj_i2l C dK_access_14 ?_
  refine mj_ladd C dK_access_15 ?_
  refine mj_lstore_n C dK_access_16 (by decide) rfl rfl ?_
  have h := h _ rfl
  refine mj_aload_n C dK_access_17 rfl ?_
  refine mj_lload_n C dK_access_18 rfl ?_
  refine mj_callV_iR C (qT_isGood hok h) (g_T_isGood l_K_142) rfl (e_Task t1) z_T_isGood ⟨Nat.le_of_ble_eq_true rfl, Nat.le_of_ble_eq_true rfl, rfl, rfl⟩ rfl rfl (Nat.le_of_ble_eq_true rfl) dK_access_19 (fun a5 h => ?_)
  refine mj_if_ne (tgt := 27) C dK_access_22 (by decide) (fun c6 => ?_) (fun c6 => ?_)
  · have h := h.1 c6
    refine mj_aload_n C dK_access_27 rfl ?_
    refine mj_getI C inT_all rfl (e_Task t1) 4 (by decide) l_K_149 rfl dK_access_28 ?_
    refine mj_lload_n C dK_access_31 rfl ?_
    refine mj_l2i C dK_access_32 ?_
    refine mj_iadd C dK_access_33 ?_
    refine mj_istore C dK_access_34 (by decide) rfl ?_
    have h := h _ rfl
    refine mj_iload_n C dK_access_36 rfl ?_
    refine mj_callS_iR C (qK_opOf hok h) (g_K_opOf l_K_159) z_K_opOf ⟨Nat.le_of_ble_eq_true rfl, Nat.le_of_ble_eq_true rfl, rfl, rfl⟩ rfl rfl (Nat.le_of_ble_eq_true rfl) dK_access_37 (fun a8 h => ?_)
    refine mj_bipush (a := 8) C dK_access_40 (by decide) ?_
    refine mj_icmp_ne (tgt := 64) C dK_access_42 (by decide) (fun c9 => ?_) (fun c9 => ?_)
    · have h := h.1 c9
      refine mj_aload_n C dK_access_64 rfl ?_
      refine mj_getR C inK_all rfl e_GK 1 (by decide) l_K_9 rfl dK_access_65 ?_
      refine mj_iload C dK_access_68 rfl ?_
      refine mj_aload_n C dK_access_70 rfl ?_
      refine mj_getR C inT_all rfl (e_Task t1) 0 (by decide) l_K_78 rfl dK_access_71 ?_
      refine mj_iload_n C dK_access_74 rfl ?_
      refine mj_callS_iR C (qK_fieldA hok h) (g_K_fieldA l_K_172) z_K_fieldA ⟨Nat.le_of_ble_eq_true rfl, Nat.le_of_ble_eq_true rfl, rfl, rfl⟩ rfl rfl (Nat.le_of_ble_eq_true rfl) dK_access_75 (fun a10 h => ?_)
      refine mj_iald (t0 := 0) C (e_regs t1) rfl h.1 dK_access_78 ?_
      have h := h.2
      refine mj_iast (t0 := 0) C e_memory rfl h.1 s_memory dK_access_79 ?_
      have h := h.2 _ rfl
      refine mj_iconst (a := 0) C dK_access_80 (by decide) ?_
      exact mj_iret C Z dK_access_81 ⟨_, _, rfl, rfl, h⟩
    · have h := h.2 c9
      refine mj_aload_n C dK_access_45 rfl ?_
      refine mj_getR C inT_all rfl (e_Task t1) 0 (by decide) l_K_78 rfl dK_access_46 ?_
      refine mj_iload_n C dK_access_49 rfl ?_
      refine mj_callS_iR C (qK_fieldA hok h) (g_K_fieldA l_K_172) z_K_fieldA ⟨Nat.le_of_ble_eq_true rfl, Nat.le_of_ble_eq_true rfl, rfl, rfl⟩ rfl rfl (Nat.le_of_ble_eq_true rfl) dK_access_50 (fun a12 h => ?_)
      refine mj_aload_n C dK_access_53 rfl ?_
      refine mj_getR C inK_all rfl e_GK 1 (by decide) l_K_9 rfl dK_access_54 ?_
      refine mj_iload C dK_access_57 rfl ?_
      refine mj_iald (t0 := 0) C e_memory rfl h.1 dK_access_59 ?_
      have h := h.2
      refine mj_iast (t0 := 0) C (e_regs t1) rfl h.1 (s_regs t1) dK_access_60 ?_
      have h := h.2 _ rfl
      refine mj_goto (tgt := 80) C dK_access_61 (by decide) ?_
      refine mj_iconst (a := 0) C dK_access_80 (by decide) ?_
      exact mj_iret C Z dK_access_81 ⟨_, _, rfl, rfl, h⟩
  · have h := h.2 c6
    refine mj_iconst (a := 2) C dK_access_25 (by decide) ?_
    exact mj_iret C Z dK_access_26 ⟨_, _, rfl, rfl, h⟩
/-! GrantKernel$Grants.allows -/
def wG_allows (p0 : Int32) (p1 : Int32) (p2 : Int32) (k : mj_St) (Q : Int32 → Prop) : Prop := vp_in p0 48 ∧ (((¬ (k 27 p0.toNatClampNeg) = p1) → Q 0) ∧ (((k 27 p0.toNatClampNeg) = p1) → vp_in p0 48 ∧ (((¬ ((k 29 p0.toNatClampNeg) &&& p2) = p2) → Q 0) ∧ ((((k 29 p0.toNatClampNeg) &&& p2) = p2) → Q 1))))
set_option maxRecDepth 100000 in
set_option maxHeartbeats 4000000 in
theorem qG_allows {E : mj_E} (hok : mj_Ok (mk_v E)) {p0 : Int32} {p1 : Int32} {p2 : Int32} {k mm : mj_St} {Q : Int32 → Prop} (h : wG_allows p0 p1 p2 k Q) : mj_Ct (mk_v E) yG_allows (Cond.code yG_allows cG_allows 4 (some .boolean) :: mj_all) { frames := 0, cells := 0, slots := 0, locals := 0 } [.ref 26, .int p0, .int p1, .int p2] (k, mm) (mj_iR (k, mm) Q) := by
  refine mj_enterA (L := [(0, .ref 26), (1, .int p0), (2, .int p1), (3, .int p2)]) hok (by decide +kernel) ⟨rfl, rfl⟩ (fun _ => Nat.le_of_ble_eq_true rfl) rfl (fun r C Z => ?_)
  unfold wG_allows at h
  refine mj_aload_n C dG_allows_0 rfl ?_
  refine mj_getR C inG_all rfl e_Grants 0 (by decide) l_G_9 rfl dG_allows_1 ?_
  refine mj_iload_n C dG_allows_4 rfl ?_
  refine mj_iald (t0 := 0) C e_kinds rfl h.1 dG_allows_5 ?_
  have h := h.2
  refine mj_iload_n C dG_allows_6 rfl ?_
  refine mj_icmp_ne (tgt := 26) C dG_allows_7 (by decide) (fun c1 => ?_) (fun c1 => ?_)
  · have h := h.1 c1
    refine mj_iconst (a := 0) C dG_allows_26 (by decide) ?_
    exact mj_zret C Z (Or.inl rfl) dG_allows_27 ⟨_, rfl, rfl, h⟩
  · have h := h.2 c1
    refine mj_aload_n C dG_allows_10 rfl ?_
    refine mj_getR C inG_all rfl e_Grants 2 (by decide) l_G_18 rfl dG_allows_11 ?_
    refine mj_iload_n C dG_allows_14 rfl ?_
    refine mj_iald (t0 := 0) C e_rights rfl h.1 dG_allows_15 ?_
    have h := h.2
    refine mj_iload_n C dG_allows_16 rfl ?_
    refine mj_iand C dG_allows_17 ?_
    refine mj_iload_n C dG_allows_18 rfl ?_
    refine mj_icmp_ne (tgt := 26) C dG_allows_19 (by decide) (fun c2 => ?_) (fun c2 => ?_)
    · have h := h.1 c2
      refine mj_iconst (a := 0) C dG_allows_26 (by decide) ?_
      exact mj_zret C Z (Or.inl rfl) dG_allows_27 ⟨_, rfl, rfl, h⟩
    · have h := h.2 c2
      refine mj_iconst (a := 1) C dG_allows_22 (by decide) ?_
      refine mj_goto (tgt := 27) C dG_allows_23 (by decide) ?_
      exact mj_zret C Z (Or.inr rfl) dG_allows_27 ⟨_, rfl, rfl, h⟩
/-! GrantKernel$Tape.append -/
def wP_append (p0 : Int32) (k : mj_St) (Q : mj_St → Prop) : Prop := vp_in ((k 32 1) - (k 32 1) / 16 * 16) 16 ∧ (∀ k1 : mj_St, k1 = mj_up k 33 ((k 32 1) - (k 32 1) / 16 * 16).toNatClampNeg p0 → (∀ k2 : mj_St, k2 = mj_up k1 32 1 ((k1 32 1) + 1) → (Q k2)))
set_option maxRecDepth 100000 in
set_option maxHeartbeats 4000000 in
theorem qP_append {E : mj_E} (hok : mj_Ok (mk_v E)) {p0 : Int32} {k mm : mj_St} {Q : mj_St → Prop} (h : wP_append p0 k Q) : mj_Ct (mk_v E) yP_append (Cond.code yP_append cP_append 2 none :: mj_all) { frames := 0, cells := 0, slots := 0, locals := 0 } [.ref 32, .int p0] (k, mm) (mj_vK mm Q) := by
  refine mj_enterA (L := [(0, .ref 32), (1, .int p0)]) hok (by decide +kernel) ⟨rfl, rfl⟩ (fun _ => Nat.le_of_ble_eq_true rfl) rfl (fun r C Z => ?_)
  unfold wP_append at h
  refine mj_aload_n C dP_append_0 rfl ?_
  refine mj_getR C inP_all rfl e_Tape 0 (by decide) l_P_9 rfl dP_append_1 ?_
  refine mj_aload_n C dP_append_4 rfl ?_
  refine mj_getI C inP_all rfl e_Tape 1 (by decide) l_P_15 rfl dP_append_5 ?_
  refine mj_bipush (a := 16) C dP_append_8 (by decide) ?_
  refine mj_irem C dP_append_10 (by decide) ?_
  refine mj_iload_n C dP_append_11 rfl ?_
  refine mj_iast (t0 := 0) C e_latest rfl h.1 s_latest dP_append_12 ?_
  have h := h.2 _ rfl
  refine mj_aload_n C dP_append_13 rfl ?_
  refine mj_dup C dP_append_14 rfl ?_
  refine mj_getI C inP_all rfl e_Tape 1 (by decide) l_P_15 rfl dP_append_15 ?_
  refine mj_iconst (a := 1) C dP_append_18 (by decide) ?_
  refine mj_iadd C dP_append_19 ?_
  refine mj_put C inP_all rfl tyP okP nmP e_Tape 1 (by decide) l_P_15 rfl (by decide +kernel) (Nat.le_of_ble_eq_true rfl) s_Tape_1 dP_append_20 ?_
  have h := h _ rfl
  exact mj_vret C Z dP_append_23 ⟨_, rfl, rfl, h⟩
/-! GrantKernel.printBy -/
def wK_printBy (p0 : Int32) (p1 : Int32) (k : mj_St) (Q : Int32 → mj_St → Prop) : Prop := wK_fieldA p1 (fun a1 => (wK_slotPlace p0 a1 (fun a2 => (wG_allows a2 2 1 k (fun a3 => (((¬ a3 = 0) → vp_in p0 6 ∧ (wK_fieldB p1 (fun a6 => (vp_in a6 8 ∧ (wP_append (k (3 + p0.toNatClampNeg + 6) a6.toNatClampNeg) k (fun k7 => (Q 0 k7))))))) ∧ ((a3 = 0) → Q 4 k)))))))
set_option maxRecDepth 100000 in
set_option maxHeartbeats 4000000 in
theorem qK_printBy {E : mj_E} (hok : mj_Ok (mk_v E)) {p0 : Int32} {p1 : Int32} {k mm : mj_St} {Q : Int32 → mj_St → Prop} (h : wK_printBy p0 p1 k Q) : mj_Ct (mk_v E) yK_printBy (Cond.code yK_printBy cK_printBy 3 (some .int) :: mj_all) { frames := 1, cells := 0, slots := 0, locals := 23 } [.ref 0, .int p0, .int p1] (k, mm) (mj_iK mm Q) := by
  refine mj_enterA (L := [(0, .ref 0), (1, .int p0), (2, .int p1)]) hok (by decide +kernel) ⟨rfl, rfl⟩ (fun _ => Nat.le_of_ble_eq_true rfl) rfl (fun r C Z => ?_)
  unfold wK_printBy at h
  refine mj_aload_n C dK_printBy_0 rfl ?_
  refine mj_getR C inK_all rfl e_GK 5 (by decide) l_K_33 rfl dK_printBy_1 ?_
  refine mj_iload_n C dK_printBy_4 rfl ?_
  refine mj_iload_n C dK_printBy_5 rfl ?_
  refine mj_callS_iR C (qK_fieldA hok h) (g_K_fieldA l_K_172) z_K_fieldA ⟨Nat.le_of_ble_eq_true rfl, Nat.le_of_ble_eq_true rfl, rfl, rfl⟩ rfl rfl (Nat.le_of_ble_eq_true rfl) dK_printBy_6 (fun a1 h => ?_)
  refine mj_callS_iR C (qK_slotPlace hok h) (g_K_slotPlace l_K_102) z_K_slotPlace ⟨Nat.le_of_ble_eq_true rfl, Nat.le_of_ble_eq_true rfl, rfl, rfl⟩ rfl rfl (Nat.le_of_ble_eq_true rfl) dK_printBy_9 (fun a2 h => ?_)
  refine mj_iconst (a := 2) C dK_printBy_12 (by decide) ?_
  refine mj_iconst (a := 1) C dK_printBy_13 (by decide) ?_
  refine mj_callV_iR C (qG_allows hok h) (g_G_allows l_K_208) rfl e_Grants z_G_allows ⟨Nat.le_of_ble_eq_true rfl, Nat.le_of_ble_eq_true rfl, rfl, rfl⟩ rfl rfl (Nat.le_of_ble_eq_true rfl) dK_printBy_14 (fun a3 h => ?_)
  refine mj_if_ne (tgt := 22) C dK_printBy_17 (by decide) (fun c4 => ?_) (fun c4 => ?_)
  · have h := h.1 c4
    refine mj_aload_n C dK_printBy_22 rfl ?_
    refine mj_getR C inK_all rfl e_GK 6 (by decide) l_K_40 rfl dK_printBy_23 ?_
    refine mj_aload_n C dK_printBy_26 rfl ?_
    refine mj_getR C inK_all rfl e_GK 2 (by decide) l_K_15 rfl dK_printBy_27 ?_
    refine mj_iload_n C dK_printBy_30 rfl ?_
    have t5 := mk_isT h.1
    refine mj_aald (t0 := 2) C e_tasks rfl h.1 rfl dK_printBy_31 ?_
    have h := h.2
    refine mj_getR C inT_all rfl (e_Task t5) 0 (by decide) l_K_78 rfl dK_printBy_32 ?_
    refine mj_iload_n C dK_printBy_35 rfl ?_
    refine mj_callS_iR C (qK_fieldB hok h) (g_K_fieldB l_K_202) z_K_fieldB ⟨Nat.le_of_ble_eq_true rfl, Nat.le_of_ble_eq_true rfl, rfl, rfl⟩ rfl rfl (Nat.le_of_ble_eq_true rfl) dK_printBy_36 (fun a6 h => ?_)
    refine mj_iald (t0 := 0) C (e_regs t5) rfl h.1 dK_printBy_39 ?_
    have h := h.2
    refine mj_callV_vWK C (qP_append hok h) (g_P_append l_K_211) rfl e_Tape z_P_append ⟨Nat.le_of_ble_eq_true rfl, Nat.le_of_ble_eq_true rfl, rfl, rfl⟩ rfl rfl (Nat.le_of_ble_eq_true rfl) dK_printBy_40 (fun k7 h => ?_)
    refine mj_iconst (a := 0) C dK_printBy_43 (by decide) ?_
    exact mj_iret C Z dK_printBy_44 ⟨_, _, rfl, rfl, h⟩
  · have h := h.2 c4
    refine mj_iconst (a := 4) C dK_printBy_20 (by decide) ?_
    exact mj_iret C Z dK_printBy_21 ⟨_, _, rfl, rfl, h⟩
/-! GrantKernel.isNumberOdd -/
def wK_isNumberOdd (p0 : Int32)  (Q : Int32 → Prop) : Prop := wK_numberOf p0 (fun a1 => ((((a1 &&& 1) = 0) → Q 0) ∧ ((¬ (a1 &&& 1) = 0) → Q 1)))
set_option maxRecDepth 100000 in
set_option maxHeartbeats 4000000 in
theorem qK_isNumberOdd {E : mj_E} (hok : mj_Ok (mk_v E)) {p0 : Int32} {x : mj_X} {Q : Int32 → Prop} (h : wK_isNumberOdd p0  Q) : mj_Ct (mk_v E) yK_isNumberOdd (Cond.code yK_isNumberOdd cK_isNumberOdd 1 (some .boolean) :: mj_all) { frames := 1, cells := 0, slots := 0, locals := 20 } [.int p0] x (mj_iR x Q) := by
  refine mj_enterA (L := [(0, .int p0)]) hok (by decide +kernel) ⟨rfl, rfl⟩ (fun _ => Nat.le_of_ble_eq_true rfl) rfl (fun r C Z => ?_)
  unfold wK_isNumberOdd at h
  refine mj_iload_n C dK_isNumberOdd_0 rfl ?_
  refine mj_callS_iR C (qK_numberOf hok h) (g_K_numberOf l_K_136) z_K_numberOf ⟨Nat.le_of_ble_eq_true rfl, Nat.le_of_ble_eq_true rfl, rfl, rfl⟩ rfl rfl (Nat.le_of_ble_eq_true rfl) dK_isNumberOdd_1 (fun a1 h => ?_)
  refine mj_iconst (a := 1) C dK_isNumberOdd_4 (by decide) ?_
  refine mj_iand C dK_isNumberOdd_5 ?_
  refine mj_if_eq (tgt := 13) C dK_isNumberOdd_6 (by decide) (fun c2 => ?_) (fun c2 => ?_)
  · have h := h.1 c2
    refine mj_iconst (a := 0) C dK_isNumberOdd_13 (by decide) ?_
    exact mj_zret C Z (Or.inl rfl) dK_isNumberOdd_14 ⟨_, rfl, rfl, h⟩
  · have h := h.2 c2
    refine mj_iconst (a := 1) C dK_isNumberOdd_9 (by decide) ?_
    refine mj_goto (tgt := 14) C dK_isNumberOdd_10 (by decide) ?_
    exact mj_zret C Z (Or.inr rfl) dK_isNumberOdd_14 ⟨_, rfl, rfl, h⟩
/-! GrantKernel$Grants.objectAt -/
def wG_objectAt (p0 : Int32) (k : mj_St) (Q : Int32 → Prop) : Prop := vp_in p0 48 ∧ (Q (k 28 p0.toNatClampNeg))
set_option maxRecDepth 100000 in
set_option maxHeartbeats 4000000 in
theorem qG_objectAt {E : mj_E} (hok : mj_Ok (mk_v E)) {p0 : Int32} {k mm : mj_St} {Q : Int32 → Prop} (h : wG_objectAt p0 k Q) : mj_Ct (mk_v E) yG_objectAt (Cond.code yG_objectAt cG_objectAt 2 (some .int) :: mj_all) { frames := 0, cells := 0, slots := 0, locals := 0 } [.ref 26, .int p0] (k, mm) (mj_iR (k, mm) Q) := by
  refine mj_enterA (L := [(0, .ref 26), (1, .int p0)]) hok (by decide +kernel) ⟨rfl, rfl⟩ (fun _ => Nat.le_of_ble_eq_true rfl) rfl (fun r C Z => ?_)
  unfold wG_objectAt at h
  refine mj_aload_n C dG_objectAt_0 rfl ?_
  refine mj_getR C inG_all rfl e_Grants 1 (by decide) l_G_15 rfl dG_objectAt_1 ?_
  refine mj_iload_n C dG_objectAt_4 rfl ?_
  refine mj_iald (t0 := 0) C e_objects rfl h.1 dG_objectAt_5 ?_
  have h := h.2
  exact mj_iret C Z dG_objectAt_6 ⟨_, rfl, rfl, h⟩
/-! GrantKernel$Line.takeFirst -/
def wN_takeFirst_20 (n : Nat) (x0 : Nat) (x1 : Int32)  (k : mj_St) (Q : mj_St → Prop)  : Prop := match n with
  | 0 => False
  | n + 1 => mk_N x0 ∧ ((((k x0 1) ≤ x1) → Q k) ∧ ((¬ (k x0 1) ≤ x1) → vp_in (x1 + 1) 6 ∧ (vp_in x1 6 ∧ (∀ k6 : mj_St, k6 = mj_up k (x0 + 5) x1.toNatClampNeg (k (x0 + 5) (x1 + 1).toNatClampNeg) → (∀ a7 : Int32, a7 = x1 + 1 → (wN_takeFirst_20 n x0 a7 k6 Q))))))
set_option maxRecDepth 100000 in
set_option maxHeartbeats 4000000 in
theorem uN_takeFirst_20 {E : mj_E} {r : mj_R} {mm : mj_St} {Q : mj_St → Prop} (hok : mj_Ok (mk_v E)) (C : mj_Cx (mk_v E) r cN_takeFirst 2 RN mj_all { frames := 0, cells := 0, slots := 0, locals := 0 }) (Z : mj_Cr (mk_v E) r none (mj_vK mm Q))   : ∀ (n : Nat) (x0 : Nat) (x1 : Int32) (k : mj_St), wN_takeFirst_20 n x0 x1 k Q → mj_G (mk_v E) r 20 [(0, .ref x0), (1, .int x1)] [] (k, mm) := by
  intro n
  induction n with
  | zero => intro x0 x1 k h; exact False.elim h
  | succ n ih =>
    intro x0 x1 k h
    rw [wN_takeFirst_20] at h
    have t4 := h.1
    have h := h.2
    refine mj_iload_n C dN_takeFirst_20 rfl ?_
    refine mj_aload_n C dN_takeFirst_21 rfl ?_
    refine mj_getI C inN_all rfl (e_Line t4) 1 (by decide) l_N_15 rfl dN_takeFirst_22 ?_
    refine mj_icmp_ge (tgt := 48) C dN_takeFirst_25 (by decide) (fun c5 => ?_) (fun c5 => ?_)
    · have h := h.1 c5
      exact mj_vret C Z dN_takeFirst_48 ⟨_, rfl, rfl, h⟩
    · have h := h.2 c5
      refine mj_aload_n C dN_takeFirst_28 rfl ?_
      refine mj_getR C inN_all rfl (e_Line t4) 0 (by decide) l_N_9 rfl dN_takeFirst_29 ?_
      refine mj_iload_n C dN_takeFirst_32 rfl ?_
      refine mj_aload_n C dN_takeFirst_33 rfl ?_
      refine mj_getR C inN_all rfl (e_Line t4) 0 (by decide) l_N_9 rfl dN_takeFirst_34 ?_
      refine mj_iload_n C dN_takeFirst_37 rfl ?_
      refine mj_iconst (a := 1) C dN_takeFirst_38 (by decide) ?_
      refine mj_iadd C dN_takeFirst_39 ?_
      refine mj_iald (t0 := 0) C (e_threads t4) rfl h.1 dN_takeFirst_40 ?_
      have h := h.2
      refine mj_iast (t0 := 0) C (e_threads t4) rfl h.1 (s_threads t4) dN_takeFirst_41 ?_
      have h := h.2 _ rfl
      refine mj_iinc (b := 1) C dN_takeFirst_42 rfl (by decide) (by decide) rfl ?_
      have h := h _ rfl
      refine mj_goto (tgt := 20) C dN_takeFirst_45 (by decide) ?_
      exact mj_sub2 (ih _ _ _ h) ⟨rfl, rfl, trivial⟩
def wN_takeFirst (o : Nat) (k : mj_St) (Q : mj_St → Prop) : Prop := mk_N o ∧ (((¬ (k o 1) = 0) → ∀ k3 : mj_St, k3 = mj_up k o 1 ((k o 1) - 1) → ((∃ e20, wN_takeFirst_20 e20 o 0 k3 Q))) ∧ (((k o 1) = 0) → Q k))
set_option maxRecDepth 100000 in
set_option maxHeartbeats 4000000 in
theorem qN_takeFirst {E : mj_E} (hok : mj_Ok (mk_v E)) {o : Nat} {k mm : mj_St} {Q : mj_St → Prop} (h : wN_takeFirst o k Q) : mj_Ct (mk_v E) yN_takeFirst (Cond.code yN_takeFirst cN_takeFirst 2 none :: mj_all) { frames := 0, cells := 0, slots := 0, locals := 0 } [.ref o] (k, mm) (mj_vK mm Q) := by
  refine mj_enterA (L := [(0, .ref o)]) hok (by decide +kernel) ⟨rfl, rfl⟩ (fun _ => Nat.le_of_ble_eq_true rfl) rfl (fun r C Z => ?_)
  unfold wN_takeFirst at h
  have t1 := h.1
  have h := h.2
  refine mj_aload_n C dN_takeFirst_0 rfl ?_
  refine mj_getI C inN_all rfl (e_Line t1) 1 (by decide) l_N_15 rfl dN_takeFirst_1 ?_
  refine mj_if_ne (tgt := 8) C dN_takeFirst_4 (by decide) (fun c2 => ?_) (fun c2 => ?_)
  · have h := h.1 c2
    refine mj_aload_n C dN_takeFirst_8 rfl ?_
    refine mj_dup C dN_takeFirst_9 rfl ?_
    refine mj_getI C inN_all rfl (e_Line t1) 1 (by decide) l_N_15 rfl dN_takeFirst_10 ?_
    refine mj_iconst (a := 1) C dN_takeFirst_13 (by decide) ?_
    refine mj_isub C dN_takeFirst_14 ?_
    refine mj_put C inN_all rfl tyN okN nmN (e_Line t1) 1 (by decide) l_N_15 rfl (by decide +kernel) (Nat.le_of_ble_eq_true rfl) (s_Line_1 t1) dN_takeFirst_15 ?_
    have h := h _ rfl
    refine mj_iconst (a := 0) C dN_takeFirst_18 (by decide) ?_
    refine mj_istore_n C dN_takeFirst_19 (by decide) rfl ?_
    obtain ⟨n0, h⟩ := h
    exact mj_sub2 (uN_takeFirst_20 hok C Z  n0 _ _ _ h) ⟨rfl, rfl, trivial⟩
  · have h := h.2 c2
    exact mj_vret C Z dN_takeFirst_7 ⟨_, rfl, rfl, h⟩
/-! GrantKernel.takeWaiting -/
def wK_takeWaiting (p0 : Nat) (p1 : Int32) (k : mj_St) (Q : Int32 → mj_St → Prop) : Prop := mk_N p0 ∧ (wN_at p0 0 k (fun a2 => (((a2 = (-1)) → Q (-1) k) ∧ ((¬ a2 = (-1)) → vp_in a2 6 ∧ ((((k (3 + a2.toNatClampNeg) 1) = p1) → wN_takeFirst p0 k (fun k6 => (Q a2 k6))) ∧ ((¬ (k (3 + a2.toNatClampNeg) 1) = p1) → Q (-1) k))))))
set_option maxRecDepth 100000 in
set_option maxHeartbeats 4000000 in
theorem qK_takeWaiting {E : mj_E} (hok : mj_Ok (mk_v E)) {p0 : Nat} {p1 : Int32} {k mm : mj_St} {Q : Int32 → mj_St → Prop} (h : wK_takeWaiting p0 p1 k Q) : mj_Ct (mk_v E) yK_takeWaiting (Cond.code yK_takeWaiting cK_takeWaiting 4 (some .int) :: mj_all) { frames := 2, cells := 0, slots := 0, locals := 43 } [.ref 0, .ref p0, .int p1] (k, mm) (mj_iK mm Q) := by
  refine mj_enterA (L := [(0, .ref 0), (1, .ref p0), (2, .int p1)]) hok (by decide +kernel) ⟨rfl, rfl⟩ (fun _ => Nat.le_of_ble_eq_true rfl) rfl (fun r C Z => ?_)
  unfold wK_takeWaiting at h
  have t1 := h.1
  have h := h.2
  refine mj_aload_n C dK_takeWaiting_0 rfl ?_
  refine mj_iconst (a := 0) C dK_takeWaiting_1 (by decide) ?_
  refine mj_callV_iR C (qN_at hok h) (g_N_at l_K_108) rfl (e_Line t1) z_N_at ⟨Nat.le_of_ble_eq_true rfl, Nat.le_of_ble_eq_true rfl, rfl, rfl⟩ rfl rfl (Nat.le_of_ble_eq_true rfl) dK_takeWaiting_2 (fun a2 h => ?_)
  refine mj_istore_n C dK_takeWaiting_5 (by decide) rfl ?_
  refine mj_iload_n C dK_takeWaiting_6 rfl ?_
  refine mj_iconst (a := (-1)) C dK_takeWaiting_7 (by decide) ?_
  refine mj_icmp_eq (tgt := 24) C dK_takeWaiting_8 (by decide) (fun c3 => ?_) (fun c3 => ?_)
  · have h := h.1 c3
    refine mj_iconst (a := (-1)) C dK_takeWaiting_24 (by decide) ?_
    exact mj_iret C Z dK_takeWaiting_25 ⟨_, _, rfl, rfl, h⟩
  · have h := h.2 c3
    refine mj_aload_n C dK_takeWaiting_11 rfl ?_
    refine mj_getR C inK_all rfl e_GK 2 (by decide) l_K_15 rfl dK_takeWaiting_12 ?_
    refine mj_iload_n C dK_takeWaiting_15 rfl ?_
    have t4 := mk_isT h.1
    refine mj_aald (t0 := 2) C e_tasks rfl h.1 rfl dK_takeWaiting_16 ?_
    have h := h.2
    refine mj_getI C inT_all rfl (e_Task t4) 1 (by decide) l_K_96 rfl dK_takeWaiting_17 ?_
    refine mj_iload_n C dK_takeWaiting_20 rfl ?_
    refine mj_icmp_eq (tgt := 26) C dK_takeWaiting_21 (by decide) (fun c5 => ?_) (fun c5 => ?_)
    · have h := h.1 c5
      refine mj_aload_n C dK_takeWaiting_26 rfl ?_
      refine mj_callV_vWK C (qN_takeFirst hok h) (g_N_takeFirst l_K_169) rfl (e_Line t1) z_N_takeFirst ⟨Nat.le_of_ble_eq_true rfl, Nat.le_of_ble_eq_true rfl, rfl, rfl⟩ rfl rfl (Nat.le_of_ble_eq_true rfl) dK_takeWaiting_27 (fun k6 h => ?_)
      refine mj_iload_n C dK_takeWaiting_30 rfl ?_
      exact mj_iret C Z dK_takeWaiting_31 ⟨_, _, rfl, rfl, h⟩
    · have h := h.2 c5
      refine mj_iconst (a := (-1)) C dK_takeWaiting_24 (by decide) ?_
      exact mj_iret C Z dK_takeWaiting_25 ⟨_, _, rfl, rfl, h⟩
/-! GrantKernel.fieldC -/
def wK_fieldC (p0 : Int32)  (Q : Int32 → Prop) : Prop := Q ((p0 >>> (11 &&& 31)) &&& 7)
set_option maxRecDepth 100000 in
set_option maxHeartbeats 4000000 in
theorem qK_fieldC {E : mj_E} (hok : mj_Ok (mk_v E)) {p0 : Int32} {x : mj_X} {Q : Int32 → Prop} (h : wK_fieldC p0  Q) : mj_Ct (mk_v E) yK_fieldC (Cond.code yK_fieldC cK_fieldC 1 (some .int) :: mj_all) { frames := 0, cells := 0, slots := 0, locals := 0 } [.int p0] x (mj_iR x Q) := by
  refine mj_enterA (L := [(0, .int p0)]) hok (by decide +kernel) ⟨rfl, rfl⟩ (fun _ => Nat.le_of_ble_eq_true rfl) rfl (fun r C Z => ?_)
  unfold wK_fieldC at h
  refine mj_iload_n C dK_fieldC_0 rfl ?_
  refine mj_bipush (a := 11) C dK_fieldC_1 (by decide) ?_
  refine mj_ishr C dK_fieldC_3 ?_
  refine mj_bipush (a := 7) C dK_fieldC_4 (by decide) ?_
  refine mj_iand C dK_fieldC_6 ?_
  exact mj_iret C Z dK_fieldC_7 ⟨_, rfl, rfl, h⟩
/-! GrantKernel$Grants.derive -/
def wG_derive (p0 : Int32) (p1 : Int32) (p2 : Int32) (k : mj_St) (Q : mj_St → Prop) : Prop := vp_in p1 48 ∧ (vp_in p1 48 ∧ (vp_in p1 48 ∧ (wG_fill p0 (k 27 p1.toNatClampNeg) (k 28 p1.toNatClampNeg) ((k 29 p1.toNatClampNeg) &&& p2) p1 k (fun k1 => (Q k1)))))
set_option maxRecDepth 100000 in
set_option maxHeartbeats 4000000 in
theorem qG_derive {E : mj_E} (hok : mj_Ok (mk_v E)) {p0 : Int32} {p1 : Int32} {p2 : Int32} {k mm : mj_St} {Q : mj_St → Prop} (h : wG_derive p0 p1 p2 k Q) : mj_Ct (mk_v E) yG_derive (Cond.code yG_derive cG_derive 4 none :: mj_all) { frames := 1, cells := 0, slots := 0, locals := 25 } [.ref 26, .int p0, .int p1, .int p2] (k, mm) (mj_vK mm Q) := by
  refine mj_enterA (L := [(0, .ref 26), (1, .int p0), (2, .int p1), (3, .int p2)]) hok (by decide +kernel) ⟨rfl, rfl⟩ (fun _ => Nat.le_of_ble_eq_true rfl) rfl (fun r C Z => ?_)
  unfold wG_derive at h
  refine mj_aload_n C dG_derive_0 rfl ?_
  refine mj_iload_n C dG_derive_1 rfl ?_
  refine mj_aload_n C dG_derive_2 rfl ?_
  refine mj_getR C inG_all rfl e_Grants 0 (by decide) l_G_9 rfl dG_derive_3 ?_
  refine mj_iload_n C dG_derive_6 rfl ?_
  refine mj_iald (t0 := 0) C e_kinds rfl h.1 dG_derive_7 ?_
  have h := h.2
  refine mj_aload_n C dG_derive_8 rfl ?_
  refine mj_getR C inG_all rfl e_Grants 1 (by decide) l_G_15 rfl dG_derive_9 ?_
  refine mj_iload_n C dG_derive_12 rfl ?_
  refine mj_iald (t0 := 0) C e_objects rfl h.1 dG_derive_13 ?_
  have h := h.2
  refine mj_aload_n C dG_derive_14 rfl ?_
  refine mj_getR C inG_all rfl e_Grants 2 (by decide) l_G_18 rfl dG_derive_15 ?_
  refine mj_iload_n C dG_derive_18 rfl ?_
  refine mj_iald (t0 := 0) C e_rights rfl h.1 dG_derive_19 ?_
  have h := h.2
  refine mj_iload_n C dG_derive_20 rfl ?_
  refine mj_iand C dG_derive_21 ?_
  refine mj_iload_n C dG_derive_22 rfl ?_
  refine mj_callV_vWK C (qG_fill hok h) (g_G_fill l_G_28) rfl e_Grants z_G_fill ⟨Nat.le_of_ble_eq_true rfl, Nat.le_of_ble_eq_true rfl, rfl, rfl⟩ rfl rfl (Nat.le_of_ble_eq_true rfl) dG_derive_23 (fun k1 h => ?_)
  exact mj_vret C Z dG_derive_26 ⟨_, rfl, rfl, h⟩
/-! GrantKernel.pass -/
def wK_pass_136 (x1 : Int32) (x3 : Nat) (x4 : Nat) (y0 : Int32) (y1 : Int32) (y2 : Nat)  (k : mj_St) (Q : mj_St → Prop)  : Prop := mk_T x3 ∧ (mk_T x4 ∧ (mk_T y2 ∧ (vp_in y1 8 ∧ (∀ k22 : mj_St, k22 = mj_up k (y2 + 6) y1.toNatClampNeg y0 → (wK_opOf (k22 x3 7) (fun a23 => (((¬ a23 = 16) → Q k22) ∧ ((a23 = 16) → ∀ k25 : mj_St, k25 = mj_up k22 x4 6 x1 → (Q k25)))))))))
set_option maxRecDepth 100000 in
set_option maxHeartbeats 4000000 in
theorem uK_pass_136 {E : mj_E} {r : mj_R} {mm : mj_St} {Q : mj_St → Prop} (hok : mj_Ok (mk_v E)) (C : mj_Cx (mk_v E) r cK_pass 8 RK mj_all { frames := 2, cells := 0, slots := 0, locals := 48 }) (Z : mj_Cr (mk_v E) r none (mj_vK mm Q)) {x1 : Int32} {x3 : Nat} {x4 : Nat} {y0 : Int32} {y1 : Int32} {y2 : Nat} {k : mj_St}   (h : wK_pass_136 x1 x3 x4 y0 y1 y2 k Q) : mj_G (mk_v E) r 136 [(1, .int x1), (3, .ref x3), (4, .ref x4)] [.int y0, .int y1, .ref (y2 + 6)] (k, mm) := by
  unfold wK_pass_136 at h
  have t19 := h.1
  have h := h.2
  have t20 := h.1
  have h := h.2
  have t21 := h.1
  have h := h.2
  refine mj_iast (t0 := 0) C (e_regs t21) rfl h.1 (s_regs t21) dK_pass_136 ?_
  have h := h.2 _ rfl
  refine mj_aload_n C dK_pass_137 rfl ?_
  refine mj_getI C inT_all rfl (e_Task t19) 7 (by decide) l_K_215 rfl dK_pass_138 ?_
  refine mj_callS_iR C (qK_opOf hok h) (g_K_opOf l_K_159) z_K_opOf ⟨Nat.le_of_ble_eq_true rfl, Nat.le_of_ble_eq_true rfl, rfl, rfl⟩ rfl rfl (Nat.le_of_ble_eq_true rfl) dK_pass_141 (fun a23 h => ?_)
  refine mj_bipush (a := 16) C dK_pass_144 (by decide) ?_
  refine mj_icmp_ne (tgt := 155) C dK_pass_146 (by decide) (fun c24 => ?_) (fun c24 => ?_)
  · have h := h.1 c24
    exact mj_vret C Z dK_pass_155 ⟨_, rfl, rfl, h⟩
  · have h := h.2 c24
    refine mj_aload C dK_pass_149 rfl ?_
    refine mj_iload_n C dK_pass_151 rfl ?_
    refine mj_put C inT_all rfl tyT okT nmT (e_Task t20) 6 (by decide) l_K_121 rfl (by decide +kernel) (Nat.le_of_ble_eq_true rfl) (s_Task_6 t20) dK_pass_152 ?_
    have h := h _ rfl
    exact mj_vret C Z dK_pass_155 ⟨_, rfl, rfl, h⟩
def wK_pass_101 (x1 : Int32) (x3 : Nat) (x4 : Nat) (x7 : Int32)  (k : mj_St) (Q : mj_St → Prop)  : Prop := mk_T x3 ∧ (mk_T x4 ∧ (wK_fieldB (k x4 7) (fun a16 => (vp_in a16 8 ∧ (∀ k17 : mj_St, k17 = mj_up k (x4 + 6) a16.toNatClampNeg (k x3 8) → (((x7 = 0) → wK_pass_136 x1 x3 x4 0 7 x4 k17 Q) ∧ ((¬ x7 = 0) → wK_pass_136 x1 x3 x4 1 7 x4 k17 Q)))))))
set_option maxRecDepth 100000 in
set_option maxHeartbeats 4000000 in
theorem uK_pass_101 {E : mj_E} {r : mj_R} {mm : mj_St} {Q : mj_St → Prop} (hok : mj_Ok (mk_v E)) (C : mj_Cx (mk_v E) r cK_pass 8 RK mj_all { frames := 2, cells := 0, slots := 0, locals := 48 }) (Z : mj_Cr (mk_v E) r none (mj_vK mm Q)) {x1 : Int32} {x3 : Nat} {x4 : Nat} {x7 : Int32} {k : mj_St}   (h : wK_pass_101 x1 x3 x4 x7 k Q) : mj_G (mk_v E) r 101 [(1, .int x1), (3, .ref x3), (4, .ref x4), (7, .int x7)] [] (k, mm) := by
  unfold wK_pass_101 at h
  have t14 := h.1
  have h := h.2
  have t15 := h.1
  have h := h.2
  refine mj_aload C dK_pass_101 rfl ?_
  refine mj_getR C inT_all rfl (e_Task t15) 0 (by decide) l_K_78 rfl dK_pass_103 ?_
  refine mj_aload C dK_pass_106 rfl ?_
  refine mj_getI C inT_all rfl (e_Task t15) 7 (by decide) l_K_215 rfl dK_pass_108 ?_
  refine mj_callS_iR C (qK_fieldB hok h) (g_K_fieldB l_K_202) z_K_fieldB ⟨Nat.le_of_ble_eq_true rfl, Nat.le_of_ble_eq_true rfl, rfl, rfl⟩ rfl rfl (Nat.le_of_ble_eq_true rfl) dK_pass_111 (fun a16 h => ?_)
  refine mj_aload_n C dK_pass_114 rfl ?_
  refine mj_getI C inT_all rfl (e_Task t14) 8 (by decide) l_K_218 rfl dK_pass_115 ?_
  refine mj_iast (t0 := 0) C (e_regs t15) rfl h.1 (s_regs t15) dK_pass_118 ?_
  have h := h.2 _ rfl
  refine mj_aload C dK_pass_119 rfl ?_
  refine mj_getR C inT_all rfl (e_Task t15) 0 (by decide) l_K_78 rfl dK_pass_121 ?_
  refine mj_bipush (a := 7) C dK_pass_124 (by decide) ?_
  refine mj_iload C dK_pass_126 rfl ?_
  refine mj_if_eq (tgt := 135) C dK_pass_128 (by decide) (fun c18 => ?_) (fun c18 => ?_)
  · have h := h.1 c18
    refine mj_iconst (a := 0) C dK_pass_135 (by decide) ?_
    exact mj_sub2 (uK_pass_136 hok C Z  h) ⟨rfl, rfl, rfl, trivial⟩
  · have h := h.2 c18
    refine mj_iconst (a := 1) C dK_pass_131 (by decide) ?_
    refine mj_goto (tgt := 136) C dK_pass_132 (by decide) ?_
    exact mj_sub2 (uK_pass_136 hok C Z  h) ⟨rfl, rfl, rfl, trivial⟩
def wK_pass_81 (x1 : Int32) (x3 : Nat) (x4 : Nat) (x5 : Int32) (x6 : Int32) (y0 : Int32)  (k : mj_St) (Q : mj_St → Prop)  : Prop := mk_T x3 ∧ (mk_T x4 ∧ (((y0 = 0) → wK_pass_101 x1 x3 x4 y0 k Q) ∧ ((¬ y0 = 0) → wG_derive x6 x5 7 k (fun k26 => (wK_pass_101 x1 x3 x4 y0 k26 Q)))))
set_option maxRecDepth 100000 in
set_option maxHeartbeats 4000000 in
theorem uK_pass_81 {E : mj_E} {r : mj_R} {mm : mj_St} {Q : mj_St → Prop} (hok : mj_Ok (mk_v E)) (C : mj_Cx (mk_v E) r cK_pass 8 RK mj_all { frames := 2, cells := 0, slots := 0, locals := 48 }) (Z : mj_Cr (mk_v E) r none (mj_vK mm Q)) {x1 : Int32} {x3 : Nat} {x4 : Nat} {x5 : Int32} {x6 : Int32} {y0 : Int32} {k : mj_St}   (h : wK_pass_81 x1 x3 x4 x5 x6 y0 k Q) : mj_G (mk_v E) r 81 [(0, .ref 0), (1, .int x1), (3, .ref x3), (4, .ref x4), (5, .int x5), (6, .int x6)] [.int y0] (k, mm) := by
  unfold wK_pass_81 at h
  have t11 := h.1
  have h := h.2
  have t12 := h.1
  have h := h.2
  refine mj_istore C dK_pass_81 (by decide) rfl ?_
  refine mj_iload C dK_pass_83 rfl ?_
  refine mj_if_eq (tgt := 101) C dK_pass_85 (by decide) (fun c13 => ?_) (fun c13 => ?_)
  · have h := h.1 c13
    exact mj_sub2 (uK_pass_101 hok C Z  h) ⟨rfl, rfl, rfl, rfl, trivial⟩
  · have h := h.2 c13
    refine mj_aload_n C dK_pass_88 rfl ?_
    refine mj_getR C inK_all rfl e_GK 5 (by decide) l_K_33 rfl dK_pass_89 ?_
    refine mj_iload C dK_pass_92 rfl ?_
    refine mj_iload C dK_pass_94 rfl ?_
    refine mj_bipush (a := 7) C dK_pass_96 (by decide) ?_
    refine mj_callV_vWK C (qG_derive hok h) (g_G_derive l_K_232) rfl e_Grants z_G_derive ⟨Nat.le_of_ble_eq_true rfl, Nat.le_of_ble_eq_true rfl, rfl, rfl⟩ rfl rfl (Nat.le_of_ble_eq_true rfl) dK_pass_98 (fun k26 h => ?_)
    exact mj_sub2 (uK_pass_101 hok C Z  h) ⟨rfl, rfl, rfl, rfl, trivial⟩
def wK_pass_80 (x1 : Int32) (x3 : Nat) (x4 : Nat) (x5 : Int32) (x6 : Int32)  (k : mj_St) (Q : mj_St → Prop)  : Prop := mk_T x3 ∧ (mk_T x4 ∧ (wK_pass_81 x1 x3 x4 x5 x6 0 k Q))
set_option maxRecDepth 100000 in
set_option maxHeartbeats 4000000 in
theorem uK_pass_80 {E : mj_E} {r : mj_R} {mm : mj_St} {Q : mj_St → Prop} (hok : mj_Ok (mk_v E)) (C : mj_Cx (mk_v E) r cK_pass 8 RK mj_all { frames := 2, cells := 0, slots := 0, locals := 48 }) (Z : mj_Cr (mk_v E) r none (mj_vK mm Q)) {x1 : Int32} {x3 : Nat} {x4 : Nat} {x5 : Int32} {x6 : Int32} {k : mj_St}   (h : wK_pass_80 x1 x3 x4 x5 x6 k Q) : mj_G (mk_v E) r 80 [(0, .ref 0), (1, .int x1), (3, .ref x3), (4, .ref x4), (5, .int x5), (6, .int x6)] [] (k, mm) := by
  unfold wK_pass_80 at h
  have t9 := h.1
  have h := h.2
  have t10 := h.1
  have h := h.2
  refine mj_iconst (a := 0) C dK_pass_80 (by decide) ?_
  exact mj_sub2 (uK_pass_81 hok C Z  h) ⟨rfl, rfl, rfl, rfl, rfl, rfl, trivial⟩
def wK_pass (p0 : Int32) (p1 : Int32) (k : mj_St) (Q : mj_St → Prop) : Prop := vp_in p0 6 ∧ (vp_in p1 6 ∧ (wK_fieldC (k (3 + p0.toNatClampNeg) 7) (fun a3 => (wK_slotPlace p0 a3 (fun a4 => (wK_fieldC (k (3 + p1.toNatClampNeg) 7) (fun a5 => (wK_slotPlace p1 a5 (fun a6 => (wK_isNumberOdd (k (3 + p0.toNatClampNeg) 7) (fun a7 => (((a7 = 0) → wK_pass_80 p0 (3 + p0.toNatClampNeg) (3 + p1.toNatClampNeg) a4 a6 k Q) ∧ ((¬ a7 = 0) → wG_holds a4 k (fun a27 => (((a27 = 0) → wK_pass_80 p0 (3 + p0.toNatClampNeg) (3 + p1.toNatClampNeg) a4 a6 k Q) ∧ ((¬ a27 = 0) → wG_holds a6 k (fun a29 => (((¬ a29 = 0) → wK_pass_80 p0 (3 + p0.toNatClampNeg) (3 + p1.toNatClampNeg) a4 a6 k Q) ∧ ((a29 = 0) → wK_pass_81 p0 (3 + p0.toNatClampNeg) (3 + p1.toNatClampNeg) a4 a6 1 k Q)))))))))))))))))))
set_option maxRecDepth 100000 in
set_option maxHeartbeats 4000000 in
theorem qK_pass {E : mj_E} (hok : mj_Ok (mk_v E)) {p0 : Int32} {p1 : Int32} {k mm : mj_St} {Q : mj_St → Prop} (h : wK_pass p0 p1 k Q) : mj_Ct (mk_v E) yK_pass (Cond.code yK_pass cK_pass 8 none :: mj_all) { frames := 2, cells := 0, slots := 0, locals := 48 } [.ref 0, .int p0, .int p1] (k, mm) (mj_vK mm Q) := by
  refine mj_enterA (L := [(0, .ref 0), (1, .int p0), (2, .int p1)]) hok (by decide +kernel) ⟨rfl, rfl⟩ (fun _ => Nat.le_of_ble_eq_true rfl) rfl (fun r C Z => ?_)
  unfold wK_pass at h
  refine mj_aload_n C dK_pass_0 rfl ?_
  refine mj_getR C inK_all rfl e_GK 2 (by decide) l_K_15 rfl dK_pass_1 ?_
  refine mj_iload_n C dK_pass_4 rfl ?_
  have t1 := mk_isT h.1
  refine mj_aald (t0 := 2) C e_tasks rfl h.1 rfl dK_pass_5 ?_
  have h := h.2
  refine mj_astore_n C dK_pass_6 (by decide) rfl ?_
  refine mj_aload_n C dK_pass_7 rfl ?_
  refine mj_getR C inK_all rfl e_GK 2 (by decide) l_K_15 rfl dK_pass_8 ?_
  refine mj_iload_n C dK_pass_11 rfl ?_
  have t2 := mk_isT h.1
  refine mj_aald (t0 := 2) C e_tasks rfl h.1 rfl dK_pass_12 ?_
  have h := h.2
  refine mj_astore C dK_pass_13 (by decide) rfl ?_
  refine mj_iload_n C dK_pass_15 rfl ?_
  refine mj_aload_n C dK_pass_16 rfl ?_
  refine mj_getI C inT_all rfl (e_Task t1) 7 (by decide) l_K_215 rfl dK_pass_17 ?_
  refine mj_callS_iR C (qK_fieldC hok h) (g_K_fieldC l_K_205) z_K_fieldC ⟨Nat.le_of_ble_eq_true rfl, Nat.le_of_ble_eq_true rfl, rfl, rfl⟩ rfl rfl (Nat.le_of_ble_eq_true rfl) dK_pass_20 (fun a3 h => ?_)
  refine mj_callS_iR C (qK_slotPlace hok h) (g_K_slotPlace l_K_102) z_K_slotPlace ⟨Nat.le_of_ble_eq_true rfl, Nat.le_of_ble_eq_true rfl, rfl, rfl⟩ rfl rfl (Nat.le_of_ble_eq_true rfl) dK_pass_23 (fun a4 h => ?_)
  refine mj_istore C dK_pass_26 (by decide) rfl ?_
  refine mj_iload_n C dK_pass_28 rfl ?_
  refine mj_aload C dK_pass_29 rfl ?_
  refine mj_getI C inT_all rfl (e_Task t2) 7 (by decide) l_K_215 rfl dK_pass_31 ?_
  refine mj_callS_iR C (qK_fieldC hok h) (g_K_fieldC l_K_205) z_K_fieldC ⟨Nat.le_of_ble_eq_true rfl, Nat.le_of_ble_eq_true rfl, rfl, rfl⟩ rfl rfl (Nat.le_of_ble_eq_true rfl) dK_pass_34 (fun a5 h => ?_)
  refine mj_callS_iR C (qK_slotPlace hok h) (g_K_slotPlace l_K_102) z_K_slotPlace ⟨Nat.le_of_ble_eq_true rfl, Nat.le_of_ble_eq_true rfl, rfl, rfl⟩ rfl rfl (Nat.le_of_ble_eq_true rfl) dK_pass_37 (fun a6 h => ?_)
  refine mj_istore C dK_pass_40 (by decide) rfl ?_
  refine mj_aload_n C dK_pass_42 rfl ?_
  refine mj_getI C inT_all rfl (e_Task t1) 7 (by decide) l_K_215 rfl dK_pass_43 ?_
  refine mj_callS_iR C (qK_isNumberOdd hok h) (g_K_isNumberOdd l_K_212) z_K_isNumberOdd ⟨Nat.le_of_ble_eq_true rfl, Nat.le_of_ble_eq_true rfl, rfl, rfl⟩ rfl rfl (Nat.le_of_ble_eq_true rfl) dK_pass_46 (fun a7 h => ?_)
  refine mj_if_eq (tgt := 80) C dK_pass_49 (by decide) (fun c8 => ?_) (fun c8 => ?_)
  · have h := h.1 c8
    exact mj_sub2 (uK_pass_80 hok C Z  h) ⟨rfl, rfl, rfl, rfl, rfl, rfl, trivial⟩
  · have h := h.2 c8
    refine mj_aload_n C dK_pass_52 rfl ?_
    refine mj_getR C inK_all rfl e_GK 5 (by decide) l_K_33 rfl dK_pass_53 ?_
    refine mj_iload C dK_pass_56 rfl ?_
    refine mj_callV_iR C (qG_holds hok h) (g_G_holds l_K_84) rfl e_Grants z_G_holds ⟨Nat.le_of_ble_eq_true rfl, Nat.le_of_ble_eq_true rfl, rfl, rfl⟩ rfl rfl (Nat.le_of_ble_eq_true rfl) dK_pass_58 (fun a27 h => ?_)
    refine mj_if_eq (tgt := 80) C dK_pass_61 (by decide) (fun c28 => ?_) (fun c28 => ?_)
    · have h := h.1 c28
      exact mj_sub2 (uK_pass_80 hok C Z  h) ⟨rfl, rfl, rfl, rfl, rfl, rfl, trivial⟩
    · have h := h.2 c28
      refine mj_aload_n C dK_pass_64 rfl ?_
      refine mj_getR C inK_all rfl e_GK 5 (by decide) l_K_33 rfl dK_pass_65 ?_
      refine mj_iload C dK_pass_68 rfl ?_
      refine mj_callV_iR C (qG_holds hok h) (g_G_holds l_K_84) rfl e_Grants z_G_holds ⟨Nat.le_of_ble_eq_true rfl, Nat.le_of_ble_eq_true rfl, rfl, rfl⟩ rfl rfl (Nat.le_of_ble_eq_true rfl) dK_pass_70 (fun a29 h => ?_)
      refine mj_if_ne (tgt := 80) C dK_pass_73 (by decide) (fun c30 => ?_) (fun c30 => ?_)
      · have h := h.1 c30
        exact mj_sub2 (uK_pass_80 hok C Z  h) ⟨rfl, rfl, rfl, rfl, rfl, rfl, trivial⟩
      · have h := h.2 c30
        refine mj_iconst (a := 1) C dK_pass_76 (by decide) ?_
        refine mj_goto (tgt := 81) C dK_pass_77 (by decide) ?_
        exact mj_sub2 (uK_pass_81 hok C Z  h) ⟨rfl, rfl, rfl, rfl, rfl, rfl, trivial⟩
/-! GrantKernel.sendBy -/
def wK_sendBy_21 (x1 : Int32) (x2 : Int32) (x3 : Int32) (y0 : Int32)  (k : mj_St) (Q : Int32 → mj_St → Prop)  : Prop := wG_allows x3 1 y0 k (fun a5 => (((¬ a5 = 0) → vp_in x1 6 ∧ (∀ k8 : mj_St, k8 = mj_up k (3 + x1.toNatClampNeg) 7 x2 → (wK_fieldB x2 (fun a9 => (vp_in a9 8 ∧ (∀ k10 : mj_St, k10 = mj_up k8 (3 + x1.toNatClampNeg) 8 (k8 (3 + x1.toNatClampNeg + 6) a9.toNatClampNeg) → (wG_objectAt x3 k10 (fun a11 => (vp_in a11 4 ∧ (wK_takeWaiting (16 + a11.toNatClampNeg) 4 k10 (fun a13 k14 => (((¬ a13 = (-1)) → wK_pass x1 a13 k14 (fun k16 => (wK_makeReady a13 k16 (fun k17 => (wK_opOf x2 (fun a18 => (((¬ a18 = 16) → Q 0 k17) ∧ ((a18 = 16) → ∀ k20 : mj_St, k20 = mj_up k17 (3 + x1.toNatClampNeg) 1 3 → (Q 0 k20))))))))) ∧ ((a13 = (-1)) → ∀ k21 : mj_St, k21 = mj_up k14 (3 + x1.toNatClampNeg) 1 2 → (wN_append (16 + a11.toNatClampNeg) x1 k21 (fun k22 => (Q 0 k22)))))))))))))))) ∧ ((a5 = 0) → Q 4 k)))
set_option maxRecDepth 100000 in
set_option maxHeartbeats 4000000 in
theorem uK_sendBy_21 {E : mj_E} {r : mj_R} {mm : mj_St} {Q : Int32 → mj_St → Prop} (hok : mj_Ok (mk_v E)) (C : mj_Cx (mk_v E) r cK_sendBy 8 RK mj_all { frames := 3, cells := 0, slots := 0, locals := 75 }) (Z : mj_Cr (mk_v E) r (some .int) (mj_iK mm Q)) {x1 : Int32} {x2 : Int32} {x3 : Int32} {y0 : Int32} {k : mj_St}   (h : wK_sendBy_21 x1 x2 x3 y0 k Q) : mj_G (mk_v E) r 21 [(0, .ref 0), (1, .int x1), (2, .int x2), (3, .int x3)] [.int y0] (k, mm) := by
  unfold wK_sendBy_21 at h
  refine mj_istore C dK_sendBy_21 (by decide) rfl ?_
  refine mj_aload_n C dK_sendBy_23 rfl ?_
  refine mj_getR C inK_all rfl e_GK 5 (by decide) l_K_33 rfl dK_sendBy_24 ?_
  refine mj_iload_n C dK_sendBy_27 rfl ?_
  refine mj_iconst (a := 1) C dK_sendBy_28 (by decide) ?_
  refine mj_iload C dK_sendBy_29 rfl ?_
  refine mj_callV_iR C (qG_allows hok h) (g_G_allows l_K_208) rfl e_Grants z_G_allows ⟨Nat.le_of_ble_eq_true rfl, Nat.le_of_ble_eq_true rfl, rfl, rfl⟩ rfl rfl (Nat.le_of_ble_eq_true rfl) dK_sendBy_31 (fun a5 h => ?_)
  refine mj_if_ne (tgt := 39) C dK_sendBy_34 (by decide) (fun c6 => ?_) (fun c6 => ?_)
  · have h := h.1 c6
    refine mj_aload_n C dK_sendBy_39 rfl ?_
    refine mj_getR C inK_all rfl e_GK 2 (by decide) l_K_15 rfl dK_sendBy_40 ?_
    refine mj_iload_n C dK_sendBy_43 rfl ?_
    have t7 := mk_isT h.1
    refine mj_aald (t0 := 2) C e_tasks rfl h.1 rfl dK_sendBy_44 ?_
    have h := h.2
    refine mj_astore C dK_sendBy_45 (by decide) rfl ?_
    refine mj_aload C dK_sendBy_47 rfl ?_
    refine mj_iload_n C dK_sendBy_49 rfl ?_
    refine mj_put C inT_all rfl tyT okT nmT (e_Task t7) 7 (by decide) l_K_215 rfl (by decide +kernel) (Nat.le_of_ble_eq_true rfl) (s_Task_7 t7) dK_sendBy_50 ?_
    have h := h _ rfl
    refine mj_aload C dK_sendBy_53 rfl ?_
    refine mj_aload C dK_sendBy_55 rfl ?_
    refine mj_getR C inT_all rfl (e_Task t7) 0 (by decide) l_K_78 rfl dK_sendBy_57 ?_
    refine mj_iload_n C dK_sendBy_60 rfl ?_
    refine mj_callS_iR C (qK_fieldB hok h) (g_K_fieldB l_K_202) z_K_fieldB ⟨Nat.le_of_ble_eq_true rfl, Nat.le_of_ble_eq_true rfl, rfl, rfl⟩ rfl rfl (Nat.le_of_ble_eq_true rfl) dK_sendBy_61 (fun a9 h => ?_)
    refine mj_iald (t0 := 0) C (e_regs t7) rfl h.1 dK_sendBy_64 ?_
    have h := h.2
    refine mj_put C inT_all rfl tyT okT nmT (e_Task t7) 8 (by decide) l_K_218 rfl (by decide +kernel) (Nat.le_of_ble_eq_true rfl) (s_Task_8 t7) dK_sendBy_65 ?_
    have h := h _ rfl
    refine mj_aload_n C dK_sendBy_68 rfl ?_
    refine mj_getR C inK_all rfl e_GK 4 (by decide) l_K_26 rfl dK_sendBy_69 ?_
    refine mj_aload_n C dK_sendBy_72 rfl ?_
    refine mj_getR C inK_all rfl e_GK 5 (by decide) l_K_33 rfl dK_sendBy_73 ?_
    refine mj_iload_n C dK_sendBy_76 rfl ?_
    refine mj_callV_iR C (qG_objectAt hok h) (g_G_objectAt l_K_221) rfl e_Grants z_G_objectAt ⟨Nat.le_of_ble_eq_true rfl, Nat.le_of_ble_eq_true rfl, rfl, rfl⟩ rfl rfl (Nat.le_of_ble_eq_true rfl) dK_sendBy_77 (fun a11 h => ?_)
    have t12 := mk_isN h.1
    refine mj_aald (t0 := 3) C e_lines rfl h.1 rfl dK_sendBy_80 ?_
    have h := h.2
    refine mj_astore C dK_sendBy_81 (by decide) rfl ?_
    refine mj_aload_n C dK_sendBy_83 rfl ?_
    refine mj_aload C dK_sendBy_84 rfl ?_
    refine mj_iconst (a := 4) C dK_sendBy_86 (by decide) ?_
    refine mj_callV_iWK C (qK_takeWaiting hok h) (g_K_takeWaiting l_K_224) rfl e_GK z_K_takeWaiting ⟨Nat.le_of_ble_eq_true rfl, Nat.le_of_ble_eq_true rfl, rfl, rfl⟩ rfl rfl (Nat.le_of_ble_eq_true rfl) dK_sendBy_87 (fun a13 k14 h => ?_)
    refine mj_istore C dK_sendBy_90 (by decide) rfl ?_
    refine mj_iload C dK_sendBy_92 rfl ?_
    refine mj_iconst (a := (-1)) C dK_sendBy_94 (by decide) ?_
    refine mj_icmp_ne (tgt := 112) C dK_sendBy_95 (by decide) (fun c15 => ?_) (fun c15 => ?_)
    · have h := h.1 c15
      refine mj_aload_n C dK_sendBy_112 rfl ?_
      refine mj_iload_n C dK_sendBy_113 rfl ?_
      refine mj_iload C dK_sendBy_114 rfl ?_
      refine mj_callV_vWK C (qK_pass hok h) (g_K_pass l_K_228) rfl e_GK z_K_pass ⟨Nat.le_of_ble_eq_true rfl, Nat.le_of_ble_eq_true rfl, rfl, rfl⟩ rfl rfl (Nat.le_of_ble_eq_true rfl) dK_sendBy_116 (fun k16 h => ?_)
      refine mj_aload_n C dK_sendBy_119 rfl ?_
      refine mj_iload C dK_sendBy_120 rfl ?_
      refine mj_callV_vWK C (qK_makeReady hok h) (g_K_makeReady l_K_70) rfl e_GK z_K_makeReady ⟨Nat.le_of_ble_eq_true rfl, Nat.le_of_ble_eq_true rfl, rfl, rfl⟩ rfl rfl (Nat.le_of_ble_eq_true rfl) dK_sendBy_122 (fun k17 h => ?_)
      refine mj_iload_n C dK_sendBy_125 rfl ?_
      refine mj_callS_iR C (qK_opOf hok h) (g_K_opOf l_K_159) z_K_opOf ⟨Nat.le_of_ble_eq_true rfl, Nat.le_of_ble_eq_true rfl, rfl, rfl⟩ rfl rfl (Nat.le_of_ble_eq_true rfl) dK_sendBy_126 (fun a18 h => ?_)
      refine mj_bipush (a := 16) C dK_sendBy_129 (by decide) ?_
      refine mj_icmp_ne (tgt := 140) C dK_sendBy_131 (by decide) (fun c19 => ?_) (fun c19 => ?_)
      · have h := h.1 c19
        refine mj_iconst (a := 0) C dK_sendBy_140 (by decide) ?_
        exact mj_iret C Z dK_sendBy_141 ⟨_, _, rfl, rfl, h⟩
      · have h := h.2 c19
        refine mj_aload C dK_sendBy_134 rfl ?_
        refine mj_iconst (a := 3) C dK_sendBy_136 (by decide) ?_
        refine mj_put C inT_all rfl tyT okT nmT (e_Task t7) 1 (by decide) l_K_96 rfl (by decide +kernel) (Nat.le_of_ble_eq_true rfl) (s_Task_1 t7) dK_sendBy_137 ?_
        have h := h _ rfl
        refine mj_iconst (a := 0) C dK_sendBy_140 (by decide) ?_
        exact mj_iret C Z dK_sendBy_141 ⟨_, _, rfl, rfl, h⟩
    · have h := h.2 c15
      refine mj_aload C dK_sendBy_98 rfl ?_
      refine mj_iconst (a := 2) C dK_sendBy_100 (by decide) ?_
      refine mj_put C inT_all rfl tyT okT nmT (e_Task t7) 1 (by decide) l_K_96 rfl (by decide +kernel) (Nat.le_of_ble_eq_true rfl) (s_Task_1 t7) dK_sendBy_101 ?_
      have h := h _ rfl
      refine mj_aload C dK_sendBy_104 rfl ?_
      refine mj_iload_n C dK_sendBy_106 rfl ?_
      refine mj_callV_vWK C (qN_append hok h) (g_N_append l_K_139) rfl (e_Line t12) z_N_append ⟨Nat.le_of_ble_eq_true rfl, Nat.le_of_ble_eq_true rfl, rfl, rfl⟩ rfl rfl (Nat.le_of_ble_eq_true rfl) dK_sendBy_107 (fun k22 h => ?_)
      refine mj_iconst (a := 0) C dK_sendBy_110 (by decide) ?_
      exact mj_iret C Z dK_sendBy_111 ⟨_, _, rfl, rfl, h⟩
  · have h := h.2 c6
    refine mj_iconst (a := 4) C dK_sendBy_37 (by decide) ?_
    exact mj_iret C Z dK_sendBy_38 ⟨_, _, rfl, rfl, h⟩
def wK_sendBy (p0 : Int32) (p1 : Int32) (k : mj_St) (Q : Int32 → mj_St → Prop) : Prop := wK_fieldA p1 (fun a1 => (wK_slotPlace p0 a1 (fun a2 => (wK_isNumberOdd p1 (fun a3 => (((a3 = 0) → wK_sendBy_21 p0 p1 a2 1 k Q) ∧ ((¬ a3 = 0) → wK_sendBy_21 p0 p1 a2 5 k Q)))))))
set_option maxRecDepth 100000 in
set_option maxHeartbeats 4000000 in
theorem qK_sendBy {E : mj_E} (hok : mj_Ok (mk_v E)) {p0 : Int32} {p1 : Int32} {k mm : mj_St} {Q : Int32 → mj_St → Prop} (h : wK_sendBy p0 p1 k Q) : mj_Ct (mk_v E) yK_sendBy (Cond.code yK_sendBy cK_sendBy 8 (some .int) :: mj_all) { frames := 3, cells := 0, slots := 0, locals := 75 } [.ref 0, .int p0, .int p1] (k, mm) (mj_iK mm Q) := by
  refine mj_enterA (L := [(0, .ref 0), (1, .int p0), (2, .int p1)]) hok (by decide +kernel) ⟨rfl, rfl⟩ (fun _ => Nat.le_of_ble_eq_true rfl) rfl (fun r C Z => ?_)
  unfold wK_sendBy at h
  refine mj_iload_n C dK_sendBy_0 rfl ?_
  refine mj_iload_n C dK_sendBy_1 rfl ?_
  refine mj_callS_iR C (qK_fieldA hok h) (g_K_fieldA l_K_172) z_K_fieldA ⟨Nat.le_of_ble_eq_true rfl, Nat.le_of_ble_eq_true rfl, rfl, rfl⟩ rfl rfl (Nat.le_of_ble_eq_true rfl) dK_sendBy_2 (fun a1 h => ?_)
  refine mj_callS_iR C (qK_slotPlace hok h) (g_K_slotPlace l_K_102) z_K_slotPlace ⟨Nat.le_of_ble_eq_true rfl, Nat.le_of_ble_eq_true rfl, rfl, rfl⟩ rfl rfl (Nat.le_of_ble_eq_true rfl) dK_sendBy_5 (fun a2 h => ?_)
  refine mj_istore_n C dK_sendBy_8 (by decide) rfl ?_
  refine mj_iload_n C dK_sendBy_9 rfl ?_
  refine mj_callS_iR C (qK_isNumberOdd hok h) (g_K_isNumberOdd l_K_212) z_K_isNumberOdd ⟨Nat.le_of_ble_eq_true rfl, Nat.le_of_ble_eq_true rfl, rfl, rfl⟩ rfl rfl (Nat.le_of_ble_eq_true rfl) dK_sendBy_10 (fun a3 h => ?_)
  refine mj_if_eq (tgt := 20) C dK_sendBy_13 (by decide) (fun c4 => ?_) (fun c4 => ?_)
  · have h := h.1 c4
    refine mj_iconst (a := 1) C dK_sendBy_20 (by decide) ?_
    exact mj_sub2 (uK_sendBy_21 hok C Z  h) ⟨rfl, rfl, rfl, rfl, trivial⟩
  · have h := h.2 c4
    refine mj_iconst (a := 5) C dK_sendBy_16 (by decide) ?_
    refine mj_goto (tgt := 21) C dK_sendBy_17 (by decide) ?_
    exact mj_sub2 (uK_sendBy_21 hok C Z  h) ⟨rfl, rfl, rfl, rfl, trivial⟩
/-! GrantKernel.receiveBy -/
def wK_receiveBy (p0 : Int32) (p1 : Int32) (k : mj_St) (Q : Int32 → mj_St → Prop) : Prop := wK_fieldA p1 (fun a1 => (wK_slotPlace p0 a1 (fun a2 => (wG_allows a2 1 2 k (fun a3 => (((¬ a3 = 0) → vp_in p0 6 ∧ (∀ k6 : mj_St, k6 = mj_up k (3 + p0.toNatClampNeg) 7 p1 → (wG_objectAt a2 k6 (fun a7 => (vp_in a7 4 ∧ (wK_takeWaiting (16 + a7.toNatClampNeg) 2 k6 (fun a9 k10 => (((¬ a9 = (-1)) → wK_pass a9 p0 k10 (fun k12 => (vp_in a9 6 ∧ (wK_opOf (k12 (3 + a9.toNatClampNeg) 7) (fun a14 => (((¬ a14 = 16) → wK_makeReady a9 k12 (fun k16 => (Q 0 k16))) ∧ ((a14 = 16) → vp_in a9 6 ∧ (∀ k18 : mj_St, k18 = mj_up k12 (3 + a9.toNatClampNeg) 1 3 → (Q 0 k18))))))))) ∧ ((a9 = (-1)) → ∀ k19 : mj_St, k19 = mj_up k10 (3 + p0.toNatClampNeg) 1 4 → (wN_append (16 + a7.toNatClampNeg) p0 k19 (fun k20 => (Q 0 k20)))))))))))) ∧ ((a3 = 0) → Q 4 k)))))))
set_option maxRecDepth 100000 in
set_option maxHeartbeats 4000000 in
theorem qK_receiveBy {E : mj_E} (hok : mj_Ok (mk_v E)) {p0 : Int32} {p1 : Int32} {k mm : mj_St} {Q : Int32 → mj_St → Prop} (h : wK_receiveBy p0 p1 k Q) : mj_Ct (mk_v E) yK_receiveBy (Cond.code yK_receiveBy cK_receiveBy 7 (some .int) :: mj_all) { frames := 3, cells := 0, slots := 0, locals := 75 } [.ref 0, .int p0, .int p1] (k, mm) (mj_iK mm Q) := by
  refine mj_enterA (L := [(0, .ref 0), (1, .int p0), (2, .int p1)]) hok (by decide +kernel) ⟨rfl, rfl⟩ (fun _ => Nat.le_of_ble_eq_true rfl) rfl (fun r C Z => ?_)
  unfold wK_receiveBy at h
  refine mj_iload_n C dK_receiveBy_0 rfl ?_
  refine mj_iload_n C dK_receiveBy_1 rfl ?_
  refine mj_callS_iR C (qK_fieldA hok h) (g_K_fieldA l_K_172) z_K_fieldA ⟨Nat.le_of_ble_eq_true rfl, Nat.le_of_ble_eq_true rfl, rfl, rfl⟩ rfl rfl (Nat.le_of_ble_eq_true rfl) dK_receiveBy_2 (fun a1 h => ?_)
  refine mj_callS_iR C (qK_slotPlace hok h) (g_K_slotPlace l_K_102) z_K_slotPlace ⟨Nat.le_of_ble_eq_true rfl, Nat.le_of_ble_eq_true rfl, rfl, rfl⟩ rfl rfl (Nat.le_of_ble_eq_true rfl) dK_receiveBy_5 (fun a2 h => ?_)
  refine mj_istore_n C dK_receiveBy_8 (by decide) rfl ?_
  refine mj_aload_n C dK_receiveBy_9 rfl ?_
  refine mj_getR C inK_all rfl e_GK 5 (by decide) l_K_33 rfl dK_receiveBy_10 ?_
  refine mj_iload_n C dK_receiveBy_13 rfl ?_
  refine mj_iconst (a := 1) C dK_receiveBy_14 (by decide) ?_
  refine mj_iconst (a := 2) C dK_receiveBy_15 (by decide) ?_
  refine mj_callV_iR C (qG_allows hok h) (g_G_allows l_K_208) rfl e_Grants z_G_allows ⟨Nat.le_of_ble_eq_true rfl, Nat.le_of_ble_eq_true rfl, rfl, rfl⟩ rfl rfl (Nat.le_of_ble_eq_true rfl) dK_receiveBy_16 (fun a3 h => ?_)
  refine mj_if_ne (tgt := 24) C dK_receiveBy_19 (by decide) (fun c4 => ?_) (fun c4 => ?_)
  · have h := h.1 c4
    refine mj_aload_n C dK_receiveBy_24 rfl ?_
    refine mj_getR C inK_all rfl e_GK 2 (by decide) l_K_15 rfl dK_receiveBy_25 ?_
    refine mj_iload_n C dK_receiveBy_28 rfl ?_
    have t5 := mk_isT h.1
    refine mj_aald (t0 := 2) C e_tasks rfl h.1 rfl dK_receiveBy_29 ?_
    have h := h.2
    refine mj_astore C dK_receiveBy_30 (by decide) rfl ?_
    refine mj_aload C dK_receiveBy_32 rfl ?_
    refine mj_iload_n C dK_receiveBy_34 rfl ?_
    refine mj_put C inT_all rfl tyT okT nmT (e_Task t5) 7 (by decide) l_K_215 rfl (by decide +kernel) (Nat.le_of_ble_eq_true rfl) (s_Task_7 t5) dK_receiveBy_35 ?_
    have h := h _ rfl
    refine mj_aload_n C dK_receiveBy_38 rfl ?_
    refine mj_getR C inK_all rfl e_GK 4 (by decide) l_K_26 rfl dK_receiveBy_39 ?_
    refine mj_aload_n C dK_receiveBy_42 rfl ?_
    refine mj_getR C inK_all rfl e_GK 5 (by decide) l_K_33 rfl dK_receiveBy_43 ?_
    refine mj_iload_n C dK_receiveBy_46 rfl ?_
    refine mj_callV_iR C (qG_objectAt hok h) (g_G_objectAt l_K_221) rfl e_Grants z_G_objectAt ⟨Nat.le_of_ble_eq_true rfl, Nat.le_of_ble_eq_true rfl, rfl, rfl⟩ rfl rfl (Nat.le_of_ble_eq_true rfl) dK_receiveBy_47 (fun a7 h => ?_)
    have t8 := mk_isN h.1
    refine mj_aald (t0 := 3) C e_lines rfl h.1 rfl dK_receiveBy_50 ?_
    have h := h.2
    refine mj_astore C dK_receiveBy_51 (by decide) rfl ?_
    refine mj_aload_n C dK_receiveBy_53 rfl ?_
    refine mj_aload C dK_receiveBy_54 rfl ?_
    refine mj_iconst (a := 2) C dK_receiveBy_56 (by decide) ?_
    refine mj_callV_iWK C (qK_takeWaiting hok h) (g_K_takeWaiting l_K_224) rfl e_GK z_K_takeWaiting ⟨Nat.le_of_ble_eq_true rfl, Nat.le_of_ble_eq_true rfl, rfl, rfl⟩ rfl rfl (Nat.le_of_ble_eq_true rfl) dK_receiveBy_57 (fun a9 k10 h => ?_)
    refine mj_istore C dK_receiveBy_60 (by decide) rfl ?_
    refine mj_iload C dK_receiveBy_62 rfl ?_
    refine mj_iconst (a := (-1)) C dK_receiveBy_64 (by decide) ?_
    refine mj_icmp_ne (tgt := 82) C dK_receiveBy_65 (by decide) (fun c11 => ?_) (fun c11 => ?_)
    · have h := h.1 c11
      refine mj_aload_n C dK_receiveBy_82 rfl ?_
      refine mj_iload C dK_receiveBy_83 rfl ?_
      refine mj_iload_n C dK_receiveBy_85 rfl ?_
      refine mj_callV_vWK C (qK_pass hok h) (g_K_pass l_K_228) rfl e_GK z_K_pass ⟨Nat.le_of_ble_eq_true rfl, Nat.le_of_ble_eq_true rfl, rfl, rfl⟩ rfl rfl (Nat.le_of_ble_eq_true rfl) dK_receiveBy_86 (fun k12 h => ?_)
      refine mj_aload_n C dK_receiveBy_89 rfl ?_
      refine mj_getR C inK_all rfl e_GK 2 (by decide) l_K_15 rfl dK_receiveBy_90 ?_
      refine mj_iload C dK_receiveBy_93 rfl ?_
      have t13 := mk_isT h.1
      refine mj_aald (t0 := 2) C e_tasks rfl h.1 rfl dK_receiveBy_95 ?_
      have h := h.2
      refine mj_getI C inT_all rfl (e_Task t13) 7 (by decide) l_K_215 rfl dK_receiveBy_96 ?_
      refine mj_callS_iR C (qK_opOf hok h) (g_K_opOf l_K_159) z_K_opOf ⟨Nat.le_of_ble_eq_true rfl, Nat.le_of_ble_eq_true rfl, rfl, rfl⟩ rfl rfl (Nat.le_of_ble_eq_true rfl) dK_receiveBy_99 (fun a14 h => ?_)
      refine mj_bipush (a := 16) C dK_receiveBy_102 (by decide) ?_
      refine mj_icmp_ne (tgt := 121) C dK_receiveBy_104 (by decide) (fun c15 => ?_) (fun c15 => ?_)
      · have h := h.1 c15
        refine mj_aload_n C dK_receiveBy_121 rfl ?_
        refine mj_iload C dK_receiveBy_122 rfl ?_
        refine mj_callV_vWK C (qK_makeReady hok h) (g_K_makeReady l_K_70) rfl e_GK z_K_makeReady ⟨Nat.le_of_ble_eq_true rfl, Nat.le_of_ble_eq_true rfl, rfl, rfl⟩ rfl rfl (Nat.le_of_ble_eq_true rfl) dK_receiveBy_124 (fun k16 h => ?_)
        refine mj_iconst (a := 0) C dK_receiveBy_127 (by decide) ?_
        exact mj_iret C Z dK_receiveBy_128 ⟨_, _, rfl, rfl, h⟩
      · have h := h.2 c15
        refine mj_aload_n C dK_receiveBy_107 rfl ?_
        refine mj_getR C inK_all rfl e_GK 2 (by decide) l_K_15 rfl dK_receiveBy_108 ?_
        refine mj_iload C dK_receiveBy_111 rfl ?_
        have t17 := mk_isT h.1
        refine mj_aald (t0 := 2) C e_tasks rfl h.1 rfl dK_receiveBy_113 ?_
        have h := h.2
        refine mj_iconst (a := 3) C dK_receiveBy_114 (by decide) ?_
        refine mj_put C inT_all rfl tyT okT nmT (e_Task t17) 1 (by decide) l_K_96 rfl (by decide +kernel) (Nat.le_of_ble_eq_true rfl) (s_Task_1 t17) dK_receiveBy_115 ?_
        have h := h _ rfl
        refine mj_goto (tgt := 127) C dK_receiveBy_118 (by decide) ?_
        refine mj_iconst (a := 0) C dK_receiveBy_127 (by decide) ?_
        exact mj_iret C Z dK_receiveBy_128 ⟨_, _, rfl, rfl, h⟩
    · have h := h.2 c11
      refine mj_aload C dK_receiveBy_68 rfl ?_
      refine mj_iconst (a := 4) C dK_receiveBy_70 (by decide) ?_
      refine mj_put C inT_all rfl tyT okT nmT (e_Task t5) 1 (by decide) l_K_96 rfl (by decide +kernel) (Nat.le_of_ble_eq_true rfl) (s_Task_1 t5) dK_receiveBy_71 ?_
      have h := h _ rfl
      refine mj_aload C dK_receiveBy_74 rfl ?_
      refine mj_iload_n C dK_receiveBy_76 rfl ?_
      refine mj_callV_vWK C (qN_append hok h) (g_N_append l_K_139) rfl (e_Line t8) z_N_append ⟨Nat.le_of_ble_eq_true rfl, Nat.le_of_ble_eq_true rfl, rfl, rfl⟩ rfl rfl (Nat.le_of_ble_eq_true rfl) dK_receiveBy_77 (fun k20 h => ?_)
      refine mj_iconst (a := 0) C dK_receiveBy_80 (by decide) ?_
      exact mj_iret C Z dK_receiveBy_81 ⟨_, _, rfl, rfl, h⟩
  · have h := h.2 c4
    refine mj_iconst (a := 4) C dK_receiveBy_22 (by decide) ?_
    exact mj_iret C Z dK_receiveBy_23 ⟨_, _, rfl, rfl, h⟩
/-! GrantKernel.answerCaller -/
def wK_answerCaller (p0 : Nat) (p1 : Int32) (k : mj_St) (Q : Int32 → mj_St → Prop) : Prop := mk_T p0 ∧ (∀ a2 : Int32, a2 = k p0 6 → (((a2 = (-1)) → Q 0 k) ∧ ((¬ a2 = (-1)) → vp_in a2 6 ∧ (wK_fieldB (k (3 + a2.toNatClampNeg) 7) (fun a5 => (wK_fieldB p1 (fun a6 => (vp_in a6 8 ∧ (vp_in a5 8 ∧ (∀ k7 : mj_St, k7 = mj_up k (3 + a2.toNatClampNeg + 6) a5.toNatClampNeg (k (p0 + 6) a6.toNatClampNeg) → (wK_makeReady a2 k7 (fun k8 => (∀ k9 : mj_St, k9 = mj_up k8 p0 6 (-1) → (Q 0 k9))))))))))))))
set_option maxRecDepth 100000 in
set_option maxHeartbeats 4000000 in
theorem qK_answerCaller {E : mj_E} (hok : mj_Ok (mk_v E)) {p0 : Nat} {p1 : Int32} {k mm : mj_St} {Q : Int32 → mj_St → Prop} (h : wK_answerCaller p0 p1 k Q) : mj_Ct (mk_v E) yK_answerCaller (Cond.code yK_answerCaller cK_answerCaller 5 (some .int) :: mj_all) { frames := 2, cells := 0, slots := 0, locals := 42 } [.ref 0, .ref p0, .int p1] (k, mm) (mj_iK mm Q) := by
  refine mj_enterA (L := [(0, .ref 0), (1, .ref p0), (2, .int p1)]) hok (by decide +kernel) ⟨rfl, rfl⟩ (fun _ => Nat.le_of_ble_eq_true rfl) rfl (fun r C Z => ?_)
  unfold wK_answerCaller at h
  have t1 := h.1
  have h := h.2
  refine mj_aload_n C dK_answerCaller_0 rfl ?_
  refine mj_getI C inT_all rfl (e_Task t1) 6 (by decide) l_K_121 rfl dK_answerCaller_1 ?_
  refine mj_istore_n C dK_answerCaller_4 (by decide) rfl ?_
  have h := h _ rfl
  refine mj_iload_n C dK_answerCaller_5 rfl ?_
  refine mj_iconst (a := (-1)) C dK_answerCaller_6 (by decide) ?_
  refine mj_icmp_eq (tgt := 51) C dK_answerCaller_7 (by decide) (fun c3 => ?_) (fun c3 => ?_)
  · have h := h.1 c3
    refine mj_iconst (a := 0) C dK_answerCaller_51 (by decide) ?_
    exact mj_iret C Z dK_answerCaller_52 ⟨_, _, rfl, rfl, h⟩
  · have h := h.2 c3
    refine mj_aload_n C dK_answerCaller_10 rfl ?_
    refine mj_getR C inK_all rfl e_GK 2 (by decide) l_K_15 rfl dK_answerCaller_11 ?_
    refine mj_iload_n C dK_answerCaller_14 rfl ?_
    have t4 := mk_isT h.1
    refine mj_aald (t0 := 2) C e_tasks rfl h.1 rfl dK_answerCaller_15 ?_
    have h := h.2
    refine mj_astore C dK_answerCaller_16 (by decide) rfl ?_
    refine mj_aload C dK_answerCaller_18 rfl ?_
    refine mj_getR C inT_all rfl (e_Task t4) 0 (by decide) l_K_78 rfl dK_answerCaller_20 ?_
    refine mj_aload C dK_answerCaller_23 rfl ?_
    refine mj_getI C inT_all rfl (e_Task t4) 7 (by decide) l_K_215 rfl dK_answerCaller_25 ?_
    refine mj_callS_iR C (qK_fieldB hok h) (g_K_fieldB l_K_202) z_K_fieldB ⟨Nat.le_of_ble_eq_true rfl, Nat.le_of_ble_eq_true rfl, rfl, rfl⟩ rfl rfl (Nat.le_of_ble_eq_true rfl) dK_answerCaller_28 (fun a5 h => ?_)
    refine mj_aload_n C dK_answerCaller_31 rfl ?_
    refine mj_getR C inT_all rfl (e_Task t1) 0 (by decide) l_K_78 rfl dK_answerCaller_32 ?_
    refine mj_iload_n C dK_answerCaller_35 rfl ?_
    refine mj_callS_iR C (qK_fieldB hok h) (g_K_fieldB l_K_202) z_K_fieldB ⟨Nat.le_of_ble_eq_true rfl, Nat.le_of_ble_eq_true rfl, rfl, rfl⟩ rfl rfl (Nat.le_of_ble_eq_true rfl) dK_answerCaller_36 (fun a6 h => ?_)
    refine mj_iald (t0 := 0) C (e_regs t1) rfl h.1 dK_answerCaller_39 ?_
    have h := h.2
    refine mj_iast (t0 := 0) C (e_regs t4) rfl h.1 (s_regs t4) dK_answerCaller_40 ?_
    have h := h.2 _ rfl
    refine mj_aload_n C dK_answerCaller_41 rfl ?_
    refine mj_iload_n C dK_answerCaller_42 rfl ?_
    refine mj_callV_vWK C (qK_makeReady hok h) (g_K_makeReady l_K_70) rfl e_GK z_K_makeReady ⟨Nat.le_of_ble_eq_true rfl, Nat.le_of_ble_eq_true rfl, rfl, rfl⟩ rfl rfl (Nat.le_of_ble_eq_true rfl) dK_answerCaller_43 (fun k8 h => ?_)
    refine mj_aload_n C dK_answerCaller_46 rfl ?_
    refine mj_iconst (a := (-1)) C dK_answerCaller_47 (by decide) ?_
    refine mj_put C inT_all rfl tyT okT nmT (e_Task t1) 6 (by decide) l_K_121 rfl (by decide +kernel) (Nat.le_of_ble_eq_true rfl) (s_Task_6 t1) dK_answerCaller_48 ?_
    have h := h _ rfl
    refine mj_iconst (a := 0) C dK_answerCaller_51 (by decide) ?_
    exact mj_iret C Z dK_answerCaller_52 ⟨_, _, rfl, rfl, h⟩
/-! GrantKernel.mintInto -/
def wK_mintInto (p0 : Int32) (p1 : Int32) (k : mj_St) (Q : Int32 → mj_St → Prop) : Prop := wK_fieldA p1 (fun a1 => (wK_slotPlace p0 a1 (fun a2 => (wK_fieldB p1 (fun a3 => (wK_slotPlace p0 a3 (fun a4 => (wG_holds a2 k (fun a5 => (((¬ a5 = 0) → wG_holds a4 k (fun a7 => (((a7 = 0) → wK_numberOf p1 (fun a9 => (wG_derive a4 a2 a9 k (fun k10 => (Q 0 k10))))) ∧ ((¬ a7 = 0) → Q 5 k)))) ∧ ((a5 = 0) → Q 4 k)))))))))))
set_option maxRecDepth 100000 in
set_option maxHeartbeats 4000000 in
theorem qK_mintInto {E : mj_E} (hok : mj_Ok (mk_v E)) {p0 : Int32} {p1 : Int32} {k mm : mj_St} {Q : Int32 → mj_St → Prop} (h : wK_mintInto p0 p1 k Q) : mj_Ct (mk_v E) yK_mintInto (Cond.code yK_mintInto cK_mintInto 5 (some .int) :: mj_all) { frames := 2, cells := 0, slots := 0, locals := 48 } [.ref 0, .int p0, .int p1] (k, mm) (mj_iK mm Q) := by
  refine mj_enterA (L := [(0, .ref 0), (1, .int p0), (2, .int p1)]) hok (by decide +kernel) ⟨rfl, rfl⟩ (fun _ => Nat.le_of_ble_eq_true rfl) rfl (fun r C Z => ?_)
  unfold wK_mintInto at h
  refine mj_iload_n C dK_mintInto_0 rfl ?_
  refine mj_iload_n C dK_mintInto_1 rfl ?_
  refine mj_callS_iR C (qK_fieldA hok h) (g_K_fieldA l_K_172) z_K_fieldA ⟨Nat.le_of_ble_eq_true rfl, Nat.le_of_ble_eq_true rfl, rfl, rfl⟩ rfl rfl (Nat.le_of_ble_eq_true rfl) dK_mintInto_2 (fun a1 h => ?_)
  refine mj_callS_iR C (qK_slotPlace hok h) (g_K_slotPlace l_K_102) z_K_slotPlace ⟨Nat.le_of_ble_eq_true rfl, Nat.le_of_ble_eq_true rfl, rfl, rfl⟩ rfl rfl (Nat.le_of_ble_eq_true rfl) dK_mintInto_5 (fun a2 h => ?_)
  refine mj_istore_n C dK_mintInto_8 (by decide) rfl ?_
  refine mj_iload_n C dK_mintInto_9 rfl ?_
  refine mj_iload_n C dK_mintInto_10 rfl ?_
  refine mj_callS_iR C (qK_fieldB hok h) (g_K_fieldB l_K_202) z_K_fieldB ⟨Nat.le_of_ble_eq_true rfl, Nat.le_of_ble_eq_true rfl, rfl, rfl⟩ rfl rfl (Nat.le_of_ble_eq_true rfl) dK_mintInto_11 (fun a3 h => ?_)
  refine mj_callS_iR C (qK_slotPlace hok h) (g_K_slotPlace l_K_102) z_K_slotPlace ⟨Nat.le_of_ble_eq_true rfl, Nat.le_of_ble_eq_true rfl, rfl, rfl⟩ rfl rfl (Nat.le_of_ble_eq_true rfl) dK_mintInto_14 (fun a4 h => ?_)
  refine mj_istore C dK_mintInto_17 (by decide) rfl ?_
  refine mj_aload_n C dK_mintInto_19 rfl ?_
  refine mj_getR C inK_all rfl e_GK 5 (by decide) l_K_33 rfl dK_mintInto_20 ?_
  refine mj_iload_n C dK_mintInto_23 rfl ?_
  refine mj_callV_iR C (qG_holds hok h) (g_G_holds l_K_84) rfl e_Grants z_G_holds ⟨Nat.le_of_ble_eq_true rfl, Nat.le_of_ble_eq_true rfl, rfl, rfl⟩ rfl rfl (Nat.le_of_ble_eq_true rfl) dK_mintInto_24 (fun a5 h => ?_)
  refine mj_if_ne (tgt := 32) C dK_mintInto_27 (by decide) (fun c6 => ?_) (fun c6 => ?_)
  · have h := h.1 c6
    refine mj_aload_n C dK_mintInto_32 rfl ?_
    refine mj_getR C inK_all rfl e_GK 5 (by decide) l_K_33 rfl dK_mintInto_33 ?_
    refine mj_iload C dK_mintInto_36 rfl ?_
    refine mj_callV_iR C (qG_holds hok h) (g_G_holds l_K_84) rfl e_Grants z_G_holds ⟨Nat.le_of_ble_eq_true rfl, Nat.le_of_ble_eq_true rfl, rfl, rfl⟩ rfl rfl (Nat.le_of_ble_eq_true rfl) dK_mintInto_38 (fun a7 h => ?_)
    refine mj_if_eq (tgt := 46) C dK_mintInto_41 (by decide) (fun c8 => ?_) (fun c8 => ?_)
    · have h := h.1 c8
      refine mj_aload_n C dK_mintInto_46 rfl ?_
      refine mj_getR C inK_all rfl e_GK 5 (by decide) l_K_33 rfl dK_mintInto_47 ?_
      refine mj_iload C dK_mintInto_50 rfl ?_
      refine mj_iload_n C dK_mintInto_52 rfl ?_
      refine mj_iload_n C dK_mintInto_53 rfl ?_
      refine mj_callS_iR C (qK_numberOf hok h) (g_K_numberOf l_K_136) z_K_numberOf ⟨Nat.le_of_ble_eq_true rfl, Nat.le_of_ble_eq_true rfl, rfl, rfl⟩ rfl rfl (Nat.le_of_ble_eq_true rfl) dK_mintInto_54 (fun a9 h => ?_)
      refine mj_callV_vWK C (qG_derive hok h) (g_G_derive l_K_232) rfl e_Grants z_G_derive ⟨Nat.le_of_ble_eq_true rfl, Nat.le_of_ble_eq_true rfl, rfl, rfl⟩ rfl rfl (Nat.le_of_ble_eq_true rfl) dK_mintInto_57 (fun k10 h => ?_)
      refine mj_iconst (a := 0) C dK_mintInto_60 (by decide) ?_
      exact mj_iret C Z dK_mintInto_61 ⟨_, _, rfl, rfl, h⟩
    · have h := h.2 c8
      refine mj_iconst (a := 5) C dK_mintInto_44 (by decide) ?_
      exact mj_iret C Z dK_mintInto_45 ⟨_, _, rfl, rfl, h⟩
  · have h := h.2 c6
    refine mj_iconst (a := 4) C dK_mintInto_30 (by decide) ?_
    exact mj_iret C Z dK_mintInto_31 ⟨_, _, rfl, rfl, h⟩
/-! GrantKernel$Grants.isBelow -/
def wG_isBelow_22 (n : Nat) (x2 : Int32) (x3 : Int32) (x4 : Int32) (k : mj_St)  (Q : Int32 → Prop)  : Prop := match n with
  | 0 => False
  | n + 1 => ((48 ≤ x4) → Q 0) ∧ ((¬ 48 ≤ x4) → ((x3 = (-1)) → Q 0) ∧ ((¬ x3 = (-1)) → ((¬ x3 = x2) → vp_in x3 48 ∧ (∀ a6 : Int32, a6 = k 30 x3.toNatClampNeg → (∀ a7 : Int32, a7 = x4 + 1 → (wG_isBelow_22 n x2 a6 a7 k Q)))) ∧ ((x3 = x2) → Q 1)))
set_option maxRecDepth 100000 in
set_option maxHeartbeats 4000000 in
theorem uG_isBelow_22 {E : mj_E} {r : mj_R} {mm : mj_St} {k : mj_St} {Q : Int32 → Prop} (hok : mj_Ok (mk_v E)) (C : mj_Cx (mk_v E) r cG_isBelow 5 RG mj_all { frames := 1, cells := 0, slots := 0, locals := 21 }) (Z : mj_Cr (mk_v E) r (some .boolean) (mj_iR (k, mm) Q))   : ∀ (n : Nat) (x2 : Int32) (x3 : Int32) (x4 : Int32) , wG_isBelow_22 n x2 x3 x4 k Q → mj_G (mk_v E) r 22 [(0, .ref 26), (2, .int x2), (3, .int x3), (4, .int x4)] [] (k, mm) := by
  intro n
  induction n with
  | zero => intro x2 x3 x4 h; exact False.elim h
  | succ n ih =>
    intro x2 x3 x4 h
    rw [wG_isBelow_22] at h
    refine mj_iload C dG_isBelow_22 rfl ?_
    refine mj_bipush (a := 48) C dG_isBelow_24 (by decide) ?_
    refine mj_icmp_ge (tgt := 54) C dG_isBelow_26 (by decide) (fun c3 => ?_) (fun c3 => ?_)
    · have h := h.1 c3
      refine mj_iconst (a := 0) C dG_isBelow_54 (by decide) ?_
      exact mj_zret C Z (Or.inl rfl) dG_isBelow_55 ⟨_, rfl, rfl, h⟩
    · have h := h.2 c3
      refine mj_iload_n C dG_isBelow_29 rfl ?_
      refine mj_iconst (a := (-1)) C dG_isBelow_30 (by decide) ?_
      refine mj_icmp_eq (tgt := 54) C dG_isBelow_31 (by decide) (fun c4 => ?_) (fun c4 => ?_)
      · have h := h.1 c4
        refine mj_iconst (a := 0) C dG_isBelow_54 (by decide) ?_
        exact mj_zret C Z (Or.inl rfl) dG_isBelow_55 ⟨_, rfl, rfl, h⟩
      · have h := h.2 c4
        refine mj_iload_n C dG_isBelow_34 rfl ?_
        refine mj_iload_n C dG_isBelow_35 rfl ?_
        refine mj_icmp_ne (tgt := 41) C dG_isBelow_36 (by decide) (fun c5 => ?_) (fun c5 => ?_)
        · have h := h.1 c5
          refine mj_aload_n C dG_isBelow_41 rfl ?_
          refine mj_getR C inG_all rfl e_Grants 3 (by decide) l_G_21 rfl dG_isBelow_42 ?_
          refine mj_iload_n C dG_isBelow_45 rfl ?_
          refine mj_iald (t0 := 0) C e_parents rfl h.1 dG_isBelow_46 ?_
          have h := h.2
          refine mj_istore_n C dG_isBelow_47 (by decide) rfl ?_
          have h := h _ rfl
          refine mj_iinc (b := 1) C dG_isBelow_48 rfl (by decide) (by decide) rfl ?_
          have h := h _ rfl
          refine mj_goto (tgt := 22) C dG_isBelow_51 (by decide) ?_
          exact mj_sub2 (ih _ _ _ h) ⟨rfl, rfl, rfl, rfl, trivial⟩
        · have h := h.2 c5
          refine mj_iconst (a := 1) C dG_isBelow_39 (by decide) ?_
          exact mj_zret C Z (Or.inr rfl) dG_isBelow_40 ⟨_, rfl, rfl, h⟩
def wG_isBelow_18 (x2 : Int32) (y0 : Int32) (k : mj_St)  (Q : Int32 → Prop)  : Prop := (∃ e22, wG_isBelow_22 e22 x2 y0 0 k Q)
set_option maxRecDepth 100000 in
set_option maxHeartbeats 4000000 in
theorem uG_isBelow_18 {E : mj_E} {r : mj_R} {mm : mj_St} {k : mj_St} {Q : Int32 → Prop} (hok : mj_Ok (mk_v E)) (C : mj_Cx (mk_v E) r cG_isBelow 5 RG mj_all { frames := 1, cells := 0, slots := 0, locals := 21 }) (Z : mj_Cr (mk_v E) r (some .boolean) (mj_iR (k, mm) Q)) {x2 : Int32} {y0 : Int32}    (h : wG_isBelow_18 x2 y0 k Q) : mj_G (mk_v E) r 18 [(0, .ref 26), (2, .int x2)] [.int y0] (k, mm) := by
  unfold wG_isBelow_18 at h
  refine mj_istore_n C dG_isBelow_18 (by decide) rfl ?_
  refine mj_iconst (a := 0) C dG_isBelow_19 (by decide) ?_
  refine mj_istore C dG_isBelow_20 (by decide) rfl ?_
  obtain ⟨n0, h⟩ := h
  exact mj_sub2 (uG_isBelow_22 hok C Z  n0 _ _ _ h) ⟨rfl, rfl, rfl, rfl, trivial⟩
def wG_isBelow (p0 : Int32) (p1 : Int32) (k : mj_St) (Q : Int32 → Prop) : Prop := wG_holds p0 k (fun a1 => (((a1 = 0) → wG_isBelow_18 p1 (-1) k Q) ∧ ((¬ a1 = 0) → vp_in p0 48 ∧ (wG_isBelow_18 p1 (k 30 p0.toNatClampNeg) k Q))))
set_option maxRecDepth 100000 in
set_option maxHeartbeats 4000000 in
theorem qG_isBelow {E : mj_E} (hok : mj_Ok (mk_v E)) {p0 : Int32} {p1 : Int32} {k mm : mj_St} {Q : Int32 → Prop} (h : wG_isBelow p0 p1 k Q) : mj_Ct (mk_v E) yG_isBelow (Cond.code yG_isBelow cG_isBelow 5 (some .boolean) :: mj_all) { frames := 1, cells := 0, slots := 0, locals := 21 } [.ref 26, .int p0, .int p1] (k, mm) (mj_iR (k, mm) Q) := by
  refine mj_enterA (L := [(0, .ref 26), (1, .int p0), (2, .int p1)]) hok (by decide +kernel) ⟨rfl, rfl⟩ (fun _ => Nat.le_of_ble_eq_true rfl) rfl (fun r C Z => ?_)
  unfold wG_isBelow at h
  refine mj_aload_n C dG_isBelow_0 rfl ?_
  refine mj_iload_n C dG_isBelow_1 rfl ?_
  refine mj_callV_iR C (qG_holds hok h) (g_G_holds l_G_32) rfl e_Grants z_G_holds ⟨Nat.le_of_ble_eq_true rfl, Nat.le_of_ble_eq_true rfl, rfl, rfl⟩ rfl rfl (Nat.le_of_ble_eq_true rfl) dG_isBelow_2 (fun a1 h => ?_)
  refine mj_if_eq (tgt := 17) C dG_isBelow_5 (by decide) (fun c2 => ?_) (fun c2 => ?_)
  · have h := h.1 c2
    refine mj_iconst (a := (-1)) C dG_isBelow_17 (by decide) ?_
    exact mj_sub2 (uG_isBelow_18 hok C Z  h) ⟨rfl, rfl, trivial⟩
  · have h := h.2 c2
    refine mj_aload_n C dG_isBelow_8 rfl ?_
    refine mj_getR C inG_all rfl e_Grants 3 (by decide) l_G_21 rfl dG_isBelow_9 ?_
    refine mj_iload_n C dG_isBelow_12 rfl ?_
    refine mj_iald (t0 := 0) C e_parents rfl h.1 dG_isBelow_13 ?_
    have h := h.2
    refine mj_goto (tgt := 18) C dG_isBelow_14 (by decide) ?_
    exact mj_sub2 (uG_isBelow_18 hok C Z  h) ⟨rfl, rfl, trivial⟩
/-! GrantKernel$Grants.revokeBelow -/
def wG_revokeBelow_48 (x2 : Int32)  (k : mj_St) (Q : mj_St → Prop) (K28 : Int32 → mj_St → Prop) : Prop := ∀ a4 : Int32, a4 = x2 + 1 → (K28 a4 k)
set_option maxRecDepth 100000 in
set_option maxHeartbeats 4000000 in
theorem uG_revokeBelow_48 {E : mj_E} {r : mj_R} {mm : mj_St} {Q : mj_St → Prop} (hok : mj_Ok (mk_v E)) (C : mj_Cx (mk_v E) r cG_revokeBelow 3 RG mj_all { frames := 2, cells := 0, slots := 0, locals := 46 }) (Z : mj_Cr (mk_v E) r none (mj_vK mm Q)) {x2 : Int32} {k : mj_St} {K28 : Int32 → mj_St → Prop} (hK28 : ∀ (x2 : Int32) (k : mj_St), K28 x2 k → mj_G (mk_v E) r 28 [(0, .ref 26), (2, .int x2)] [] (k, mm)) (h : wG_revokeBelow_48 x2 k Q K28) : mj_G (mk_v E) r 48 [(0, .ref 26), (2, .int x2)] [] (k, mm) := by
  unfold wG_revokeBelow_48 at h
  refine mj_iinc (b := 1) C dG_revokeBelow_48 rfl (by decide) (by decide) rfl ?_
  have h := h _ rfl
  refine mj_goto (tgt := 28) C dG_revokeBelow_51 (by decide) ?_
  exact mj_sub2 (hK28 _ _ h) ⟨rfl, rfl, trivial⟩
def wG_revokeBelow_28 (n : Nat) (x2 : Int32)  (k : mj_St) (Q : mj_St → Prop)  : Prop := match n with
  | 0 => False
  | n + 1 => ((48 ≤ x2) → Q k) ∧ ((¬ 48 ≤ x2) → vp_in x2 48 ∧ ((((k 31 x2.toNatClampNeg) = 0) → wG_revokeBelow_48 x2 k Q (fun x2_ k_ => wG_revokeBelow_28 n x2_ k_ Q)) ∧ ((¬ (k 31 x2.toNatClampNeg) = 0) → wG_empty x2 k (fun k5 => (wG_revokeBelow_48 x2 k5 Q (fun x2_ k_ => wG_revokeBelow_28 n x2_ k_ Q))))))
set_option maxRecDepth 100000 in
set_option maxHeartbeats 4000000 in
theorem uG_revokeBelow_28 {E : mj_E} {r : mj_R} {mm : mj_St} {Q : mj_St → Prop} (hok : mj_Ok (mk_v E)) (C : mj_Cx (mk_v E) r cG_revokeBelow 3 RG mj_all { frames := 2, cells := 0, slots := 0, locals := 46 }) (Z : mj_Cr (mk_v E) r none (mj_vK mm Q))   : ∀ (n : Nat) (x2 : Int32) (k : mj_St), wG_revokeBelow_28 n x2 k Q → mj_G (mk_v E) r 28 [(0, .ref 26), (2, .int x2)] [] (k, mm) := by
  intro n
  induction n with
  | zero => intro x2 k h; exact False.elim h
  | succ n ih =>
    intro x2 k h
    rw [wG_revokeBelow_28] at h
    refine mj_iload_n C dG_revokeBelow_28 rfl ?_
    refine mj_bipush (a := 48) C dG_revokeBelow_29 (by decide) ?_
    refine mj_icmp_ge (tgt := 54) C dG_revokeBelow_31 (by decide) (fun c2 => ?_) (fun c2 => ?_)
    · have h := h.1 c2
      exact mj_vret C Z dG_revokeBelow_54 ⟨_, rfl, rfl, h⟩
    · have h := h.2 c2
      refine mj_aload_n C dG_revokeBelow_34 rfl ?_
      refine mj_getR C inG_all rfl e_Grants 4 (by decide) l_G_24 rfl dG_revokeBelow_35 ?_
      refine mj_iload_n C dG_revokeBelow_38 rfl ?_
      refine mj_zald (t0 := 1) C e_doomed rfl h.1 dG_revokeBelow_39 ?_
      have h := h.2
      refine mj_if_eq (tgt := 48) C dG_revokeBelow_40 (by decide) (fun c3 => ?_) (fun c3 => ?_)
      · have h := h.1 c3
        exact mj_sub2 (uG_revokeBelow_48 hok C Z (fun _ _ h => ih _ _ h) h) ⟨rfl, rfl, trivial⟩
      · have h := h.2 c3
        refine mj_aload_n C dG_revokeBelow_43 rfl ?_
        refine mj_iload_n C dG_revokeBelow_44 rfl ?_
        refine mj_callV_vWK C (qG_empty hok h) (g_G_empty l_G_36) rfl e_Grants z_G_empty ⟨Nat.le_of_ble_eq_true rfl, Nat.le_of_ble_eq_true rfl, rfl, rfl⟩ rfl rfl (Nat.le_of_ble_eq_true rfl) dG_revokeBelow_45 (fun k5 h => ?_)
        exact mj_sub2 (uG_revokeBelow_48 hok C Z (fun _ _ h => ih _ _ h) h) ⟨rfl, rfl, trivial⟩
def wG_revokeBelow_2 (n : Nat) (x1 : Int32) (x2 : Int32)  (k : mj_St) (Q : mj_St → Prop)  : Prop := match n with
  | 0 => False
  | n + 1 => ((48 ≤ x2) → (∃ e28, wG_revokeBelow_28 e28 0 k Q)) ∧ ((¬ 48 ≤ x2) → wG_isBelow x2 x1 k (fun a6 => (vp_in x2 48 ∧ (mj_bz a6 ∧ (∀ k7 : mj_St, k7 = mj_up k 31 x2.toNatClampNeg a6 → (∀ a8 : Int32, a8 = x2 + 1 → (wG_revokeBelow_2 n x1 a8 k7 Q)))))))
set_option maxRecDepth 100000 in
set_option maxHeartbeats 4000000 in
theorem uG_revokeBelow_2 {E : mj_E} {r : mj_R} {mm : mj_St} {Q : mj_St → Prop} (hok : mj_Ok (mk_v E)) (C : mj_Cx (mk_v E) r cG_revokeBelow 3 RG mj_all { frames := 2, cells := 0, slots := 0, locals := 46 }) (Z : mj_Cr (mk_v E) r none (mj_vK mm Q))   : ∀ (n : Nat) (x1 : Int32) (x2 : Int32) (k : mj_St), wG_revokeBelow_2 n x1 x2 k Q → mj_G (mk_v E) r 2 [(0, .ref 26), (1, .int x1), (2, .int x2)] [] (k, mm) := by
  intro n
  induction n with
  | zero => intro x1 x2 k h; exact False.elim h
  | succ n ih =>
    intro x1 x2 k h
    rw [wG_revokeBelow_2] at h
    refine mj_iload_n C dG_revokeBelow_2 rfl ?_
    refine mj_bipush (a := 48) C dG_revokeBelow_3 (by decide) ?_
    refine mj_icmp_ge (tgt := 26) C dG_revokeBelow_5 (by decide) (fun c1 => ?_) (fun c1 => ?_)
    · have h := h.1 c1
      refine mj_iconst (a := 0) C dG_revokeBelow_26 (by decide) ?_
      refine mj_istore_n C dG_revokeBelow_27 (by decide) rfl ?_
      obtain ⟨n0, h⟩ := h
      exact mj_sub2 (uG_revokeBelow_28 hok C Z  n0 _ _ h) ⟨rfl, rfl, trivial⟩
    · have h := h.2 c1
      refine mj_aload_n C dG_revokeBelow_8 rfl ?_
      refine mj_getR C inG_all rfl e_Grants 4 (by decide) l_G_24 rfl dG_revokeBelow_9 ?_
      refine mj_iload_n C dG_revokeBelow_12 rfl ?_
      refine mj_aload_n C dG_revokeBelow_13 rfl ?_
      refine mj_iload_n C dG_revokeBelow_14 rfl ?_
      refine mj_iload_n C dG_revokeBelow_15 rfl ?_
      refine mj_callV_iR C (qG_isBelow hok h) (g_G_isBelow l_G_40) rfl e_Grants z_G_isBelow ⟨Nat.le_of_ble_eq_true rfl, Nat.le_of_ble_eq_true rfl, rfl, rfl⟩ rfl rfl (Nat.le_of_ble_eq_true rfl) dG_revokeBelow_16 (fun a6 h => ?_)
      refine mj_zast (t0 := 1) C e_doomed rfl h.1 h.2.1 s_doomed dG_revokeBelow_19 ?_
      have h := h.2.2 _ rfl
      refine mj_iinc (b := 1) C dG_revokeBelow_20 rfl (by decide) (by decide) rfl ?_
      have h := h _ rfl
      refine mj_goto (tgt := 2) C dG_revokeBelow_23 (by decide) ?_
      exact mj_sub2 (ih _ _ _ h) ⟨rfl, rfl, rfl, trivial⟩
def wG_revokeBelow (p0 : Int32) (k : mj_St) (Q : mj_St → Prop) : Prop := (∃ e2, wG_revokeBelow_2 e2 p0 0 k Q)
set_option maxRecDepth 100000 in
set_option maxHeartbeats 4000000 in
theorem qG_revokeBelow {E : mj_E} (hok : mj_Ok (mk_v E)) {p0 : Int32} {k mm : mj_St} {Q : mj_St → Prop} (h : wG_revokeBelow p0 k Q) : mj_Ct (mk_v E) yG_revokeBelow (Cond.code yG_revokeBelow cG_revokeBelow 3 none :: mj_all) { frames := 2, cells := 0, slots := 0, locals := 46 } [.ref 26, .int p0] (k, mm) (mj_vK mm Q) := by
  refine mj_enterA (L := [(0, .ref 26), (1, .int p0)]) hok (by decide +kernel) ⟨rfl, rfl⟩ (fun _ => Nat.le_of_ble_eq_true rfl) rfl (fun r C Z => ?_)
  unfold wG_revokeBelow at h
  refine mj_iconst (a := 0) C dG_revokeBelow_0 (by decide) ?_
  refine mj_istore_n C dG_revokeBelow_1 (by decide) rfl ?_
  obtain ⟨n0, h⟩ := h
  exact mj_sub2 (uG_revokeBelow_2 hok C Z  n0 _ _ _ h) ⟨rfl, rfl, rfl, trivial⟩
/-! GrantKernel.takeBack -/
def wK_takeBack (p0 : Int32) (p1 : Int32) (k : mj_St) (Q : Int32 → mj_St → Prop) : Prop := wK_fieldA p1 (fun a1 => (wK_slotPlace p0 a1 (fun a2 => (wG_holds a2 k (fun a3 => (((¬ a3 = 0) → wK_opOf p1 (fun a5 => (((¬ a5 = 20) → wG_revokeBelow a2 k (fun k7 => (Q 0 k7))) ∧ ((a5 = 20) → wG_removeAt a2 k (fun k8 => (Q 0 k8)))))) ∧ ((a3 = 0) → Q 4 k)))))))
set_option maxRecDepth 100000 in
set_option maxHeartbeats 4000000 in
theorem qK_takeBack {E : mj_E} (hok : mj_Ok (mk_v E)) {p0 : Int32} {p1 : Int32} {k mm : mj_St} {Q : Int32 → mj_St → Prop} (h : wK_takeBack p0 p1 k Q) : mj_Ct (mk_v E) yK_takeBack (Cond.code yK_takeBack cK_takeBack 4 (some .int) :: mj_all) { frames := 3, cells := 0, slots := 0, locals := 68 } [.ref 0, .int p0, .int p1] (k, mm) (mj_iK mm Q) := by
  refine mj_enterA (L := [(0, .ref 0), (1, .int p0), (2, .int p1)]) hok (by decide +kernel) ⟨rfl, rfl⟩ (fun _ => Nat.le_of_ble_eq_true rfl) rfl (fun r C Z => ?_)
  unfold wK_takeBack at h
  refine mj_iload_n C dK_takeBack_0 rfl ?_
  refine mj_iload_n C dK_takeBack_1 rfl ?_
  refine mj_callS_iR C (qK_fieldA hok h) (g_K_fieldA l_K_172) z_K_fieldA ⟨Nat.le_of_ble_eq_true rfl, Nat.le_of_ble_eq_true rfl, rfl, rfl⟩ rfl rfl (Nat.le_of_ble_eq_true rfl) dK_takeBack_2 (fun a1 h => ?_)
  refine mj_callS_iR C (qK_slotPlace hok h) (g_K_slotPlace l_K_102) z_K_slotPlace ⟨Nat.le_of_ble_eq_true rfl, Nat.le_of_ble_eq_true rfl, rfl, rfl⟩ rfl rfl (Nat.le_of_ble_eq_true rfl) dK_takeBack_5 (fun a2 h => ?_)
  refine mj_istore_n C dK_takeBack_8 (by decide) rfl ?_
  refine mj_aload_n C dK_takeBack_9 rfl ?_
  refine mj_getR C inK_all rfl e_GK 5 (by decide) l_K_33 rfl dK_takeBack_10 ?_
  refine mj_iload_n C dK_takeBack_13 rfl ?_
  refine mj_callV_iR C (qG_holds hok h) (g_G_holds l_K_84) rfl e_Grants z_G_holds ⟨Nat.le_of_ble_eq_true rfl, Nat.le_of_ble_eq_true rfl, rfl, rfl⟩ rfl rfl (Nat.le_of_ble_eq_true rfl) dK_takeBack_14 (fun a3 h => ?_)
  refine mj_if_ne (tgt := 22) C dK_takeBack_17 (by decide) (fun c4 => ?_) (fun c4 => ?_)
  · have h := h.1 c4
    refine mj_iload_n C dK_takeBack_22 rfl ?_
    refine mj_callS_iR C (qK_opOf hok h) (g_K_opOf l_K_159) z_K_opOf ⟨Nat.le_of_ble_eq_true rfl, Nat.le_of_ble_eq_true rfl, rfl, rfl⟩ rfl rfl (Nat.le_of_ble_eq_true rfl) dK_takeBack_23 (fun a5 h => ?_)
    refine mj_bipush (a := 20) C dK_takeBack_26 (by decide) ?_
    refine mj_icmp_ne (tgt := 42) C dK_takeBack_28 (by decide) (fun c6 => ?_) (fun c6 => ?_)
    · have h := h.1 c6
      refine mj_aload_n C dK_takeBack_42 rfl ?_
      refine mj_getR C inK_all rfl e_GK 5 (by decide) l_K_33 rfl dK_takeBack_43 ?_
      refine mj_iload_n C dK_takeBack_46 rfl ?_
      refine mj_callV_vWK C (qG_revokeBelow hok h) (g_G_revokeBelow l_K_235) rfl e_Grants z_G_revokeBelow ⟨Nat.le_of_ble_eq_true rfl, Nat.le_of_ble_eq_true rfl, rfl, rfl⟩ rfl rfl (Nat.le_of_ble_eq_true rfl) dK_takeBack_47 (fun k7 h => ?_)
      refine mj_iconst (a := 0) C dK_takeBack_50 (by decide) ?_
      exact mj_iret C Z dK_takeBack_51 ⟨_, _, rfl, rfl, h⟩
    · have h := h.2 c6
      refine mj_aload_n C dK_takeBack_31 rfl ?_
      refine mj_getR C inK_all rfl e_GK 5 (by decide) l_K_33 rfl dK_takeBack_32 ?_
      refine mj_iload_n C dK_takeBack_35 rfl ?_
      refine mj_callV_vWK C (qG_removeAt hok h) (g_G_removeAt l_K_105) rfl e_Grants z_G_removeAt ⟨Nat.le_of_ble_eq_true rfl, Nat.le_of_ble_eq_true rfl, rfl, rfl⟩ rfl rfl (Nat.le_of_ble_eq_true rfl) dK_takeBack_36 (fun k8 h => ?_)
      refine mj_goto (tgt := 50) C dK_takeBack_39 (by decide) ?_
      refine mj_iconst (a := 0) C dK_takeBack_50 (by decide) ?_
      exact mj_iret C Z dK_takeBack_51 ⟨_, _, rfl, rfl, h⟩
  · have h := h.2 c4
    refine mj_iconst (a := 4) C dK_takeBack_20 (by decide) ?_
    exact mj_iret C Z dK_takeBack_21 ⟨_, _, rfl, rfl, h⟩
/-! GrantKernel.lookIntoSlot -/
def wK_lookIntoSlot (p0 : Int32) (p1 : Int32) (k : mj_St) (Q : Int32 → mj_St → Prop) : Prop := vp_in p0 6 ∧ (wK_fieldA p1 (fun a2 => (wK_fieldB p1 (fun a3 => (wK_slotPlace p0 a3 (fun a4 => (wG_holds a4 k (fun a5 => (((a5 = 0) → vp_in a2 8 ∧ (∀ k7 : mj_St, k7 = mj_up k (3 + p0.toNatClampNeg + 6) a2.toNatClampNeg 0 → (Q 0 k7))) ∧ ((¬ a5 = 0) → vp_in a2 8 ∧ (∀ k8 : mj_St, k8 = mj_up k (3 + p0.toNatClampNeg + 6) a2.toNatClampNeg 1 → (Q 0 k8))))))))))))
set_option maxRecDepth 100000 in
set_option maxHeartbeats 4000000 in
theorem qK_lookIntoSlot {E : mj_E} (hok : mj_Ok (mk_v E)) {p0 : Int32} {p1 : Int32} {k mm : mj_St} {Q : Int32 → mj_St → Prop} (h : wK_lookIntoSlot p0 p1 k Q) : mj_Ct (mk_v E) yK_lookIntoSlot (Cond.code yK_lookIntoSlot cK_lookIntoSlot 3 (some .int) :: mj_all) { frames := 1, cells := 0, slots := 0, locals := 21 } [.ref 0, .int p0, .int p1] (k, mm) (mj_iK mm Q) := by
  refine mj_enterA (L := [(0, .ref 0), (1, .int p0), (2, .int p1)]) hok (by decide +kernel) ⟨rfl, rfl⟩ (fun _ => Nat.le_of_ble_eq_true rfl) rfl (fun r C Z => ?_)
  unfold wK_lookIntoSlot at h
  refine mj_aload_n C dK_lookIntoSlot_0 rfl ?_
  refine mj_getR C inK_all rfl e_GK 2 (by decide) l_K_15 rfl dK_lookIntoSlot_1 ?_
  refine mj_iload_n C dK_lookIntoSlot_4 rfl ?_
  have t1 := mk_isT h.1
  refine mj_aald (t0 := 2) C e_tasks rfl h.1 rfl dK_lookIntoSlot_5 ?_
  have h := h.2
  refine mj_getR C inT_all rfl (e_Task t1) 0 (by decide) l_K_78 rfl dK_lookIntoSlot_6 ?_
  refine mj_iload_n C dK_lookIntoSlot_9 rfl ?_
  refine mj_callS_iR C (qK_fieldA hok h) (g_K_fieldA l_K_172) z_K_fieldA ⟨Nat.le_of_ble_eq_true rfl, Nat.le_of_ble_eq_true rfl, rfl, rfl⟩ rfl rfl (Nat.le_of_ble_eq_true rfl) dK_lookIntoSlot_10 (fun a2 h => ?_)
  refine mj_aload_n C dK_lookIntoSlot_13 rfl ?_
  refine mj_getR C inK_all rfl e_GK 5 (by decide) l_K_33 rfl dK_lookIntoSlot_14 ?_
  refine mj_iload_n C dK_lookIntoSlot_17 rfl ?_
  refine mj_iload_n C dK_lookIntoSlot_18 rfl ?_
  refine mj_callS_iR C (qK_fieldB hok h) (g_K_fieldB l_K_202) z_K_fieldB ⟨Nat.le_of_ble_eq_true rfl, Nat.le_of_ble_eq_true rfl, rfl, rfl⟩ rfl rfl (Nat.le_of_ble_eq_true rfl) dK_lookIntoSlot_19 (fun a3 h => ?_)
  refine mj_callS_iR C (qK_slotPlace hok h) (g_K_slotPlace l_K_102) z_K_slotPlace ⟨Nat.le_of_ble_eq_true rfl, Nat.le_of_ble_eq_true rfl, rfl, rfl⟩ rfl rfl (Nat.le_of_ble_eq_true rfl) dK_lookIntoSlot_22 (fun a4 h => ?_)
  refine mj_callV_iR C (qG_holds hok h) (g_G_holds l_K_84) rfl e_Grants z_G_holds ⟨Nat.le_of_ble_eq_true rfl, Nat.le_of_ble_eq_true rfl, rfl, rfl⟩ rfl rfl (Nat.le_of_ble_eq_true rfl) dK_lookIntoSlot_25 (fun a5 h => ?_)
  refine mj_if_eq (tgt := 35) C dK_lookIntoSlot_28 (by decide) (fun c6 => ?_) (fun c6 => ?_)
  · have h := h.1 c6
    refine mj_iconst (a := 0) C dK_lookIntoSlot_35 (by decide) ?_
    refine mj_iast (t0 := 0) C (e_regs t1) rfl h.1 (s_regs t1) dK_lookIntoSlot_36 ?_
    have h := h.2 _ rfl
    refine mj_iconst (a := 0) C dK_lookIntoSlot_37 (by decide) ?_
    exact mj_iret C Z dK_lookIntoSlot_38 ⟨_, _, rfl, rfl, h⟩
  · have h := h.2 c6
    refine mj_iconst (a := 1) C dK_lookIntoSlot_31 (by decide) ?_
    refine mj_goto (tgt := 36) C dK_lookIntoSlot_32 (by decide) ?_
    refine mj_iast (t0 := 0) C (e_regs t1) rfl h.1 (s_regs t1) dK_lookIntoSlot_36 ?_
    have h := h.2 _ rfl
    refine mj_iconst (a := 0) C dK_lookIntoSlot_37 (by decide) ?_
    exact mj_iret C Z dK_lookIntoSlot_38 ⟨_, _, rfl, rfl, h⟩
/-! GrantKernel.compute -/
def wK_compute (p0 : Nat) (p1 : Int32) (k : mj_St) (Q : Int32 → mj_St → Prop) : Prop := mk_T p0 ∧ (wK_fieldA p1 (fun a2 => (wK_fieldB p1 (fun a3 => (vp_in a3 8 ∧ (∀ a4 : Int32, a4 = k (p0 + 6) a3.toNatClampNeg → (wK_fieldC p1 (fun a5 => (vp_in a5 8 ∧ (∀ a6 : Int32, a6 = k (p0 + 6) a5.toNatClampNeg → (wK_opOf p1 (fun a7 => (((a7 = 0) → ∀ k9 : mj_St, k9 = mj_up k p0 1 6 → (Q 0 k9)) ∧ (¬ a7 = 0 → (((a7 = 1) → wK_numberOf p1 (fun a11 => (vp_in a2 8 ∧ (∀ k12 : mj_St, k12 = mj_up k (p0 + 6) a2.toNatClampNeg a11 → (Q 0 k12))))) ∧ (¬ a7 = 1 → (((a7 = 2) → vp_in a2 8 ∧ (∀ k14 : mj_St, k14 = mj_up k (p0 + 6) a2.toNatClampNeg a4 → (Q 0 k14))) ∧ (¬ a7 = 2 → (((a7 = 3) → vp_in a2 8 ∧ (∀ k16 : mj_St, k16 = mj_up k (p0 + 6) a2.toNatClampNeg (a4 + a6) → (Q 0 k16))) ∧ (¬ a7 = 3 → (((a7 = 4) → vp_in a2 8 ∧ (∀ k18 : mj_St, k18 = mj_up k (p0 + 6) a2.toNatClampNeg (a4 - a6) → (Q 0 k18))) ∧ (¬ a7 = 4 → (((a7 = 5) → vp_in a2 8 ∧ (∀ k20 : mj_St, k20 = mj_up k (p0 + 6) a2.toNatClampNeg (a4 * a6) → (Q 0 k20))) ∧ (¬ a7 = 5 → (((a7 = 6) → vp_in a2 8 ∧ (∀ k22 : mj_St, k22 = mj_up k (p0 + 6) a2.toNatClampNeg (a4 &&& a6) → (Q 0 k22))) ∧ (¬ a7 = 6 → (((a7 = 7) → vp_in a2 8 ∧ (∀ k24 : mj_St, k24 = mj_up k (p0 + 6) a2.toNatClampNeg (a4 ^^^ a6) → (Q 0 k24))) ∧ (¬ a7 = 7 → (((a7 = 8) → Q 3 k) ∧ (¬ a7 = 8 → (((a7 = 9) → Q 3 k) ∧ (¬ a7 = 9 → (((a7 = 10) → Q 0 k) ∧ (¬ a7 = 10 → (((a7 = 11) → Q 0 k) ∧ (¬ a7 = 11 → (((a7 = 12) → Q 0 k) ∧ (¬ a7 = 12 → (((a7 = 13) → Q 0 k) ∧ (¬ a7 = 13 → (Q 3 k)))))))))))))))))))))))))))))))))))))))))
set_option maxRecDepth 100000 in
set_option maxHeartbeats 4000000 in
theorem qK_compute {E : mj_E} (hok : mj_Ok (mk_v E)) {p0 : Nat} {p1 : Int32} {k mm : mj_St} {Q : Int32 → mj_St → Prop} (h : wK_compute p0 p1 k Q) : mj_Ct (mk_v E) yK_compute (Cond.code yK_compute cK_compute 6 (some .int) :: mj_all) { frames := 1, cells := 0, slots := 0, locals := 20 } [.ref p0, .int p1] (k, mm) (mj_iK mm Q) := by
  refine mj_enterA (L := [(0, .ref p0), (1, .int p1)]) hok (by decide +kernel) ⟨rfl, rfl⟩ (fun _ => Nat.le_of_ble_eq_true rfl) rfl (fun r C Z => ?_)
  unfold wK_compute at h
  have t1 := h.1
  have h := h.2
  refine mj_aload_n C dK_compute_0 rfl ?_
  refine mj_getR C inT_all rfl (e_Task t1) 0 (by decide) l_K_78 rfl dK_compute_1 ?_
  refine mj_astore_n C dK_compute_4 (by decide) rfl ?_
  refine mj_iload_n C dK_compute_5 rfl ?_
  refine mj_callS_iR C (qK_fieldA hok h) (g_K_fieldA l_K_172) z_K_fieldA ⟨Nat.le_of_ble_eq_true rfl, Nat.le_of_ble_eq_true rfl, rfl, rfl⟩ rfl rfl (Nat.le_of_ble_eq_true rfl) dK_compute_6 (fun a2 h => ?_)
  refine mj_istore_n C dK_compute_9 (by decide) rfl ?_
  refine mj_aload_n C dK_compute_10 rfl ?_
  refine mj_iload_n C dK_compute_11 rfl ?_
  refine mj_callS_iR C (qK_fieldB hok h) (g_K_fieldB l_K_202) z_K_fieldB ⟨Nat.le_of_ble_eq_true rfl, Nat.le_of_ble_eq_true rfl, rfl, rfl⟩ rfl rfl (Nat.le_of_ble_eq_true rfl) dK_compute_12 (fun a3 h => ?_)
  refine mj_iald (t0 := 0) C (e_regs t1) rfl h.1 dK_compute_15 ?_
  have h := h.2
  refine mj_istore C dK_compute_16 (by decide) rfl ?_
  have h := h _ rfl
  refine mj_aload_n C dK_compute_18 rfl ?_
  refine mj_iload_n C dK_compute_19 rfl ?_
  refine mj_callS_iR C (qK_fieldC hok h) (g_K_fieldC l_K_205) z_K_fieldC ⟨Nat.le_of_ble_eq_true rfl, Nat.le_of_ble_eq_true rfl, rfl, rfl⟩ rfl rfl (Nat.le_of_ble_eq_true rfl) dK_compute_20 (fun a5 h => ?_)
  refine mj_iald (t0 := 0) C (e_regs t1) rfl h.1 dK_compute_23 ?_
  have h := h.2
  refine mj_istore C dK_compute_24 (by decide) rfl ?_
  have h := h _ rfl
  refine mj_iload_n C dK_compute_26 rfl ?_
  refine mj_callS_iR C (qK_opOf hok h) (g_K_opOf l_K_159) z_K_opOf ⟨Nat.le_of_ble_eq_true rfl, Nat.le_of_ble_eq_true rfl, rfl, rfl⟩ rfl rfl (Nat.le_of_ble_eq_true rfl) dK_compute_27 (fun a7 h => ?_)
  by_cases c8 : a7 = 0
  · have h := h.1 c8
    refine mj_tableIn (off := 70) (tgt := 100) C dK_compute_30 (by rw [c8]; decide) (by rw [c8]; decide) (by rw [c8]; rfl) (by decide) ?_
    refine mj_aload_n C dK_compute_100 rfl ?_
    refine mj_bipush (a := 6) C dK_compute_101 (by decide) ?_
    refine mj_put C inT_all rfl tyT okT nmT (e_Task t1) 1 (by decide) l_K_96 rfl (by decide +kernel) (Nat.le_of_ble_eq_true rfl) (s_Task_1 t1) dK_compute_103 ?_
    have h := h _ rfl
    refine mj_iconst (a := 0) C dK_compute_106 (by decide) ?_
    exact mj_iret C Z dK_compute_107 ⟨_, _, rfl, rfl, h⟩
  have h := h.2 c8
  by_cases c10 : a7 = 1
  · have h := h.1 c10
    refine mj_tableIn (off := 78) (tgt := 108) C dK_compute_30 (by rw [c10]; decide) (by rw [c10]; decide) (by rw [c10]; rfl) (by decide) ?_
    refine mj_aload_n C dK_compute_108 rfl ?_
    refine mj_iload_n C dK_compute_109 rfl ?_
    refine mj_iload_n C dK_compute_110 rfl ?_
    refine mj_callS_iR C (qK_numberOf hok h) (g_K_numberOf l_K_136) z_K_numberOf ⟨Nat.le_of_ble_eq_true rfl, Nat.le_of_ble_eq_true rfl, rfl, rfl⟩ rfl rfl (Nat.le_of_ble_eq_true rfl) dK_compute_111 (fun a11 h => ?_)
    refine mj_iast (t0 := 0) C (e_regs t1) rfl h.1 (s_regs t1) dK_compute_114 ?_
    have h := h.2 _ rfl
    refine mj_iconst (a := 0) C dK_compute_115 (by decide) ?_
    exact mj_iret C Z dK_compute_116 ⟨_, _, rfl, rfl, h⟩
  have h := h.2 c10
  by_cases c13 : a7 = 2
  · have h := h.1 c13
    refine mj_tableIn (off := 87) (tgt := 117) C dK_compute_30 (by rw [c13]; decide) (by rw [c13]; decide) (by rw [c13]; rfl) (by decide) ?_
    refine mj_aload_n C dK_compute_117 rfl ?_
    refine mj_iload_n C dK_compute_118 rfl ?_
    refine mj_iload C dK_compute_119 rfl ?_
    refine mj_iast (t0 := 0) C (e_regs t1) rfl h.1 (s_regs t1) dK_compute_121 ?_
    have h := h.2 _ rfl
    refine mj_iconst (a := 0) C dK_compute_122 (by decide) ?_
    exact mj_iret C Z dK_compute_123 ⟨_, _, rfl, rfl, h⟩
  have h := h.2 c13
  by_cases c15 : a7 = 3
  · have h := h.1 c15
    refine mj_tableIn (off := 94) (tgt := 124) C dK_compute_30 (by rw [c15]; decide) (by rw [c15]; decide) (by rw [c15]; rfl) (by decide) ?_
    refine mj_aload_n C dK_compute_124 rfl ?_
    refine mj_iload_n C dK_compute_125 rfl ?_
    refine mj_iload C dK_compute_126 rfl ?_
    refine mj_iload C dK_compute_128 rfl ?_
    refine mj_iadd C dK_compute_130 ?_
    refine mj_iast (t0 := 0) C (e_regs t1) rfl h.1 (s_regs t1) dK_compute_131 ?_
    have h := h.2 _ rfl
    refine mj_iconst (a := 0) C dK_compute_132 (by decide) ?_
    exact mj_iret C Z dK_compute_133 ⟨_, _, rfl, rfl, h⟩
  have h := h.2 c15
  by_cases c17 : a7 = 4
  · have h := h.1 c17
    refine mj_tableIn (off := 104) (tgt := 134) C dK_compute_30 (by rw [c17]; decide) (by rw [c17]; decide) (by rw [c17]; rfl) (by decide) ?_
    refine mj_aload_n C dK_compute_134 rfl ?_
    refine mj_iload_n C dK_compute_135 rfl ?_
    refine mj_iload C dK_compute_136 rfl ?_
    refine mj_iload C dK_compute_138 rfl ?_
    refine mj_isub C dK_compute_140 ?_
    refine mj_iast (t0 := 0) C (e_regs t1) rfl h.1 (s_regs t1) dK_compute_141 ?_
    have h := h.2 _ rfl
    refine mj_iconst (a := 0) C dK_compute_142 (by decide) ?_
    exact mj_iret C Z dK_compute_143 ⟨_, _, rfl, rfl, h⟩
  have h := h.2 c17
  by_cases c19 : a7 = 5
  · have h := h.1 c19
    refine mj_tableIn (off := 114) (tgt := 144) C dK_compute_30 (by rw [c19]; decide) (by rw [c19]; decide) (by rw [c19]; rfl) (by decide) ?_
    refine mj_aload_n C dK_compute_144 rfl ?_
    refine mj_iload_n C dK_compute_145 rfl ?_
    refine mj_iload C dK_compute_146 rfl ?_
    refine mj_iload C dK_compute_148 rfl ?_
    refine mj_imul C dK_compute_150 ?_
    refine mj_iast (t0 := 0) C (e_regs t1) rfl h.1 (s_regs t1) dK_compute_151 ?_
    have h := h.2 _ rfl
    refine mj_iconst (a := 0) C dK_compute_152 (by decide) ?_
    exact mj_iret C Z dK_compute_153 ⟨_, _, rfl, rfl, h⟩
  have h := h.2 c19
  by_cases c21 : a7 = 6
  · have h := h.1 c21
    refine mj_tableIn (off := 124) (tgt := 154) C dK_compute_30 (by rw [c21]; decide) (by rw [c21]; decide) (by rw [c21]; rfl) (by decide) ?_
    refine mj_aload_n C dK_compute_154 rfl ?_
    refine mj_iload_n C dK_compute_155 rfl ?_
    refine mj_iload C dK_compute_156 rfl ?_
    refine mj_iload C dK_compute_158 rfl ?_
    refine mj_iand C dK_compute_160 ?_
    refine mj_iast (t0 := 0) C (e_regs t1) rfl h.1 (s_regs t1) dK_compute_161 ?_
    have h := h.2 _ rfl
    refine mj_iconst (a := 0) C dK_compute_162 (by decide) ?_
    exact mj_iret C Z dK_compute_163 ⟨_, _, rfl, rfl, h⟩
  have h := h.2 c21
  by_cases c23 : a7 = 7
  · have h := h.1 c23
    refine mj_tableIn (off := 134) (tgt := 164) C dK_compute_30 (by rw [c23]; decide) (by rw [c23]; decide) (by rw [c23]; rfl) (by decide) ?_
    refine mj_aload_n C dK_compute_164 rfl ?_
    refine mj_iload_n C dK_compute_165 rfl ?_
    refine mj_iload C dK_compute_166 rfl ?_
    refine mj_iload C dK_compute_168 rfl ?_
    refine mj_ixor C dK_compute_170 ?_
    refine mj_iast (t0 := 0) C (e_regs t1) rfl h.1 (s_regs t1) dK_compute_171 ?_
    have h := h.2 _ rfl
    refine mj_iconst (a := 0) C dK_compute_172 (by decide) ?_
    exact mj_iret C Z dK_compute_173 ⟨_, _, rfl, rfl, h⟩
  have h := h.2 c23
  by_cases c25 : a7 = 8
  · have h := h.1 c25
    refine mj_tableIn (off := 146) (tgt := 176) C dK_compute_30 (by rw [c25]; decide) (by rw [c25]; decide) (by rw [c25]; rfl) (by decide) ?_
    refine mj_iconst (a := 3) C dK_compute_176 (by decide) ?_
    exact mj_iret C Z dK_compute_177 ⟨_, _, rfl, rfl, h⟩
  have h := h.2 c25
  by_cases c26 : a7 = 9
  · have h := h.1 c26
    refine mj_tableIn (off := 146) (tgt := 176) C dK_compute_30 (by rw [c26]; decide) (by rw [c26]; decide) (by rw [c26]; rfl) (by decide) ?_
    refine mj_iconst (a := 3) C dK_compute_176 (by decide) ?_
    exact mj_iret C Z dK_compute_177 ⟨_, _, rfl, rfl, h⟩
  have h := h.2 c26
  by_cases c27 : a7 = 10
  · have h := h.1 c27
    refine mj_tableIn (off := 144) (tgt := 174) C dK_compute_30 (by rw [c27]; decide) (by rw [c27]; decide) (by rw [c27]; rfl) (by decide) ?_
    refine mj_iconst (a := 0) C dK_compute_174 (by decide) ?_
    exact mj_iret C Z dK_compute_175 ⟨_, _, rfl, rfl, h⟩
  have h := h.2 c27
  by_cases c28 : a7 = 11
  · have h := h.1 c28
    refine mj_tableIn (off := 144) (tgt := 174) C dK_compute_30 (by rw [c28]; decide) (by rw [c28]; decide) (by rw [c28]; rfl) (by decide) ?_
    refine mj_iconst (a := 0) C dK_compute_174 (by decide) ?_
    exact mj_iret C Z dK_compute_175 ⟨_, _, rfl, rfl, h⟩
  have h := h.2 c28
  by_cases c29 : a7 = 12
  · have h := h.1 c29
    refine mj_tableIn (off := 144) (tgt := 174) C dK_compute_30 (by rw [c29]; decide) (by rw [c29]; decide) (by rw [c29]; rfl) (by decide) ?_
    refine mj_iconst (a := 0) C dK_compute_174 (by decide) ?_
    exact mj_iret C Z dK_compute_175 ⟨_, _, rfl, rfl, h⟩
  have h := h.2 c29
  by_cases c30 : a7 = 13
  · have h := h.1 c30
    refine mj_tableIn (off := 144) (tgt := 174) C dK_compute_30 (by rw [c30]; decide) (by rw [c30]; decide) (by rw [c30]; rfl) (by decide) ?_
    refine mj_iconst (a := 0) C dK_compute_174 (by decide) ?_
    exact mj_iret C Z dK_compute_175 ⟨_, _, rfl, rfl, h⟩
  have h := h.2 c30
  have nc8 := lv_neT (k := 0) (a := 0) c8 (by decide)
  have nc10 := lv_neT (k := 1) (a := 1) c10 (by decide)
  have nc13 := lv_neT (k := 2) (a := 2) c13 (by decide)
  have nc15 := lv_neT (k := 3) (a := 3) c15 (by decide)
  have nc17 := lv_neT (k := 4) (a := 4) c17 (by decide)
  have nc19 := lv_neT (k := 5) (a := 5) c19 (by decide)
  have nc21 := lv_neT (k := 6) (a := 6) c21 (by decide)
  have nc23 := lv_neT (k := 7) (a := 7) c23 (by decide)
  have nc25 := lv_neT (k := 8) (a := 8) c25 (by decide)
  have nc26 := lv_neT (k := 9) (a := 9) c26 (by decide)
  have nc27 := lv_neT (k := 10) (a := 10) c27 (by decide)
  have nc28 := lv_neT (k := 11) (a := 11) c28 (by decide)
  have nc29 := lv_neT (k := 12) (a := 12) c29 (by decide)
  have nc30 := lv_neT (k := 13) (a := 13) c30 (by decide)
  refine mj_tableOut (tgt := 176) C dK_compute_30 (by omega) (by decide) ?_
  refine mj_iconst (a := 3) C dK_compute_176 (by decide) ?_
  exact mj_iret C Z dK_compute_177 ⟨_, _, rfl, rfl, h⟩
/-! GrantKernel.perform -/
def wK_perform_80 (x1 : Int32) (x2 : Int32)  (k : mj_St) (Q : Int32 → mj_St → Prop)  : Prop := vp_in x1 6 ∧ (wK_access (3 + x1.toNatClampNeg) x2 k (fun a4 k5 => (Q a4 k5)))
set_option maxRecDepth 100000 in
set_option maxHeartbeats 4000000 in
theorem uK_perform_80 {E : mj_E} {r : mj_R} {mm : mj_St} {Q : Int32 → mj_St → Prop} (hok : mj_Ok (mk_v E)) (C : mj_Cx (mk_v E) r cK_perform 3 RK mj_all { frames := 4, cells := 0, slots := 0, locals := 102 }) (Z : mj_Cr (mk_v E) r (some .int) (mj_iK mm Q)) {x1 : Int32} {x2 : Int32} {k : mj_St}   (h : wK_perform_80 x1 x2 k Q) : mj_G (mk_v E) r 80 [(0, .ref 0), (1, .int x1), (2, .int x2)] [] (k, mm) := by
  unfold wK_perform_80 at h
  refine mj_aload_n C dK_perform_80 rfl ?_
  refine mj_aload_n C dK_perform_81 rfl ?_
  refine mj_getR C inK_all rfl e_GK 2 (by decide) l_K_15 rfl dK_perform_82 ?_
  refine mj_iload_n C dK_perform_85 rfl ?_
  have t3 := mk_isT h.1
  refine mj_aald (t0 := 2) C e_tasks rfl h.1 rfl dK_perform_86 ?_
  have h := h.2
  refine mj_iload_n C dK_perform_87 rfl ?_
  refine mj_callV_iWK C (qK_access hok h) (g_K_access l_K_175) rfl e_GK z_K_access ⟨Nat.le_of_ble_eq_true rfl, Nat.le_of_ble_eq_true rfl, rfl, rfl⟩ rfl rfl (Nat.le_of_ble_eq_true rfl) dK_perform_88 (fun a4 k5 h => ?_)
  exact mj_iret C Z dK_perform_91 ⟨_, _, rfl, rfl, h⟩
def wK_perform_146 (x1 : Int32) (x2 : Int32)  (k : mj_St) (Q : Int32 → mj_St → Prop)  : Prop := vp_in x1 6 ∧ (wK_compute (3 + x1.toNatClampNeg) x2 k (fun a9 k10 => (Q a9 k10)))
set_option maxRecDepth 100000 in
set_option maxHeartbeats 4000000 in
theorem uK_perform_146 {E : mj_E} {r : mj_R} {mm : mj_St} {Q : Int32 → mj_St → Prop} (hok : mj_Ok (mk_v E)) (C : mj_Cx (mk_v E) r cK_perform 3 RK mj_all { frames := 4, cells := 0, slots := 0, locals := 102 }) (Z : mj_Cr (mk_v E) r (some .int) (mj_iK mm Q)) {x1 : Int32} {x2 : Int32} {k : mj_St}   (h : wK_perform_146 x1 x2 k Q) : mj_G (mk_v E) r 146 [(0, .ref 0), (1, .int x1), (2, .int x2)] [] (k, mm) := by
  unfold wK_perform_146 at h
  refine mj_aload_n C dK_perform_146 rfl ?_
  refine mj_getR C inK_all rfl e_GK 2 (by decide) l_K_15 rfl dK_perform_147 ?_
  refine mj_iload_n C dK_perform_150 rfl ?_
  have t8 := mk_isT h.1
  refine mj_aald (t0 := 2) C e_tasks rfl h.1 rfl dK_perform_151 ?_
  have h := h.2
  refine mj_iload_n C dK_perform_152 rfl ?_
  refine mj_callS_iWK C (qK_compute hok h) (g_K_compute l_K_199) z_K_compute ⟨Nat.le_of_ble_eq_true rfl, Nat.le_of_ble_eq_true rfl, rfl, rfl⟩ rfl rfl (Nat.le_of_ble_eq_true rfl) dK_perform_153 (fun a9 k10 h => ?_)
  exact mj_iret C Z dK_perform_156 ⟨_, _, rfl, rfl, h⟩
def wK_perform_99 (x1 : Int32) (x2 : Int32)  (k : mj_St) (Q : Int32 → mj_St → Prop)  : Prop := wK_sendBy x1 x2 k (fun a18 k19 => (Q a18 k19))
set_option maxRecDepth 100000 in
set_option maxHeartbeats 4000000 in
theorem uK_perform_99 {E : mj_E} {r : mj_R} {mm : mj_St} {Q : Int32 → mj_St → Prop} (hok : mj_Ok (mk_v E)) (C : mj_Cx (mk_v E) r cK_perform 3 RK mj_all { frames := 4, cells := 0, slots := 0, locals := 102 }) (Z : mj_Cr (mk_v E) r (some .int) (mj_iK mm Q)) {x1 : Int32} {x2 : Int32} {k : mj_St}   (h : wK_perform_99 x1 x2 k Q) : mj_G (mk_v E) r 99 [(0, .ref 0), (1, .int x1), (2, .int x2)] [] (k, mm) := by
  unfold wK_perform_99 at h
  refine mj_aload_n C dK_perform_99 rfl ?_
  refine mj_iload_n C dK_perform_100 rfl ?_
  refine mj_iload_n C dK_perform_101 rfl ?_
  refine mj_callV_iWK C (qK_sendBy hok h) (g_K_sendBy l_K_181) rfl e_GK z_K_sendBy ⟨Nat.le_of_ble_eq_true rfl, Nat.le_of_ble_eq_true rfl, rfl, rfl⟩ rfl rfl (Nat.le_of_ble_eq_true rfl) dK_perform_102 (fun a18 k19 h => ?_)
  exact mj_iret C Z dK_perform_105 ⟨_, _, rfl, rfl, h⟩
def wK_perform_132 (x1 : Int32) (x2 : Int32)  (k : mj_St) (Q : Int32 → mj_St → Prop)  : Prop := wK_takeBack x1 x2 k (fun a32 k33 => (Q a32 k33))
set_option maxRecDepth 100000 in
set_option maxHeartbeats 4000000 in
theorem uK_perform_132 {E : mj_E} {r : mj_R} {mm : mj_St} {Q : Int32 → mj_St → Prop} (hok : mj_Ok (mk_v E)) (C : mj_Cx (mk_v E) r cK_perform 3 RK mj_all { frames := 4, cells := 0, slots := 0, locals := 102 }) (Z : mj_Cr (mk_v E) r (some .int) (mj_iK mm Q)) {x1 : Int32} {x2 : Int32} {k : mj_St}   (h : wK_perform_132 x1 x2 k Q) : mj_G (mk_v E) r 132 [(0, .ref 0), (1, .int x1), (2, .int x2)] [] (k, mm) := by
  unfold wK_perform_132 at h
  refine mj_aload_n C dK_perform_132 rfl ?_
  refine mj_iload_n C dK_perform_133 rfl ?_
  refine mj_iload_n C dK_perform_134 rfl ?_
  refine mj_callV_iWK C (qK_takeBack hok h) (g_K_takeBack l_K_193) rfl e_GK z_K_takeBack ⟨Nat.le_of_ble_eq_true rfl, Nat.le_of_ble_eq_true rfl, rfl, rfl⟩ rfl rfl (Nat.le_of_ble_eq_true rfl) dK_perform_135 (fun a32 k33 h => ?_)
  exact mj_iret C Z dK_perform_138 ⟨_, _, rfl, rfl, h⟩
def wK_perform (p0 : Int32) (p1 : Int32) (k : mj_St) (Q : Int32 → mj_St → Prop) : Prop := wK_opOf p1 (fun a1 => (((a1 = 8) → wK_perform_80 p0 p1 k Q) ∧ (¬ a1 = 8 → (((a1 = 9) → wK_perform_80 p0 p1 k Q) ∧ (¬ a1 = 9 → (((a1 = 10) → wK_perform_146 p0 p1 k Q) ∧ (¬ a1 = 10 → (((a1 = 11) → wK_perform_146 p0 p1 k Q) ∧ (¬ a1 = 11 → (((a1 = 12) → wK_perform_146 p0 p1 k Q) ∧ (¬ a1 = 12 → (((a1 = 13) → wK_perform_146 p0 p1 k Q) ∧ (¬ a1 = 13 → (((a1 = 14) → wK_printBy p0 p1 k (fun a15 k16 => (Q a15 k16))) ∧ (¬ a1 = 14 → (((a1 = 15) → wK_perform_99 p0 p1 k Q) ∧ (¬ a1 = 15 → (((a1 = 16) → wK_perform_99 p0 p1 k Q) ∧ (¬ a1 = 16 → (((a1 = 17) → wK_receiveBy p0 p1 k (fun a22 k23 => (Q a22 k23))) ∧ (¬ a1 = 17 → (((a1 = 18) → vp_in p0 6 ∧ (wK_answerCaller (3 + p0.toNatClampNeg) p1 k (fun a26 k27 => (Q a26 k27)))) ∧ (¬ a1 = 18 → (((a1 = 19) → wK_mintInto p0 p1 k (fun a29 k30 => (Q a29 k30))) ∧ (¬ a1 = 19 → (((a1 = 20) → wK_perform_132 p0 p1 k Q) ∧ (¬ a1 = 20 → (((a1 = 21) → wK_perform_132 p0 p1 k Q) ∧ (¬ a1 = 21 → (((a1 = 22) → wK_lookIntoSlot p0 p1 k (fun a36 k37 => (Q a36 k37))) ∧ (¬ a1 = 22 → (wK_perform_146 p0 p1 k Q))))))))))))))))))))))))))))))))
set_option maxRecDepth 100000 in
set_option maxHeartbeats 4000000 in
theorem qK_perform {E : mj_E} (hok : mj_Ok (mk_v E)) {p0 : Int32} {p1 : Int32} {k mm : mj_St} {Q : Int32 → mj_St → Prop} (h : wK_perform p0 p1 k Q) : mj_Ct (mk_v E) yK_perform (Cond.code yK_perform cK_perform 3 (some .int) :: mj_all) { frames := 4, cells := 0, slots := 0, locals := 102 } [.ref 0, .int p0, .int p1] (k, mm) (mj_iK mm Q) := by
  refine mj_enterA (L := [(0, .ref 0), (1, .int p0), (2, .int p1)]) hok (by decide +kernel) ⟨rfl, rfl⟩ (fun _ => Nat.le_of_ble_eq_true rfl) rfl (fun r C Z => ?_)
  unfold wK_perform at h
  refine mj_iload_n C dK_perform_0 rfl ?_
  refine mj_callS_iR C (qK_opOf hok h) (g_K_opOf l_K_159) z_K_opOf ⟨Nat.le_of_ble_eq_true rfl, Nat.le_of_ble_eq_true rfl, rfl, rfl⟩ rfl rfl (Nat.le_of_ble_eq_true rfl) dK_perform_1 (fun a1 h => ?_)
  by_cases c2 : a1 = 8
  · have h := h.1 c2
    refine mj_tableIn (off := 76) (tgt := 80) C dK_perform_4 (by rw [c2]; decide) (by rw [c2]; decide) (by rw [c2]; rfl) (by decide) ?_
    exact mj_sub2 (uK_perform_80 hok C Z  h) ⟨rfl, rfl, rfl, trivial⟩
  have h := h.2 c2
  by_cases c6 : a1 = 9
  · have h := h.1 c6
    refine mj_tableIn (off := 76) (tgt := 80) C dK_perform_4 (by rw [c6]; decide) (by rw [c6]; decide) (by rw [c6]; rfl) (by decide) ?_
    exact mj_sub2 (uK_perform_80 hok C Z  h) ⟨rfl, rfl, rfl, trivial⟩
  have h := h.2 c6
  by_cases c7 : a1 = 10
  · have h := h.1 c7
    refine mj_tableIn (off := 142) (tgt := 146) C dK_perform_4 (by rw [c7]; decide) (by rw [c7]; decide) (by rw [c7]; rfl) (by decide) ?_
    exact mj_sub2 (uK_perform_146 hok C Z  h) ⟨rfl, rfl, rfl, trivial⟩
  have h := h.2 c7
  by_cases c11 : a1 = 11
  · have h := h.1 c11
    refine mj_tableIn (off := 142) (tgt := 146) C dK_perform_4 (by rw [c11]; decide) (by rw [c11]; decide) (by rw [c11]; rfl) (by decide) ?_
    exact mj_sub2 (uK_perform_146 hok C Z  h) ⟨rfl, rfl, rfl, trivial⟩
  have h := h.2 c11
  by_cases c12 : a1 = 12
  · have h := h.1 c12
    refine mj_tableIn (off := 142) (tgt := 146) C dK_perform_4 (by rw [c12]; decide) (by rw [c12]; decide) (by rw [c12]; rfl) (by decide) ?_
    exact mj_sub2 (uK_perform_146 hok C Z  h) ⟨rfl, rfl, rfl, trivial⟩
  have h := h.2 c12
  by_cases c13 : a1 = 13
  · have h := h.1 c13
    refine mj_tableIn (off := 142) (tgt := 146) C dK_perform_4 (by rw [c13]; decide) (by rw [c13]; decide) (by rw [c13]; rfl) (by decide) ?_
    exact mj_sub2 (uK_perform_146 hok C Z  h) ⟨rfl, rfl, rfl, trivial⟩
  have h := h.2 c13
  by_cases c14 : a1 = 14
  · have h := h.1 c14
    refine mj_tableIn (off := 88) (tgt := 92) C dK_perform_4 (by rw [c14]; decide) (by rw [c14]; decide) (by rw [c14]; rfl) (by decide) ?_
    refine mj_aload_n C dK_perform_92 rfl ?_
    refine mj_iload_n C dK_perform_93 rfl ?_
    refine mj_iload_n C dK_perform_94 rfl ?_
    refine mj_callV_iWK C (qK_printBy hok h) (g_K_printBy l_K_178) rfl e_GK z_K_printBy ⟨Nat.le_of_ble_eq_true rfl, Nat.le_of_ble_eq_true rfl, rfl, rfl⟩ rfl rfl (Nat.le_of_ble_eq_true rfl) dK_perform_95 (fun a15 k16 h => ?_)
    exact mj_iret C Z dK_perform_98 ⟨_, _, rfl, rfl, h⟩
  have h := h.2 c14
  by_cases c17 : a1 = 15
  · have h := h.1 c17
    refine mj_tableIn (off := 95) (tgt := 99) C dK_perform_4 (by rw [c17]; decide) (by rw [c17]; decide) (by rw [c17]; rfl) (by decide) ?_
    exact mj_sub2 (uK_perform_99 hok C Z  h) ⟨rfl, rfl, rfl, trivial⟩
  have h := h.2 c17
  by_cases c20 : a1 = 16
  · have h := h.1 c20
    refine mj_tableIn (off := 95) (tgt := 99) C dK_perform_4 (by rw [c20]; decide) (by rw [c20]; decide) (by rw [c20]; rfl) (by decide) ?_
    exact mj_sub2 (uK_perform_99 hok C Z  h) ⟨rfl, rfl, rfl, trivial⟩
  have h := h.2 c20
  by_cases c21 : a1 = 17
  · have h := h.1 c21
    refine mj_tableIn (off := 102) (tgt := 106) C dK_perform_4 (by rw [c21]; decide) (by rw [c21]; decide) (by rw [c21]; rfl) (by decide) ?_
    refine mj_aload_n C dK_perform_106 rfl ?_
    refine mj_iload_n C dK_perform_107 rfl ?_
    refine mj_iload_n C dK_perform_108 rfl ?_
    refine mj_callV_iWK C (qK_receiveBy hok h) (g_K_receiveBy l_K_184) rfl e_GK z_K_receiveBy ⟨Nat.le_of_ble_eq_true rfl, Nat.le_of_ble_eq_true rfl, rfl, rfl⟩ rfl rfl (Nat.le_of_ble_eq_true rfl) dK_perform_109 (fun a22 k23 h => ?_)
    exact mj_iret C Z dK_perform_112 ⟨_, _, rfl, rfl, h⟩
  have h := h.2 c21
  by_cases c24 : a1 = 18
  · have h := h.1 c24
    refine mj_tableIn (off := 109) (tgt := 113) C dK_perform_4 (by rw [c24]; decide) (by rw [c24]; decide) (by rw [c24]; rfl) (by decide) ?_
    refine mj_aload_n C dK_perform_113 rfl ?_
    refine mj_aload_n C dK_perform_114 rfl ?_
    refine mj_getR C inK_all rfl e_GK 2 (by decide) l_K_15 rfl dK_perform_115 ?_
    refine mj_iload_n C dK_perform_118 rfl ?_
    have t25 := mk_isT h.1
    refine mj_aald (t0 := 2) C e_tasks rfl h.1 rfl dK_perform_119 ?_
    have h := h.2
    refine mj_iload_n C dK_perform_120 rfl ?_
    refine mj_callV_iWK C (qK_answerCaller hok h) (g_K_answerCaller l_K_187) rfl e_GK z_K_answerCaller ⟨Nat.le_of_ble_eq_true rfl, Nat.le_of_ble_eq_true rfl, rfl, rfl⟩ rfl rfl (Nat.le_of_ble_eq_true rfl) dK_perform_121 (fun a26 k27 h => ?_)
    exact mj_iret C Z dK_perform_124 ⟨_, _, rfl, rfl, h⟩
  have h := h.2 c24
  by_cases c28 : a1 = 19
  · have h := h.1 c28
    refine mj_tableIn (off := 121) (tgt := 125) C dK_perform_4 (by rw [c28]; decide) (by rw [c28]; decide) (by rw [c28]; rfl) (by decide) ?_
    refine mj_aload_n C dK_perform_125 rfl ?_
    refine mj_iload_n C dK_perform_126 rfl ?_
    refine mj_iload_n C dK_perform_127 rfl ?_
    refine mj_callV_iWK C (qK_mintInto hok h) (g_K_mintInto l_K_190) rfl e_GK z_K_mintInto ⟨Nat.le_of_ble_eq_true rfl, Nat.le_of_ble_eq_true rfl, rfl, rfl⟩ rfl rfl (Nat.le_of_ble_eq_true rfl) dK_perform_128 (fun a29 k30 h => ?_)
    exact mj_iret C Z dK_perform_131 ⟨_, _, rfl, rfl, h⟩
  have h := h.2 c28
  by_cases c31 : a1 = 20
  · have h := h.1 c31
    refine mj_tableIn (off := 128) (tgt := 132) C dK_perform_4 (by rw [c31]; decide) (by rw [c31]; decide) (by rw [c31]; rfl) (by decide) ?_
    exact mj_sub2 (uK_perform_132 hok C Z  h) ⟨rfl, rfl, rfl, trivial⟩
  have h := h.2 c31
  by_cases c34 : a1 = 21
  · have h := h.1 c34
    refine mj_tableIn (off := 128) (tgt := 132) C dK_perform_4 (by rw [c34]; decide) (by rw [c34]; decide) (by rw [c34]; rfl) (by decide) ?_
    exact mj_sub2 (uK_perform_132 hok C Z  h) ⟨rfl, rfl, rfl, trivial⟩
  have h := h.2 c34
  by_cases c35 : a1 = 22
  · have h := h.1 c35
    refine mj_tableIn (off := 135) (tgt := 139) C dK_perform_4 (by rw [c35]; decide) (by rw [c35]; decide) (by rw [c35]; rfl) (by decide) ?_
    refine mj_aload_n C dK_perform_139 rfl ?_
    refine mj_iload_n C dK_perform_140 rfl ?_
    refine mj_iload_n C dK_perform_141 rfl ?_
    refine mj_callV_iWK C (qK_lookIntoSlot hok h) (g_K_lookIntoSlot l_K_196) rfl e_GK z_K_lookIntoSlot ⟨Nat.le_of_ble_eq_true rfl, Nat.le_of_ble_eq_true rfl, rfl, rfl⟩ rfl rfl (Nat.le_of_ble_eq_true rfl) dK_perform_142 (fun a36 k37 h => ?_)
    exact mj_iret C Z dK_perform_145 ⟨_, _, rfl, rfl, h⟩
  have h := h.2 c35
  have nc2 := lv_neT (k := 8) (a := 8) c2 (by decide)
  have nc6 := lv_neT (k := 9) (a := 9) c6 (by decide)
  have nc7 := lv_neT (k := 10) (a := 10) c7 (by decide)
  have nc11 := lv_neT (k := 11) (a := 11) c11 (by decide)
  have nc12 := lv_neT (k := 12) (a := 12) c12 (by decide)
  have nc13 := lv_neT (k := 13) (a := 13) c13 (by decide)
  have nc14 := lv_neT (k := 14) (a := 14) c14 (by decide)
  have nc17 := lv_neT (k := 15) (a := 15) c17 (by decide)
  have nc20 := lv_neT (k := 16) (a := 16) c20 (by decide)
  have nc21 := lv_neT (k := 17) (a := 17) c21 (by decide)
  have nc24 := lv_neT (k := 18) (a := 18) c24 (by decide)
  have nc28 := lv_neT (k := 19) (a := 19) c28 (by decide)
  have nc31 := lv_neT (k := 20) (a := 20) c31 (by decide)
  have nc34 := lv_neT (k := 21) (a := 21) c34 (by decide)
  have nc35 := lv_neT (k := 22) (a := 22) c35 (by decide)
  refine mj_tableOut (tgt := 146) C dK_perform_4 (by omega) (by decide) ?_
  exact mj_sub2 (uK_perform_146 hok C Z  h) ⟨rfl, rfl, rfl, trivial⟩
/-! GrantKernel.counterAfter -/
def wK_counterAfter_46 (x0 : Nat) (x1 : Int32) (y0 : Int32) (k : mj_St)  (Q : Int32 → Prop)  : Prop := mk_T x0 ∧ (((y0 = 0) → Q ((k x0 3) + 1)) ∧ ((¬ y0 = 0) → wK_numberOf x1 (fun a9 => (Q a9))))
set_option maxRecDepth 100000 in
set_option maxHeartbeats 4000000 in
theorem uK_counterAfter_46 {E : mj_E} {r : mj_R} {mm : mj_St} {k : mj_St} {Q : Int32 → Prop} (hok : mj_Ok (mk_v E)) (C : mj_Cx (mk_v E) r cK_counterAfter 5 RK mj_all { frames := 1, cells := 0, slots := 0, locals := 20 }) (Z : mj_Cr (mk_v E) r (some .int) (mj_iR (k, mm) Q)) {x0 : Nat} {x1 : Int32} {y0 : Int32}    (h : wK_counterAfter_46 x0 x1 y0 k Q) : mj_G (mk_v E) r 46 [(0, .ref x0), (1, .int x1)] [.int y0] (k, mm) := by
  unfold wK_counterAfter_46 at h
  have t7 := h.1
  have h := h.2
  refine mj_istore C dK_counterAfter_46 (by decide) rfl ?_
  refine mj_iload C dK_counterAfter_48 rfl ?_
  refine mj_if_eq (tgt := 60) C dK_counterAfter_50 (by decide) (fun c8 => ?_) (fun c8 => ?_)
  · have h := h.1 c8
    refine mj_aload_n C dK_counterAfter_60 rfl ?_
    refine mj_getI C inT_all rfl (e_Task t7) 3 (by decide) l_K_118 rfl dK_counterAfter_61 ?_
    refine mj_iconst (a := 1) C dK_counterAfter_64 (by decide) ?_
    refine mj_iadd C dK_counterAfter_65 ?_
    exact mj_iret C Z dK_counterAfter_66 ⟨_, rfl, rfl, h⟩
  · have h := h.2 c8
    refine mj_iload_n C dK_counterAfter_53 rfl ?_
    refine mj_callS_iR C (qK_numberOf hok h) (g_K_numberOf l_K_136) z_K_numberOf ⟨Nat.le_of_ble_eq_true rfl, Nat.le_of_ble_eq_true rfl, rfl, rfl⟩ rfl rfl (Nat.le_of_ble_eq_true rfl) dK_counterAfter_54 (fun a9 h => ?_)
    refine mj_goto (tgt := 66) C dK_counterAfter_57 (by decide) ?_
    exact mj_iret C Z dK_counterAfter_66 ⟨_, rfl, rfl, h⟩
def wK_counterAfter_41 (x0 : Nat) (x1 : Int32) (k : mj_St)  (Q : Int32 → Prop)  : Prop := mk_T x0 ∧ (wK_counterAfter_46 x0 x1 1 k Q)
set_option maxRecDepth 100000 in
set_option maxHeartbeats 4000000 in
theorem uK_counterAfter_41 {E : mj_E} {r : mj_R} {mm : mj_St} {k : mj_St} {Q : Int32 → Prop} (hok : mj_Ok (mk_v E)) (C : mj_Cx (mk_v E) r cK_counterAfter 5 RK mj_all { frames := 1, cells := 0, slots := 0, locals := 20 }) (Z : mj_Cr (mk_v E) r (some .int) (mj_iR (k, mm) Q)) {x0 : Nat} {x1 : Int32}    (h : wK_counterAfter_41 x0 x1 k Q) : mj_G (mk_v E) r 41 [(0, .ref x0), (1, .int x1)] [] (k, mm) := by
  unfold wK_counterAfter_41 at h
  have t6 := h.1
  have h := h.2
  refine mj_iconst (a := 1) C dK_counterAfter_41 (by decide) ?_
  refine mj_goto (tgt := 46) C dK_counterAfter_42 (by decide) ?_
  exact mj_sub2 (uK_counterAfter_46 hok C Z  h) ⟨rfl, rfl, trivial⟩
def wK_counterAfter_45 (x0 : Nat) (x1 : Int32) (k : mj_St)  (Q : Int32 → Prop)  : Prop := mk_T x0 ∧ (wK_counterAfter_46 x0 x1 0 k Q)
set_option maxRecDepth 100000 in
set_option maxHeartbeats 4000000 in
theorem uK_counterAfter_45 {E : mj_E} {r : mj_R} {mm : mj_St} {k : mj_St} {Q : Int32 → Prop} (hok : mj_Ok (mk_v E)) (C : mj_Cx (mk_v E) r cK_counterAfter 5 RK mj_all { frames := 1, cells := 0, slots := 0, locals := 20 }) (Z : mj_Cr (mk_v E) r (some .int) (mj_iR (k, mm) Q)) {x0 : Nat} {x1 : Int32}    (h : wK_counterAfter_45 x0 x1 k Q) : mj_G (mk_v E) r 45 [(0, .ref x0), (1, .int x1)] [] (k, mm) := by
  unfold wK_counterAfter_45 at h
  have t13 := h.1
  have h := h.2
  refine mj_iconst (a := 0) C dK_counterAfter_45 (by decide) ?_
  exact mj_sub2 (uK_counterAfter_46 hok C Z  h) ⟨rfl, rfl, trivial⟩
def wK_counterAfter_31 (x0 : Nat) (x1 : Int32) (x2 : Int32) (x3 : Int32) (k : mj_St)  (Q : Int32 → Prop)  : Prop := mk_T x0 ∧ (((¬ x3 = 12) → wK_counterAfter_45 x0 x1 k Q) ∧ ((x3 = 12) → ((0 ≤ x2) → wK_counterAfter_45 x0 x1 k Q) ∧ ((¬ 0 ≤ x2) → wK_counterAfter_41 x0 x1 k Q)))
set_option maxRecDepth 100000 in
set_option maxHeartbeats 4000000 in
theorem uK_counterAfter_31 {E : mj_E} {r : mj_R} {mm : mj_St} {k : mj_St} {Q : Int32 → Prop} (hok : mj_Ok (mk_v E)) (C : mj_Cx (mk_v E) r cK_counterAfter 5 RK mj_all { frames := 1, cells := 0, slots := 0, locals := 20 }) (Z : mj_Cr (mk_v E) r (some .int) (mj_iR (k, mm) Q)) {x0 : Nat} {x1 : Int32} {x2 : Int32} {x3 : Int32}    (h : wK_counterAfter_31 x0 x1 x2 x3 k Q) : mj_G (mk_v E) r 31 [(0, .ref x0), (1, .int x1), (2, .int x2), (3, .int x3)] [] (k, mm) := by
  unfold wK_counterAfter_31 at h
  have t11 := h.1
  have h := h.2
  refine mj_iload_n C dK_counterAfter_31 rfl ?_
  refine mj_bipush (a := 12) C dK_counterAfter_32 (by decide) ?_
  refine mj_icmp_ne (tgt := 45) C dK_counterAfter_34 (by decide) (fun c12 => ?_) (fun c12 => ?_)
  · have h := h.1 c12
    exact mj_sub2 (uK_counterAfter_45 hok C Z  h) ⟨rfl, rfl, trivial⟩
  · have h := h.2 c12
    refine mj_iload_n C dK_counterAfter_37 rfl ?_
    refine mj_if_ge (tgt := 45) C dK_counterAfter_38 (by decide) (fun c14 => ?_) (fun c14 => ?_)
    · have h := h.1 c14
      exact mj_sub2 (uK_counterAfter_45 hok C Z  h) ⟨rfl, rfl, trivial⟩
    · have h := h.2 c14
      exact mj_sub2 (uK_counterAfter_41 hok C Z  h) ⟨rfl, rfl, trivial⟩
def wK_counterAfter (p0 : Nat) (p1 : Int32) (k : mj_St) (Q : Int32 → Prop) : Prop := mk_T p0 ∧ (wK_fieldA p1 (fun a2 => (vp_in a2 8 ∧ (∀ a3 : Int32, a3 = k (p0 + 6) a2.toNatClampNeg → (wK_opOf p1 (fun a4 => (((a4 = 10) → wK_counterAfter_41 p0 p1 k Q) ∧ ((¬ a4 = 10) → ((¬ a4 = 11) → wK_counterAfter_31 p0 p1 a3 a4 k Q) ∧ ((a4 = 11) → ((a3 = 0) → wK_counterAfter_41 p0 p1 k Q) ∧ ((¬ a3 = 0) → wK_counterAfter_31 p0 p1 a3 a4 k Q))))))))))
set_option maxRecDepth 100000 in
set_option maxHeartbeats 4000000 in
theorem qK_counterAfter {E : mj_E} (hok : mj_Ok (mk_v E)) {p0 : Nat} {p1 : Int32} {k mm : mj_St} {Q : Int32 → Prop} (h : wK_counterAfter p0 p1 k Q) : mj_Ct (mk_v E) yK_counterAfter (Cond.code yK_counterAfter cK_counterAfter 5 (some .int) :: mj_all) { frames := 1, cells := 0, slots := 0, locals := 20 } [.ref p0, .int p1] (k, mm) (mj_iR (k, mm) Q) := by
  refine mj_enterA (L := [(0, .ref p0), (1, .int p1)]) hok (by decide +kernel) ⟨rfl, rfl⟩ (fun _ => Nat.le_of_ble_eq_true rfl) rfl (fun r C Z => ?_)
  unfold wK_counterAfter at h
  have t1 := h.1
  have h := h.2
  refine mj_aload_n C dK_counterAfter_0 rfl ?_
  refine mj_getR C inT_all rfl (e_Task t1) 0 (by decide) l_K_78 rfl dK_counterAfter_1 ?_
  refine mj_iload_n C dK_counterAfter_4 rfl ?_
  refine mj_callS_iR C (qK_fieldA hok h) (g_K_fieldA l_K_172) z_K_fieldA ⟨Nat.le_of_ble_eq_true rfl, Nat.le_of_ble_eq_true rfl, rfl, rfl⟩ rfl rfl (Nat.le_of_ble_eq_true rfl) dK_counterAfter_5 (fun a2 h => ?_)
  refine mj_iald (t0 := 0) C (e_regs t1) rfl h.1 dK_counterAfter_8 ?_
  have h := h.2
  refine mj_istore_n C dK_counterAfter_9 (by decide) rfl ?_
  have h := h _ rfl
  refine mj_iload_n C dK_counterAfter_10 rfl ?_
  refine mj_callS_iR C (qK_opOf hok h) (g_K_opOf l_K_159) z_K_opOf ⟨Nat.le_of_ble_eq_true rfl, Nat.le_of_ble_eq_true rfl, rfl, rfl⟩ rfl rfl (Nat.le_of_ble_eq_true rfl) dK_counterAfter_11 (fun a4 h => ?_)
  refine mj_istore_n C dK_counterAfter_14 (by decide) rfl ?_
  refine mj_iload_n C dK_counterAfter_15 rfl ?_
  refine mj_bipush (a := 10) C dK_counterAfter_16 (by decide) ?_
  refine mj_icmp_eq (tgt := 41) C dK_counterAfter_18 (by decide) (fun c5 => ?_) (fun c5 => ?_)
  · have h := h.1 c5
    exact mj_sub2 (uK_counterAfter_41 hok C Z  h) ⟨rfl, rfl, trivial⟩
  · have h := h.2 c5
    refine mj_iload_n C dK_counterAfter_21 rfl ?_
    refine mj_bipush (a := 11) C dK_counterAfter_22 (by decide) ?_
    refine mj_icmp_ne (tgt := 31) C dK_counterAfter_24 (by decide) (fun c10 => ?_) (fun c10 => ?_)
    · have h := h.1 c10
      exact mj_sub2 (uK_counterAfter_31 hok C Z  h) ⟨rfl, rfl, rfl, rfl, trivial⟩
    · have h := h.2 c10
      refine mj_iload_n C dK_counterAfter_27 rfl ?_
      refine mj_if_eq (tgt := 41) C dK_counterAfter_28 (by decide) (fun c15 => ?_) (fun c15 => ?_)
      · have h := h.1 c15
        exact mj_sub2 (uK_counterAfter_41 hok C Z  h) ⟨rfl, rfl, trivial⟩
      · have h := h.2 c15
        exact mj_sub2 (uK_counterAfter_31 hok C Z  h) ⟨rfl, rfl, rfl, rfl, trivial⟩
/-! GrantKernel.settleFirst -/
def wK_settleFirst_49 (x1 : Int32) (x3 : Int32)  (k : mj_St) (Q : mj_St → Prop)  : Prop := wN_takeFirst 15 k (fun k5 => (((x3 = 0) → ∀ k7 : mj_St, k7 = mj_up k5 0 7 0 → (Q k7)) ∧ ((¬ x3 = 0) → wN_append 15 x1 k5 (fun k8 => (∀ k9 : mj_St, k9 = mj_up k8 0 7 0 → (Q k9))))))
set_option maxRecDepth 100000 in
set_option maxHeartbeats 4000000 in
theorem uK_settleFirst_49 {E : mj_E} {r : mj_R} {mm : mj_St} {Q : mj_St → Prop} (hok : mj_Ok (mk_v E)) (C : mj_Cx (mk_v E) r cK_settleFirst 4 RK mj_all { frames := 1, cells := 0, slots := 0, locals := 21 }) (Z : mj_Cr (mk_v E) r none (mj_vK mm Q)) {x1 : Int32} {x3 : Int32} {k : mj_St}   (h : wK_settleFirst_49 x1 x3 k Q) : mj_G (mk_v E) r 49 [(0, .ref 0), (1, .int x1), (3, .int x3)] [] (k, mm) := by
  unfold wK_settleFirst_49 at h
  refine mj_aload_n C dK_settleFirst_49 rfl ?_
  refine mj_getR C inK_all rfl e_GK 3 (by decide) l_K_22 rfl dK_settleFirst_50 ?_
  refine mj_callV_vWK C (qN_takeFirst hok h) (g_N_takeFirst l_K_169) rfl (e_Line (by decide)) z_N_takeFirst ⟨Nat.le_of_ble_eq_true rfl, Nat.le_of_ble_eq_true rfl, rfl, rfl⟩ rfl rfl (Nat.le_of_ble_eq_true rfl) dK_settleFirst_53 (fun k5 h => ?_)
  refine mj_iload_n C dK_settleFirst_56 rfl ?_
  refine mj_if_eq (tgt := 68) C dK_settleFirst_57 (by decide) (fun c6 => ?_) (fun c6 => ?_)
  · have h := h.1 c6
    refine mj_aload_n C dK_settleFirst_68 rfl ?_
    refine mj_iconst (a := 0) C dK_settleFirst_69 (by decide) ?_
    refine mj_put C inK_all rfl tyK okK nmK e_GK 7 (by decide) l_K_166 rfl (by decide +kernel) (Nat.le_of_ble_eq_true rfl) s_GK_7 dK_settleFirst_70 ?_
    have h := h _ rfl
    exact mj_vret C Z dK_settleFirst_73 ⟨_, rfl, rfl, h⟩
  · have h := h.2 c6
    refine mj_aload_n C dK_settleFirst_60 rfl ?_
    refine mj_getR C inK_all rfl e_GK 3 (by decide) l_K_22 rfl dK_settleFirst_61 ?_
    refine mj_iload_n C dK_settleFirst_64 rfl ?_
    refine mj_callV_vWK C (qN_append hok h) (g_N_append l_K_139) rfl (e_Line (by decide)) z_N_append ⟨Nat.le_of_ble_eq_true rfl, Nat.le_of_ble_eq_true rfl, rfl, rfl⟩ rfl rfl (Nat.le_of_ble_eq_true rfl) dK_settleFirst_65 (fun k8 h => ?_)
    refine mj_aload_n C dK_settleFirst_68 rfl ?_
    refine mj_iconst (a := 0) C dK_settleFirst_69 (by decide) ?_
    refine mj_put C inK_all rfl tyK okK nmK e_GK 7 (by decide) l_K_166 rfl (by decide +kernel) (Nat.le_of_ble_eq_true rfl) s_GK_7 dK_settleFirst_70 ?_
    have h := h _ rfl
    exact mj_vret C Z dK_settleFirst_73 ⟨_, rfl, rfl, h⟩
def wK_settleFirst_28 (x1 : Int32) (x2 : Int32) (y0 : Int32)  (k : mj_St) (Q : mj_St → Prop)  : Prop := ((y0 = 0) → wK_settleFirst_49 x1 y0 k Q) ∧ ((¬ y0 = 0) → ((¬ x2 = 0) → wK_settleFirst_49 x1 y0 k Q) ∧ ((x2 = 0) → (((k 0 0) ≤ (k 0 7)) → wK_settleFirst_49 x1 y0 k Q) ∧ ((¬ (k 0 0) ≤ (k 0 7)) → Q k)))
set_option maxRecDepth 100000 in
set_option maxHeartbeats 4000000 in
theorem uK_settleFirst_28 {E : mj_E} {r : mj_R} {mm : mj_St} {Q : mj_St → Prop} (hok : mj_Ok (mk_v E)) (C : mj_Cx (mk_v E) r cK_settleFirst 4 RK mj_all { frames := 1, cells := 0, slots := 0, locals := 21 }) (Z : mj_Cr (mk_v E) r none (mj_vK mm Q)) {x1 : Int32} {x2 : Int32} {y0 : Int32} {k : mj_St}   (h : wK_settleFirst_28 x1 x2 y0 k Q) : mj_G (mk_v E) r 28 [(0, .ref 0), (1, .int x1), (2, .int x2)] [.int y0] (k, mm) := by
  unfold wK_settleFirst_28 at h
  refine mj_istore_n C dK_settleFirst_28 (by decide) rfl ?_
  refine mj_iload_n C dK_settleFirst_29 rfl ?_
  refine mj_if_eq (tgt := 49) C dK_settleFirst_30 (by decide) (fun c4 => ?_) (fun c4 => ?_)
  · have h := h.1 c4
    exact mj_sub2 (uK_settleFirst_49 hok C Z  h) ⟨rfl, rfl, rfl, trivial⟩
  · have h := h.2 c4
    refine mj_iload_n C dK_settleFirst_33 rfl ?_
    refine mj_if_ne (tgt := 49) C dK_settleFirst_34 (by decide) (fun c10 => ?_) (fun c10 => ?_)
    · have h := h.1 c10
      exact mj_sub2 (uK_settleFirst_49 hok C Z  h) ⟨rfl, rfl, rfl, trivial⟩
    · have h := h.2 c10
      refine mj_aload_n C dK_settleFirst_37 rfl ?_
      refine mj_getI C inK_all rfl e_GK 7 (by decide) l_K_166 rfl dK_settleFirst_38 ?_
      refine mj_aload_n C dK_settleFirst_41 rfl ?_
      refine mj_getI C inK_all rfl e_GK 0 (by decide) l_K_53 rfl dK_settleFirst_42 ?_
      refine mj_icmp_ge (tgt := 49) C dK_settleFirst_45 (by decide) (fun c11 => ?_) (fun c11 => ?_)
      · have h := h.1 c11
        exact mj_sub2 (uK_settleFirst_49 hok C Z  h) ⟨rfl, rfl, rfl, trivial⟩
      · have h := h.2 c11
        exact mj_vret C Z dK_settleFirst_48 ⟨_, rfl, rfl, h⟩
def wK_settleFirst (p0 : Int32) (p1 : Int32) (k : mj_St) (Q : mj_St → Prop) : Prop := ∀ k1 : mj_St, k1 = mj_up k 0 7 ((k 0 7) + 1) → (vp_in p0 6 ∧ (((¬ (k1 (3 + p0.toNatClampNeg) 1) = 1) → wK_settleFirst_28 p0 p1 0 k1 Q) ∧ (((k1 (3 + p0.toNatClampNeg) 1) = 1) → wK_settleFirst_28 p0 p1 1 k1 Q)))
set_option maxRecDepth 100000 in
set_option maxHeartbeats 4000000 in
theorem qK_settleFirst {E : mj_E} (hok : mj_Ok (mk_v E)) {p0 : Int32} {p1 : Int32} {k mm : mj_St} {Q : mj_St → Prop} (h : wK_settleFirst p0 p1 k Q) : mj_Ct (mk_v E) yK_settleFirst (Cond.code yK_settleFirst cK_settleFirst 4 none :: mj_all) { frames := 1, cells := 0, slots := 0, locals := 21 } [.ref 0, .int p0, .int p1] (k, mm) (mj_vK mm Q) := by
  refine mj_enterA (L := [(0, .ref 0), (1, .int p0), (2, .int p1)]) hok (by decide +kernel) ⟨rfl, rfl⟩ (fun _ => Nat.le_of_ble_eq_true rfl) rfl (fun r C Z => ?_)
  unfold wK_settleFirst at h
  refine mj_aload_n C dK_settleFirst_0 rfl ?_
  refine mj_dup C dK_settleFirst_1 rfl ?_
  refine mj_getI C inK_all rfl e_GK 7 (by decide) l_K_166 rfl dK_settleFirst_2 ?_
  refine mj_iconst (a := 1) C dK_settleFirst_5 (by decide) ?_
  refine mj_iadd C dK_settleFirst_6 ?_
  refine mj_put C inK_all rfl tyK okK nmK e_GK 7 (by decide) l_K_166 rfl (by decide +kernel) (Nat.le_of_ble_eq_true rfl) s_GK_7 dK_settleFirst_7 ?_
  have h := h _ rfl
  refine mj_aload_n C dK_settleFirst_10 rfl ?_
  refine mj_getR C inK_all rfl e_GK 2 (by decide) l_K_15 rfl dK_settleFirst_11 ?_
  refine mj_iload_n C dK_settleFirst_14 rfl ?_
  have t2 := mk_isT h.1
  refine mj_aald (t0 := 2) C e_tasks rfl h.1 rfl dK_settleFirst_15 ?_
  have h := h.2
  refine mj_getI C inT_all rfl (e_Task t2) 1 (by decide) l_K_96 rfl dK_settleFirst_16 ?_
  refine mj_iconst (a := 1) C dK_settleFirst_19 (by decide) ?_
  refine mj_icmp_ne (tgt := 27) C dK_settleFirst_20 (by decide) (fun c3 => ?_) (fun c3 => ?_)
  · have h := h.1 c3
    refine mj_iconst (a := 0) C dK_settleFirst_27 (by decide) ?_
    exact mj_sub2 (uK_settleFirst_28 hok C Z  h) ⟨rfl, rfl, rfl, trivial⟩
  · have h := h.2 c3
    refine mj_iconst (a := 1) C dK_settleFirst_23 (by decide) ?_
    refine mj_goto (tgt := 28) C dK_settleFirst_24 (by decide) ?_
    exact mj_sub2 (uK_settleFirst_28 hok C Z  h) ⟨rfl, rfl, rfl, trivial⟩
/-! GrantKernel.runFirst -/
def wK_runFirst_94 (x1 : Int32) (x3 : Int32)  (k : mj_St) (Q : mj_St → Prop)  : Prop := wK_settleFirst x1 x3 k (fun k9 => (Q k9))
set_option maxRecDepth 100000 in
set_option maxHeartbeats 4000000 in
theorem uK_runFirst_94 {E : mj_E} {r : mj_R} {mm : mj_St} {Q : mj_St → Prop} (hok : mj_Ok (mk_v E)) (C : mj_Cx (mk_v E) r cK_runFirst 6 RK mj_all { frames := 5, cells := 0, slots := 0, locals := 124 }) (Z : mj_Cr (mk_v E) r none (mj_vK mm Q)) {x1 : Int32} {x3 : Int32} {k : mj_St}   (h : wK_runFirst_94 x1 x3 k Q) : mj_G (mk_v E) r 94 [(0, .ref 0), (1, .int x1), (3, .int x3)] [] (k, mm) := by
  unfold wK_runFirst_94 at h
  refine mj_aload_n C dK_runFirst_94 rfl ?_
  refine mj_iload_n C dK_runFirst_95 rfl ?_
  refine mj_iload_n C dK_runFirst_96 rfl ?_
  refine mj_callV_vWK C (qK_settleFirst hok h) (g_K_settleFirst l_K_162) rfl e_GK z_K_settleFirst ⟨Nat.le_of_ble_eq_true rfl, Nat.le_of_ble_eq_true rfl, rfl, rfl⟩ rfl rfl (Nat.le_of_ble_eq_true rfl) dK_runFirst_97 (fun k9 h => ?_)
  exact mj_vret C Z dK_runFirst_100 ⟨_, rfl, rfl, h⟩
def wK_runFirst_84 (x1 : Int32) (y0 : Int32)  (k : mj_St) (Q : mj_St → Prop)  : Prop := wK_runFirst_94 x1 y0 k Q
set_option maxRecDepth 100000 in
set_option maxHeartbeats 4000000 in
theorem uK_runFirst_84 {E : mj_E} {r : mj_R} {mm : mj_St} {Q : mj_St → Prop} (hok : mj_Ok (mk_v E)) (C : mj_Cx (mk_v E) r cK_runFirst 6 RK mj_all { frames := 5, cells := 0, slots := 0, locals := 124 }) (Z : mj_Cr (mk_v E) r none (mj_vK mm Q)) {x1 : Int32} {y0 : Int32} {k : mj_St}   (h : wK_runFirst_84 x1 y0 k Q) : mj_G (mk_v E) r 84 [(0, .ref 0), (1, .int x1)] [.int y0] (k, mm) := by
  unfold wK_runFirst_84 at h
  refine mj_istore_n C dK_runFirst_84 (by decide) rfl ?_
  refine mj_goto (tgt := 94) C dK_runFirst_85 (by decide) ?_
  exact mj_sub2 (uK_runFirst_94 hok C Z  h) ⟨rfl, rfl, rfl, trivial⟩
def wK_runFirst (p0 : Int32) (k : mj_St) (Q : mj_St → Prop) : Prop := vp_in p0 6 ∧ (wT_isGood (3 + p0.toNatClampNeg) ((k (3 + p0.toNatClampNeg) 3).toInt64) k (fun a2 => (((¬ a2 = 0) → vp_in ((k (3 + p0.toNatClampNeg) 4) + (k (3 + p0.toNatClampNeg) 3)) 128 ∧ (∀ a4 : Int32, a4 = k 1 ((k (3 + p0.toNatClampNeg) 4) + (k (3 + p0.toNatClampNeg) 3)).toNatClampNeg → (wK_perform p0 a4 k (fun a5 k6 => (((¬ a5 = 0) → wT_fail (3 + p0.toNatClampNeg) a5 k6 (fun k8 => (wK_runFirst_94 p0 0 k8 Q))) ∧ ((a5 = 0) → wK_counterAfter (3 + p0.toNatClampNeg) a4 k6 (fun a10 => (∀ k11 : mj_St, k11 = mj_up k6 (3 + p0.toNatClampNeg) 3 a10 → (wK_opOf a4 (fun a12 => (((¬ a12 = 13) → wK_runFirst_84 p0 0 k11 Q) ∧ ((a12 = 13) → wK_runFirst_84 p0 1 k11 Q)))))))))))) ∧ ((a2 = 0) → wT_fail (3 + p0.toNatClampNeg) 1 k (fun k14 => (wK_runFirst_94 p0 0 k14 Q))))))
set_option maxRecDepth 100000 in
set_option maxHeartbeats 4000000 in
theorem qK_runFirst {E : mj_E} (hok : mj_Ok (mk_v E)) {p0 : Int32} {k mm : mj_St} {Q : mj_St → Prop} (h : wK_runFirst p0 k Q) : mj_Ct (mk_v E) yK_runFirst (Cond.code yK_runFirst cK_runFirst 6 none :: mj_all) { frames := 5, cells := 0, slots := 0, locals := 124 } [.ref 0, .int p0] (k, mm) (mj_vK mm Q) := by
  refine mj_enterA (L := [(0, .ref 0), (1, .int p0)]) hok (by decide +kernel) ⟨rfl, rfl⟩ (fun _ => Nat.le_of_ble_eq_true rfl) rfl (fun r C Z => ?_)
  unfold wK_runFirst at h
  refine mj_aload_n C dK_runFirst_0 rfl ?_
  refine mj_getR C inK_all rfl e_GK 2 (by decide) l_K_15 rfl dK_runFirst_1 ?_
  refine mj_iload_n C dK_runFirst_4 rfl ?_
  have t1 := mk_isT h.1
  refine mj_aald (t0 := 2) C e_tasks rfl h.1 rfl dK_runFirst_5 ?_
  have h := h.2
  refine mj_astore_n C dK_runFirst_6 (by decide) rfl ?_
  refine mj_iconst (a := 0) C dK_runFirst_7 (by decide) ?_
  refine mj_istore_n C dK_runFirst_8 (by decide) rfl ?_
  refine mj_aload_n C dK_runFirst_9 rfl ?_
  refine mj_aload_n C dK_runFirst_10 rfl ?_
  refine mj_getI C inT_all rfl (e_Task t1) 3 (by decide) l_K_118 rfl dK_runFirst_11 ?_
  refine mj_i2l C dK_runFirst_14 ?_
  refine mj_callV_iR C (qT_isGood hok h) (g_T_isGood l_K_142) rfl (e_Task t1) z_T_isGood ⟨Nat.le_of_ble_eq_true rfl, Nat.le_of_ble_eq_true rfl, rfl, rfl⟩ rfl rfl (Nat.le_of_ble_eq_true rfl) dK_runFirst_15 (fun a2 h => ?_)
  refine mj_if_ne (tgt := 29) C dK_runFirst_18 (by decide) (fun c3 => ?_) (fun c3 => ?_)
  · have h := h.1 c3
    refine mj_aload_n C dK_runFirst_29 rfl ?_
    refine mj_getR C inK_all rfl e_GK 1 (by decide) l_K_9 rfl dK_runFirst_30 ?_
    refine mj_aload_n C dK_runFirst_33 rfl ?_
    refine mj_getI C inT_all rfl (e_Task t1) 4 (by decide) l_K_149 rfl dK_runFirst_34 ?_
    refine mj_aload_n C dK_runFirst_37 rfl ?_
    refine mj_getI C inT_all rfl (e_Task t1) 3 (by decide) l_K_118 rfl dK_runFirst_38 ?_
    refine mj_iadd C dK_runFirst_41 ?_
    refine mj_iald (t0 := 0) C e_memory rfl h.1 dK_runFirst_42 ?_
    have h := h.2
    refine mj_istore C dK_runFirst_43 (by decide) rfl ?_
    have h := h _ rfl
    refine mj_aload_n C dK_runFirst_45 rfl ?_
    refine mj_iload_n C dK_runFirst_46 rfl ?_
    refine mj_iload C dK_runFirst_47 rfl ?_
    refine mj_callV_iWK C (qK_perform hok h) (g_K_perform l_K_152) rfl e_GK z_K_perform ⟨Nat.le_of_ble_eq_true rfl, Nat.le_of_ble_eq_true rfl, rfl, rfl⟩ rfl rfl (Nat.le_of_ble_eq_true rfl) dK_runFirst_49 (fun a5 k6 h => ?_)
    refine mj_istore C dK_runFirst_52 (by decide) rfl ?_
    refine mj_iload C dK_runFirst_54 rfl ?_
    refine mj_if_ne (tgt := 88) C dK_runFirst_56 (by decide) (fun c7 => ?_) (fun c7 => ?_)
    · have h := h.1 c7
      refine mj_aload_n C dK_runFirst_88 rfl ?_
      refine mj_iload C dK_runFirst_89 rfl ?_
      refine mj_callV_vWK C (qT_fail hok h) (g_T_fail l_K_146) rfl (e_Task t1) z_T_fail ⟨Nat.le_of_ble_eq_true rfl, Nat.le_of_ble_eq_true rfl, rfl, rfl⟩ rfl rfl (Nat.le_of_ble_eq_true rfl) dK_runFirst_91 (fun k8 h => ?_)
      exact mj_sub2 (uK_runFirst_94 hok C Z  h) ⟨rfl, rfl, rfl, trivial⟩
    · have h := h.2 c7
      refine mj_aload_n C dK_runFirst_59 rfl ?_
      refine mj_aload_n C dK_runFirst_60 rfl ?_
      refine mj_iload C dK_runFirst_61 rfl ?_
      refine mj_callS_iR C (qK_counterAfter hok h) (g_K_counterAfter l_K_155) z_K_counterAfter ⟨Nat.le_of_ble_eq_true rfl, Nat.le_of_ble_eq_true rfl, rfl, rfl⟩ rfl rfl (Nat.le_of_ble_eq_true rfl) dK_runFirst_63 (fun a10 h => ?_)
      refine mj_put C inT_all rfl tyT okT nmT (e_Task t1) 3 (by decide) l_K_118 rfl (by decide +kernel) (Nat.le_of_ble_eq_true rfl) (s_Task_3 t1) dK_runFirst_66 ?_
      have h := h _ rfl
      refine mj_iload C dK_runFirst_69 rfl ?_
      refine mj_callS_iR C (qK_opOf hok h) (g_K_opOf l_K_159) z_K_opOf ⟨Nat.le_of_ble_eq_true rfl, Nat.le_of_ble_eq_true rfl, rfl, rfl⟩ rfl rfl (Nat.le_of_ble_eq_true rfl) dK_runFirst_71 (fun a12 h => ?_)
      refine mj_bipush (a := 13) C dK_runFirst_74 (by decide) ?_
      refine mj_icmp_ne (tgt := 83) C dK_runFirst_76 (by decide) (fun c13 => ?_) (fun c13 => ?_)
      · have h := h.1 c13
        refine mj_iconst (a := 0) C dK_runFirst_83 (by decide) ?_
        exact mj_sub2 (uK_runFirst_84 hok C Z  h) ⟨rfl, rfl, trivial⟩
      · have h := h.2 c13
        refine mj_iconst (a := 1) C dK_runFirst_79 (by decide) ?_
        refine mj_goto (tgt := 84) C dK_runFirst_80 (by decide) ?_
        exact mj_sub2 (uK_runFirst_84 hok C Z  h) ⟨rfl, rfl, trivial⟩
  · have h := h.2 c3
    refine mj_aload_n C dK_runFirst_21 rfl ?_
    refine mj_iconst (a := 1) C dK_runFirst_22 (by decide) ?_
    refine mj_callV_vWK C (qT_fail hok h) (g_T_fail l_K_146) rfl (e_Task t1) z_T_fail ⟨Nat.le_of_ble_eq_true rfl, Nat.le_of_ble_eq_true rfl, rfl, rfl⟩ rfl rfl (Nat.le_of_ble_eq_true rfl) dK_runFirst_23 (fun k14 h => ?_)
    refine mj_goto (tgt := 94) C dK_runFirst_26 (by decide) ?_
    exact mj_sub2 (uK_runFirst_94 hok C Z  h) ⟨rfl, rfl, rfl, trivial⟩
/-! GrantKernel.step -/
def wK_step_14 (n : Nat) (x1 : Int32) (x2 : Int32)  (k : mj_St) (Q : Int32 → mj_St → Prop)  : Prop := match n with
  | 0 => False
  | n + 1 => ((x1 ≤ x2) → Q x2 k) ∧ ((¬ x1 ≤ x2) → wN_at 15 0 k (fun a4 => (((a4 = (-1)) → Q x2 k) ∧ ((¬ a4 = (-1)) → wN_at 15 0 k (fun a6 => (wK_runFirst a6 k (fun k7 => (∀ a8 : Int32, a8 = x2 + 1 → (wK_step_14 n x1 a8 k7 Q)))))))))
set_option maxRecDepth 100000 in
set_option maxHeartbeats 4000000 in
theorem uK_step_14 {E : mj_E} {r : mj_R} {mm : mj_St} {Q : Int32 → mj_St → Prop} (hok : mj_Ok (mk_v E)) (C : mj_Cx (mk_v E) r cK_step 3 RK mj_all { frames := 6, cells := 0, slots := 0, locals := 149 }) (Z : mj_Cr (mk_v E) r (some .int) (mj_iK mm Q))   : ∀ (n : Nat) (x1 : Int32) (x2 : Int32) (k : mj_St), wK_step_14 n x1 x2 k Q → mj_G (mk_v E) r 14 [(0, .ref 0), (1, .int x1), (2, .int x2)] [] (k, mm) := by
  intro n
  induction n with
  | zero => intro x1 x2 k h; exact False.elim h
  | succ n ih =>
    intro x1 x2 k h
    rw [wK_step_14] at h
    refine mj_iload_n C dK_step_14 rfl ?_
    refine mj_iload_n C dK_step_15 rfl ?_
    refine mj_icmp_ge (tgt := 49) C dK_step_16 (by decide) (fun c3 => ?_) (fun c3 => ?_)
    · have h := h.1 c3
      refine mj_iload_n C dK_step_49 rfl ?_
      exact mj_iret C Z dK_step_50 ⟨_, _, rfl, rfl, h⟩
    · have h := h.2 c3
      refine mj_aload_n C dK_step_19 rfl ?_
      refine mj_getR C inK_all rfl e_GK 3 (by decide) l_K_22 rfl dK_step_20 ?_
      refine mj_iconst (a := 0) C dK_step_23 (by decide) ?_
      refine mj_callV_iR C (qN_at hok h) (g_N_at l_K_108) rfl (e_Line (by decide)) z_N_at ⟨Nat.le_of_ble_eq_true rfl, Nat.le_of_ble_eq_true rfl, rfl, rfl⟩ rfl rfl (Nat.le_of_ble_eq_true rfl) dK_step_24 (fun a4 h => ?_)
      refine mj_iconst (a := (-1)) C dK_step_27 (by decide) ?_
      refine mj_icmp_eq (tgt := 49) C dK_step_28 (by decide) (fun c5 => ?_) (fun c5 => ?_)
      · have h := h.1 c5
        refine mj_iload_n C dK_step_49 rfl ?_
        exact mj_iret C Z dK_step_50 ⟨_, _, rfl, rfl, h⟩
      · have h := h.2 c5
        refine mj_aload_n C dK_step_31 rfl ?_
        refine mj_aload_n C dK_step_32 rfl ?_
        refine mj_getR C inK_all rfl e_GK 3 (by decide) l_K_22 rfl dK_step_33 ?_
        refine mj_iconst (a := 0) C dK_step_36 (by decide) ?_
        refine mj_callV_iR C (qN_at hok h) (g_N_at l_K_108) rfl (e_Line (by decide)) z_N_at ⟨Nat.le_of_ble_eq_true rfl, Nat.le_of_ble_eq_true rfl, rfl, rfl⟩ rfl rfl (Nat.le_of_ble_eq_true rfl) dK_step_37 (fun a6 h => ?_)
        refine mj_callV_vWK C (qK_runFirst hok h) (g_K_runFirst l_K_112) rfl e_GK z_K_runFirst ⟨Nat.le_of_ble_eq_true rfl, Nat.le_of_ble_eq_true rfl, rfl, rfl⟩ rfl rfl (Nat.le_of_ble_eq_true rfl) dK_step_40 (fun k7 h => ?_)
        refine mj_iinc (b := 1) C dK_step_43 rfl (by decide) (by decide) rfl ?_
        have h := h _ rfl
        refine mj_goto (tgt := 14) C dK_step_46 (by decide) ?_
        exact mj_sub2 (ih _ _ _ h) ⟨rfl, rfl, rfl, trivial⟩
def wK_step (p0 : Int32) (k : mj_St) (Q : Int32 → mj_St → Prop) : Prop := wK_isBetween p0 1 50 (fun a1 => (((¬ a1 = 0) → (∃ e14, wK_step_14 e14 p0 0 k Q)) ∧ ((a1 = 0) → Q (-1) k)))
set_option maxRecDepth 100000 in
set_option maxHeartbeats 4000000 in
theorem qK_step {E : mj_E} (hok : mj_Ok (mk_v E)) {p0 : Int32} {k mm : mj_St} {Q : Int32 → mj_St → Prop} (h : wK_step p0 k Q) : mj_Ct (mk_v E) yK_step (Cond.code yK_step cK_step 3 (some .int) :: mj_all) { frames := 6, cells := 0, slots := 0, locals := 149 } [.ref 0, .int p0] (k, mm) (mj_iK mm Q) := by
  refine mj_enterA (L := [(0, .ref 0), (1, .int p0)]) hok (by decide +kernel) ⟨rfl, rfl⟩ (fun _ => Nat.le_of_ble_eq_true rfl) rfl (fun r C Z => ?_)
  unfold wK_step at h
  refine mj_iload_n C dK_step_0 rfl ?_
  refine mj_iconst (a := 1) C dK_step_1 (by decide) ?_
  refine mj_bipush (a := 50) C dK_step_2 (by decide) ?_
  refine mj_callS_iR C (qK_isBetween hok h) (g_K_isBetween l_K_58) z_K_isBetween ⟨Nat.le_of_ble_eq_true rfl, Nat.le_of_ble_eq_true rfl, rfl, rfl⟩ rfl rfl (Nat.le_of_ble_eq_true rfl) dK_step_4 (fun a1 h => ?_)
  refine mj_if_ne (tgt := 12) C dK_step_7 (by decide) (fun c2 => ?_) (fun c2 => ?_)
  · have h := h.1 c2
    refine mj_iconst (a := 0) C dK_step_12 (by decide) ?_
    refine mj_istore_n C dK_step_13 (by decide) rfl ?_
    obtain ⟨n0, h⟩ := h
    exact mj_sub2 (uK_step_14 hok C Z  n0 _ _ _ h) ⟨rfl, rfl, rfl, trivial⟩
  · have h := h.2 c2
    refine mj_iconst (a := (-1)) C dK_step_10 (by decide) ?_
    exact mj_iret C Z dK_step_11 ⟨_, _, rfl, rfl, h⟩
/-! GrantKernel.state -/
def wK_state (p0 : Int32) (k : mj_St) (Q : Int32 → Prop) : Prop := wK_isBetween p0 0 5 (fun a1 => (((a1 = 0) → Q (-1)) ∧ ((¬ a1 = 0) → vp_in p0 6 ∧ (Q (k (3 + p0.toNatClampNeg) 1)))))
set_option maxRecDepth 100000 in
set_option maxHeartbeats 4000000 in
theorem qK_state {E : mj_E} (hok : mj_Ok (mk_v E)) {p0 : Int32} {k mm : mj_St} {Q : Int32 → Prop} (h : wK_state p0 k Q) : mj_Ct (mk_v E) yK_state (Cond.code yK_state cK_state 2 (some .int) :: mj_all) { frames := 1, cells := 0, slots := 0, locals := 22 } [.ref 0, .int p0] (k, mm) (mj_iR (k, mm) Q) := by
  refine mj_enterA (L := [(0, .ref 0), (1, .int p0)]) hok (by decide +kernel) ⟨rfl, rfl⟩ (fun _ => Nat.le_of_ble_eq_true rfl) rfl (fun r C Z => ?_)
  unfold wK_state at h
  refine mj_iload_n C dK_state_0 rfl ?_
  refine mj_iconst (a := 0) C dK_state_1 (by decide) ?_
  refine mj_iconst (a := 5) C dK_state_2 (by decide) ?_
  refine mj_callS_iR C (qK_isBetween hok h) (g_K_isBetween l_K_58) z_K_isBetween ⟨Nat.le_of_ble_eq_true rfl, Nat.le_of_ble_eq_true rfl, rfl, rfl⟩ rfl rfl (Nat.le_of_ble_eq_true rfl) dK_state_3 (fun a1 h => ?_)
  refine mj_if_eq (tgt := 21) C dK_state_6 (by decide) (fun c2 => ?_) (fun c2 => ?_)
  · have h := h.1 c2
    refine mj_iconst (a := (-1)) C dK_state_21 (by decide) ?_
    exact mj_iret C Z dK_state_22 ⟨_, rfl, rfl, h⟩
  · have h := h.2 c2
    refine mj_aload_n C dK_state_9 rfl ?_
    refine mj_getR C inK_all rfl e_GK 2 (by decide) l_K_15 rfl dK_state_10 ?_
    refine mj_iload_n C dK_state_13 rfl ?_
    have t3 := mk_isT h.1
    refine mj_aald (t0 := 2) C e_tasks rfl h.1 rfl dK_state_14 ?_
    have h := h.2
    refine mj_getI C inT_all rfl (e_Task t3) 1 (by decide) l_K_96 rfl dK_state_15 ?_
    refine mj_goto (tgt := 22) C dK_state_18 (by decide) ?_
    exact mj_iret C Z dK_state_22 ⟨_, rfl, rfl, h⟩
/-! GrantKernel.fault -/
def wK_fault (p0 : Int32) (k : mj_St) (Q : Int32 → Prop) : Prop := wK_usedTask p0 k (fun u1 => (((u1 = none) → Q 0) ∧ (∀ o2 : Nat, u1 = some o2 → mk_T o2 ∧ (Q (k o2 2)))))
set_option maxRecDepth 100000 in
set_option maxHeartbeats 4000000 in
theorem qK_fault {E : mj_E} (hok : mj_Ok (mk_v E)) {p0 : Int32} {k mm : mj_St} {Q : Int32 → Prop} (h : wK_fault p0 k Q) : mj_Ct (mk_v E) yK_fault (Cond.code yK_fault cK_fault 3 (some .int) :: mj_all) { frames := 2, cells := 0, slots := 0, locals := 43 } [.ref 0, .int p0] (k, mm) (mj_iR (k, mm) Q) := by
  refine mj_enterA (L := [(0, .ref 0), (1, .int p0)]) hok (by decide +kernel) ⟨rfl, rfl⟩ (fun _ => Nat.le_of_ble_eq_true rfl) rfl (fun r C Z => ?_)
  unfold wK_fault at h
  refine mj_aload_n C dK_fault_0 rfl ?_
  refine mj_iload_n C dK_fault_1 rfl ?_
  refine mj_callV_aR C (qK_usedTask hok h) (g_K_usedTask l_K_74) rfl e_GK z_K_usedTask ⟨Nat.le_of_ble_eq_true rfl, Nat.le_of_ble_eq_true rfl, rfl, rfl⟩ rfl rfl (Nat.le_of_ble_eq_true rfl) dK_fault_2 (fun h => ?_) (fun o2 h => ?_)
  · have h := h.1 rfl
    refine mj_astore_nN C dK_fault_5 (by decide) rfl ?_
    refine mj_aload_nN C dK_fault_6 rfl ?_
    refine mj_ifnonnullN C dK_fault_7 ?_
    refine mj_iconst (a := 0) C dK_fault_10 (by decide) ?_
    refine mj_goto (tgt := 18) C dK_fault_11 (by decide) ?_
    exact mj_iret C Z dK_fault_18 ⟨_, rfl, rfl, h⟩
  · have t3 := (h.2 _ rfl).1
    have h := (h.2 _ rfl).2
    refine mj_astore_n C dK_fault_5 (by decide) rfl ?_
    refine mj_aload_n C dK_fault_6 rfl ?_
    refine mj_ifnonnull (tgt := 14) C dK_fault_7 (by decide) ?_
    refine mj_aload_n C dK_fault_14 rfl ?_
    refine mj_getI C inT_all rfl (e_Task t3) 2 (by decide) l_K_115 rfl dK_fault_15 ?_
    exact mj_iret C Z dK_fault_18 ⟨_, rfl, rfl, h⟩
/-! GrantKernel.register -/
def wK_register_20  (k : mj_St)  (Q : Int32 → Prop)  : Prop := Q 0
set_option maxRecDepth 100000 in
set_option maxHeartbeats 4000000 in
theorem uK_register_20 {E : mj_E} {r : mj_R} {mm : mj_St} {k : mj_St} {Q : Int32 → Prop} (hok : mj_Ok (mk_v E)) (C : mj_Cx (mk_v E) r cK_register 4 RK mj_all { frames := 2, cells := 0, slots := 0, locals := 43 }) (Z : mj_Cr (mk_v E) r (some .int) (mj_iR (k, mm) Q))     (h : wK_register_20 k Q) : mj_G (mk_v E) r 20 [] [] (k, mm) := by
  unfold wK_register_20 at h
  refine mj_iconst (a := 0) C dK_register_20 (by decide) ?_
  refine mj_goto (tgt := 30) C dK_register_21 (by decide) ?_
  exact mj_iret C Z dK_register_30 ⟨_, rfl, rfl, h⟩
def wK_register (p0 : Int32) (p1 : Int32) (k : mj_St) (Q : Int32 → Prop) : Prop := wK_usedTask p0 k (fun u1 => (((u1 = none) → wK_register_20 k Q) ∧ (∀ o2 : Nat, u1 = some o2 → mk_T o2 ∧ (wK_isBetween p1 0 7 (fun a4 => (((¬ a4 = 0) → vp_in p1 8 ∧ (Q (k (o2 + 6) p1.toNatClampNeg))) ∧ ((a4 = 0) → wK_register_20 k Q)))))))
set_option maxRecDepth 100000 in
set_option maxHeartbeats 4000000 in
theorem qK_register {E : mj_E} (hok : mj_Ok (mk_v E)) {p0 : Int32} {p1 : Int32} {k mm : mj_St} {Q : Int32 → Prop} (h : wK_register p0 p1 k Q) : mj_Ct (mk_v E) yK_register (Cond.code yK_register cK_register 4 (some .int) :: mj_all) { frames := 2, cells := 0, slots := 0, locals := 43 } [.ref 0, .int p0, .int p1] (k, mm) (mj_iR (k, mm) Q) := by
  refine mj_enterA (L := [(0, .ref 0), (1, .int p0), (2, .int p1)]) hok (by decide +kernel) ⟨rfl, rfl⟩ (fun _ => Nat.le_of_ble_eq_true rfl) rfl (fun r C Z => ?_)
  unfold wK_register at h
  refine mj_aload_n C dK_register_0 rfl ?_
  refine mj_iload_n C dK_register_1 rfl ?_
  refine mj_callV_aR C (qK_usedTask hok h) (g_K_usedTask l_K_74) rfl e_GK z_K_usedTask ⟨Nat.le_of_ble_eq_true rfl, Nat.le_of_ble_eq_true rfl, rfl, rfl⟩ rfl rfl (Nat.le_of_ble_eq_true rfl) dK_register_2 (fun h => ?_) (fun o2 h => ?_)
  · have h := h.1 rfl
    refine mj_astore_nN C dK_register_5 (by decide) rfl ?_
    refine mj_aload_nN C dK_register_6 rfl ?_
    refine mj_ifnullN (tgt := 20) C dK_register_7 (by decide) ?_
    exact mj_sub2 (uK_register_20 hok C Z  h) trivial
  · have t3 := (h.2 _ rfl).1
    have h := (h.2 _ rfl).2
    refine mj_astore_n C dK_register_5 (by decide) rfl ?_
    refine mj_aload_n C dK_register_6 rfl ?_
    refine mj_ifnull C dK_register_7 ?_
    refine mj_iload_n C dK_register_10 rfl ?_
    refine mj_iconst (a := 0) C dK_register_11 (by decide) ?_
    refine mj_bipush (a := 7) C dK_register_12 (by decide) ?_
    refine mj_callS_iR C (qK_isBetween hok h) (g_K_isBetween l_K_58) z_K_isBetween ⟨Nat.le_of_ble_eq_true rfl, Nat.le_of_ble_eq_true rfl, rfl, rfl⟩ rfl rfl (Nat.le_of_ble_eq_true rfl) dK_register_14 (fun a4 h => ?_)
    refine mj_if_ne (tgt := 24) C dK_register_17 (by decide) (fun c5 => ?_) (fun c5 => ?_)
    · have h := h.1 c5
      refine mj_aload_n C dK_register_24 rfl ?_
      refine mj_getR C inT_all rfl (e_Task t3) 0 (by decide) l_K_78 rfl dK_register_25 ?_
      refine mj_iload_n C dK_register_28 rfl ?_
      refine mj_iald (t0 := 0) C (e_regs t3) rfl h.1 dK_register_29 ?_
      have h := h.2
      exact mj_iret C Z dK_register_30 ⟨_, rfl, rfl, h⟩
    · have h := h.2 c5
      exact mj_sub2 (uK_register_20 hok C Z  h) trivial
/-! GrantKernel.counter -/
def wK_counter (p0 : Int32) (k : mj_St) (Q : Int32 → Prop) : Prop := wK_usedTask p0 k (fun u1 => (((u1 = none) → Q (-1)) ∧ (∀ o2 : Nat, u1 = some o2 → mk_T o2 ∧ (Q (k o2 3)))))
set_option maxRecDepth 100000 in
set_option maxHeartbeats 4000000 in
theorem qK_counter {E : mj_E} (hok : mj_Ok (mk_v E)) {p0 : Int32} {k mm : mj_St} {Q : Int32 → Prop} (h : wK_counter p0 k Q) : mj_Ct (mk_v E) yK_counter (Cond.code yK_counter cK_counter 3 (some .int) :: mj_all) { frames := 2, cells := 0, slots := 0, locals := 43 } [.ref 0, .int p0] (k, mm) (mj_iR (k, mm) Q) := by
  refine mj_enterA (L := [(0, .ref 0), (1, .int p0)]) hok (by decide +kernel) ⟨rfl, rfl⟩ (fun _ => Nat.le_of_ble_eq_true rfl) rfl (fun r C Z => ?_)
  unfold wK_counter at h
  refine mj_aload_n C dK_counter_0 rfl ?_
  refine mj_iload_n C dK_counter_1 rfl ?_
  refine mj_callV_aR C (qK_usedTask hok h) (g_K_usedTask l_K_74) rfl e_GK z_K_usedTask ⟨Nat.le_of_ble_eq_true rfl, Nat.le_of_ble_eq_true rfl, rfl, rfl⟩ rfl rfl (Nat.le_of_ble_eq_true rfl) dK_counter_2 (fun h => ?_) (fun o2 h => ?_)
  · have h := h.1 rfl
    refine mj_astore_nN C dK_counter_5 (by decide) rfl ?_
    refine mj_aload_nN C dK_counter_6 rfl ?_
    refine mj_ifnonnullN C dK_counter_7 ?_
    refine mj_iconst (a := (-1)) C dK_counter_10 (by decide) ?_
    refine mj_goto (tgt := 18) C dK_counter_11 (by decide) ?_
    exact mj_iret C Z dK_counter_18 ⟨_, rfl, rfl, h⟩
  · have t3 := (h.2 _ rfl).1
    have h := (h.2 _ rfl).2
    refine mj_astore_n C dK_counter_5 (by decide) rfl ?_
    refine mj_aload_n C dK_counter_6 rfl ?_
    refine mj_ifnonnull (tgt := 14) C dK_counter_7 (by decide) ?_
    refine mj_aload_n C dK_counter_14 rfl ?_
    refine mj_getI C inT_all rfl (e_Task t3) 3 (by decide) l_K_118 rfl dK_counter_15 ?_
    exact mj_iret C Z dK_counter_18 ⟨_, rfl, rfl, h⟩
/-! GrantKernel.caller -/
def wK_caller (p0 : Int32) (k : mj_St) (Q : Int32 → Prop) : Prop := wK_usedTask p0 k (fun u1 => (((u1 = none) → Q (-1)) ∧ (∀ o2 : Nat, u1 = some o2 → mk_T o2 ∧ (Q (k o2 6)))))
set_option maxRecDepth 100000 in
set_option maxHeartbeats 4000000 in
theorem qK_caller {E : mj_E} (hok : mj_Ok (mk_v E)) {p0 : Int32} {k mm : mj_St} {Q : Int32 → Prop} (h : wK_caller p0 k Q) : mj_Ct (mk_v E) yK_caller (Cond.code yK_caller cK_caller 3 (some .int) :: mj_all) { frames := 2, cells := 0, slots := 0, locals := 43 } [.ref 0, .int p0] (k, mm) (mj_iR (k, mm) Q) := by
  refine mj_enterA (L := [(0, .ref 0), (1, .int p0)]) hok (by decide +kernel) ⟨rfl, rfl⟩ (fun _ => Nat.le_of_ble_eq_true rfl) rfl (fun r C Z => ?_)
  unfold wK_caller at h
  refine mj_aload_n C dK_caller_0 rfl ?_
  refine mj_iload_n C dK_caller_1 rfl ?_
  refine mj_callV_aR C (qK_usedTask hok h) (g_K_usedTask l_K_74) rfl e_GK z_K_usedTask ⟨Nat.le_of_ble_eq_true rfl, Nat.le_of_ble_eq_true rfl, rfl, rfl⟩ rfl rfl (Nat.le_of_ble_eq_true rfl) dK_caller_2 (fun h => ?_) (fun o2 h => ?_)
  · have h := h.1 rfl
    refine mj_astore_nN C dK_caller_5 (by decide) rfl ?_
    refine mj_aload_nN C dK_caller_6 rfl ?_
    refine mj_ifnonnullN C dK_caller_7 ?_
    refine mj_iconst (a := (-1)) C dK_caller_10 (by decide) ?_
    refine mj_goto (tgt := 18) C dK_caller_11 (by decide) ?_
    exact mj_iret C Z dK_caller_18 ⟨_, rfl, rfl, h⟩
  · have t3 := (h.2 _ rfl).1
    have h := (h.2 _ rfl).2
    refine mj_astore_n C dK_caller_5 (by decide) rfl ?_
    refine mj_aload_n C dK_caller_6 rfl ?_
    refine mj_ifnonnull (tgt := 14) C dK_caller_7 (by decide) ?_
    refine mj_aload_n C dK_caller_14 rfl ?_
    refine mj_getI C inT_all rfl (e_Task t3) 6 (by decide) l_K_121 rfl dK_caller_15 ?_
    exact mj_iret C Z dK_caller_18 ⟨_, rfl, rfl, h⟩
/-! GrantKernel$Grants.partOf -/
def wG_partOf (p0 : Int32) (p1 : Int32) (k : mj_St) (Q : Int32 → Prop) : Prop := ((p1 = 0) → vp_in p0 48 ∧ (Q (k 27 p0.toNatClampNeg))) ∧ (¬ p1 = 0 → (((p1 = 1) → vp_in p0 48 ∧ (Q (k 28 p0.toNatClampNeg))) ∧ (¬ p1 = 1 → (((p1 = 2) → vp_in p0 48 ∧ (Q (k 29 p0.toNatClampNeg))) ∧ (¬ p1 = 2 → (((p1 = 3) → vp_in p0 48 ∧ (Q (k 30 p0.toNatClampNeg))) ∧ (¬ p1 = 3 → (Q (-1)))))))))
set_option maxRecDepth 100000 in
set_option maxHeartbeats 4000000 in
theorem qG_partOf {E : mj_E} (hok : mj_Ok (mk_v E)) {p0 : Int32} {p1 : Int32} {k mm : mj_St} {Q : Int32 → Prop} (h : wG_partOf p0 p1 k Q) : mj_Ct (mk_v E) yG_partOf (Cond.code yG_partOf cG_partOf 3 (some .int) :: mj_all) { frames := 0, cells := 0, slots := 0, locals := 0 } [.ref 26, .int p0, .int p1] (k, mm) (mj_iR (k, mm) Q) := by
  refine mj_enterA (L := [(0, .ref 26), (1, .int p0), (2, .int p1)]) hok (by decide +kernel) ⟨rfl, rfl⟩ (fun _ => Nat.le_of_ble_eq_true rfl) rfl (fun r C Z => ?_)
  unfold wG_partOf at h
  refine mj_iload_n C dG_partOf_0 rfl ?_
  by_cases c1 : p1 = 0
  · have h := h.1 c1
    refine mj_tableIn (off := 31) (tgt := 32) C dG_partOf_1 (by rw [c1]; decide) (by rw [c1]; decide) (by rw [c1]; rfl) (by decide) ?_
    refine mj_aload_n C dG_partOf_32 rfl ?_
    refine mj_getR C inG_all rfl e_Grants 0 (by decide) l_G_9 rfl dG_partOf_33 ?_
    refine mj_iload_n C dG_partOf_36 rfl ?_
    refine mj_iald (t0 := 0) C e_kinds rfl h.1 dG_partOf_37 ?_
    have h := h.2
    exact mj_iret C Z dG_partOf_38 ⟨_, rfl, rfl, h⟩
  have h := h.2 c1
  by_cases c2 : p1 = 1
  · have h := h.1 c2
    refine mj_tableIn (off := 38) (tgt := 39) C dG_partOf_1 (by rw [c2]; decide) (by rw [c2]; decide) (by rw [c2]; rfl) (by decide) ?_
    refine mj_aload_n C dG_partOf_39 rfl ?_
    refine mj_getR C inG_all rfl e_Grants 1 (by decide) l_G_15 rfl dG_partOf_40 ?_
    refine mj_iload_n C dG_partOf_43 rfl ?_
    refine mj_iald (t0 := 0) C e_objects rfl h.1 dG_partOf_44 ?_
    have h := h.2
    exact mj_iret C Z dG_partOf_45 ⟨_, rfl, rfl, h⟩
  have h := h.2 c2
  by_cases c3 : p1 = 2
  · have h := h.1 c3
    refine mj_tableIn (off := 45) (tgt := 46) C dG_partOf_1 (by rw [c3]; decide) (by rw [c3]; decide) (by rw [c3]; rfl) (by decide) ?_
    refine mj_aload_n C dG_partOf_46 rfl ?_
    refine mj_getR C inG_all rfl e_Grants 2 (by decide) l_G_18 rfl dG_partOf_47 ?_
    refine mj_iload_n C dG_partOf_50 rfl ?_
    refine mj_iald (t0 := 0) C e_rights rfl h.1 dG_partOf_51 ?_
    have h := h.2
    exact mj_iret C Z dG_partOf_52 ⟨_, rfl, rfl, h⟩
  have h := h.2 c3
  by_cases c4 : p1 = 3
  · have h := h.1 c4
    refine mj_tableIn (off := 52) (tgt := 53) C dG_partOf_1 (by rw [c4]; decide) (by rw [c4]; decide) (by rw [c4]; rfl) (by decide) ?_
    refine mj_aload_n C dG_partOf_53 rfl ?_
    refine mj_getR C inG_all rfl e_Grants 3 (by decide) l_G_21 rfl dG_partOf_54 ?_
    refine mj_iload_n C dG_partOf_57 rfl ?_
    refine mj_iald (t0 := 0) C e_parents rfl h.1 dG_partOf_58 ?_
    have h := h.2
    exact mj_iret C Z dG_partOf_59 ⟨_, rfl, rfl, h⟩
  have h := h.2 c4
  have nc1 := lv_neT (k := 0) (a := 0) c1 (by decide)
  have nc2 := lv_neT (k := 1) (a := 1) c2 (by decide)
  have nc3 := lv_neT (k := 2) (a := 2) c3 (by decide)
  have nc4 := lv_neT (k := 3) (a := 3) c4 (by decide)
  refine mj_tableOut (tgt := 60) C dG_partOf_1 (by omega) (by decide) ?_
  refine mj_iconst (a := (-1)) C dG_partOf_60 (by decide) ?_
  exact mj_iret C Z dG_partOf_61 ⟨_, rfl, rfl, h⟩
/-! GrantKernel.capability -/
def wK_capability_25  (k : mj_St)  (Q : Int32 → Prop)  : Prop := Q (-1)
set_option maxRecDepth 100000 in
set_option maxHeartbeats 4000000 in
theorem uK_capability_25 {E : mj_E} {r : mj_R} {mm : mj_St} {k : mj_St} {Q : Int32 → Prop} (hok : mj_Ok (mk_v E)) (C : mj_Cx (mk_v E) r cK_capability 5 RK mj_all { frames := 2, cells := 0, slots := 0, locals := 44 }) (Z : mj_Cr (mk_v E) r (some .int) (mj_iR (k, mm) Q))     (h : wK_capability_25 k Q) : mj_G (mk_v E) r 25 [] [] (k, mm) := by
  unfold wK_capability_25 at h
  refine mj_iconst (a := (-1)) C dK_capability_25 (by decide) ?_
  refine mj_goto (tgt := 39) C dK_capability_26 (by decide) ?_
  exact mj_iret C Z dK_capability_39 ⟨_, rfl, rfl, h⟩
def wK_capability (p0 : Int32) (p1 : Int32) (p2 : Int32) (k : mj_St) (Q : Int32 → Prop) : Prop := wK_placeOf p0 p1 (fun a1 => (((a1 = (-1)) → wK_capability_25 k Q) ∧ ((¬ a1 = (-1)) → wG_holds a1 k (fun a3 => (((¬ a3 = 0) → wG_partOf a1 p2 k (fun a5 => (Q a5))) ∧ ((a3 = 0) → wK_capability_25 k Q))))))
set_option maxRecDepth 100000 in
set_option maxHeartbeats 4000000 in
theorem qK_capability {E : mj_E} (hok : mj_Ok (mk_v E)) {p0 : Int32} {p1 : Int32} {p2 : Int32} {k mm : mj_St} {Q : Int32 → Prop} (h : wK_capability p0 p1 p2 k Q) : mj_Ct (mk_v E) yK_capability (Cond.code yK_capability cK_capability 5 (some .int) :: mj_all) { frames := 2, cells := 0, slots := 0, locals := 44 } [.ref 0, .int p0, .int p1, .int p2] (k, mm) (mj_iR (k, mm) Q) := by
  refine mj_enterA (L := [(0, .ref 0), (1, .int p0), (2, .int p1), (3, .int p2)]) hok (by decide +kernel) ⟨rfl, rfl⟩ (fun _ => Nat.le_of_ble_eq_true rfl) rfl (fun r C Z => ?_)
  unfold wK_capability at h
  refine mj_iload_n C dK_capability_0 rfl ?_
  refine mj_iload_n C dK_capability_1 rfl ?_
  refine mj_callS_iR C (qK_placeOf hok h) (g_K_placeOf l_K_81) z_K_placeOf ⟨Nat.le_of_ble_eq_true rfl, Nat.le_of_ble_eq_true rfl, rfl, rfl⟩ rfl rfl (Nat.le_of_ble_eq_true rfl) dK_capability_2 (fun a1 h => ?_)
  refine mj_istore C dK_capability_5 (by decide) rfl ?_
  refine mj_iload C dK_capability_7 rfl ?_
  refine mj_iconst (a := (-1)) C dK_capability_9 (by decide) ?_
  refine mj_icmp_eq (tgt := 25) C dK_capability_10 (by decide) (fun c2 => ?_) (fun c2 => ?_)
  · have h := h.1 c2
    exact mj_sub2 (uK_capability_25 hok C Z  h) trivial
  · have h := h.2 c2
    refine mj_aload_n C dK_capability_13 rfl ?_
    refine mj_getR C inK_all rfl e_GK 5 (by decide) l_K_33 rfl dK_capability_14 ?_
    refine mj_iload C dK_capability_17 rfl ?_
    refine mj_callV_iR C (qG_holds hok h) (g_G_holds l_K_84) rfl e_Grants z_G_holds ⟨Nat.le_of_ble_eq_true rfl, Nat.le_of_ble_eq_true rfl, rfl, rfl⟩ rfl rfl (Nat.le_of_ble_eq_true rfl) dK_capability_19 (fun a3 h => ?_)
    refine mj_if_ne (tgt := 29) C dK_capability_22 (by decide) (fun c4 => ?_) (fun c4 => ?_)
    · have h := h.1 c4
      refine mj_aload_n C dK_capability_29 rfl ?_
      refine mj_getR C inK_all rfl e_GK 5 (by decide) l_K_33 rfl dK_capability_30 ?_
      refine mj_iload C dK_capability_33 rfl ?_
      refine mj_iload_n C dK_capability_35 rfl ?_
      refine mj_callV_iR C (qG_partOf hok h) (g_G_partOf l_K_124) rfl e_Grants z_G_partOf ⟨Nat.le_of_ble_eq_true rfl, Nat.le_of_ble_eq_true rfl, rfl, rfl⟩ rfl rfl (Nat.le_of_ble_eq_true rfl) dK_capability_36 (fun a5 h => ?_)
      exact mj_iret C Z dK_capability_39 ⟨_, rfl, rfl, h⟩
    · have h := h.2 c4
      exact mj_sub2 (uK_capability_25 hok C Z  h) trivial
/-! GrantKernel$Grants.countBelow -/
def wG_countBelow_22 (x1 : Int32) (x2 : Int32) (x3 : Int32) (k : mj_St)  (Q : Int32 → Prop) (K4 : Int32 → Int32 → Int32 → Prop) : Prop := ∀ a4 : Int32, a4 = x3 + 1 → (K4 x1 x2 a4)
set_option maxRecDepth 100000 in
set_option maxHeartbeats 4000000 in
theorem uG_countBelow_22 {E : mj_E} {r : mj_R} {mm : mj_St} {k : mj_St} {Q : Int32 → Prop} (hok : mj_Ok (mk_v E)) (C : mj_Cx (mk_v E) r cG_countBelow 4 RG mj_all { frames := 2, cells := 0, slots := 0, locals := 45 }) (Z : mj_Cr (mk_v E) r (some .int) (mj_iR (k, mm) Q)) {x1 : Int32} {x2 : Int32} {x3 : Int32}  {K4 : Int32 → Int32 → Int32 → Prop} (hK4 : ∀ (x1 : Int32) (x2 : Int32) (x3 : Int32) , K4 x1 x2 x3 → mj_G (mk_v E) r 4 [(0, .ref 26), (1, .int x1), (2, .int x2), (3, .int x3)] [] (k, mm)) (h : wG_countBelow_22 x1 x2 x3 k Q K4) : mj_G (mk_v E) r 22 [(0, .ref 26), (1, .int x1), (2, .int x2), (3, .int x3)] [] (k, mm) := by
  unfold wG_countBelow_22 at h
  refine mj_iinc (b := 1) C dG_countBelow_22 rfl (by decide) (by decide) rfl ?_
  have h := h _ rfl
  refine mj_goto (tgt := 4) C dG_countBelow_25 (by decide) ?_
  exact mj_sub2 (hK4 _ _ _ h) ⟨rfl, rfl, rfl, rfl, trivial⟩
def wG_countBelow_4 (n : Nat) (x1 : Int32) (x2 : Int32) (x3 : Int32) (k : mj_St)  (Q : Int32 → Prop)  : Prop := match n with
  | 0 => False
  | n + 1 => ((48 ≤ x3) → Q x2) ∧ ((¬ 48 ≤ x3) → wG_isBelow x3 x1 k (fun a2 => (((a2 = 0) → wG_countBelow_22 x1 x2 x3 k Q (fun x1_ x2_ x3_ => wG_countBelow_4 n x1_ x2_ x3_ k Q)) ∧ ((¬ a2 = 0) → ∀ a5 : Int32, a5 = x2 + 1 → (wG_countBelow_22 x1 a5 x3 k Q (fun x1_ x2_ x3_ => wG_countBelow_4 n x1_ x2_ x3_ k Q))))))
set_option maxRecDepth 100000 in
set_option maxHeartbeats 4000000 in
theorem uG_countBelow_4 {E : mj_E} {r : mj_R} {mm : mj_St} {k : mj_St} {Q : Int32 → Prop} (hok : mj_Ok (mk_v E)) (C : mj_Cx (mk_v E) r cG_countBelow 4 RG mj_all { frames := 2, cells := 0, slots := 0, locals := 45 }) (Z : mj_Cr (mk_v E) r (some .int) (mj_iR (k, mm) Q))   : ∀ (n : Nat) (x1 : Int32) (x2 : Int32) (x3 : Int32) , wG_countBelow_4 n x1 x2 x3 k Q → mj_G (mk_v E) r 4 [(0, .ref 26), (1, .int x1), (2, .int x2), (3, .int x3)] [] (k, mm) := by
  intro n
  induction n with
  | zero => intro x1 x2 x3 h; exact False.elim h
  | succ n ih =>
    intro x1 x2 x3 h
    rw [wG_countBelow_4] at h
    refine mj_iload_n C dG_countBelow_4 rfl ?_
    refine mj_bipush (a := 48) C dG_countBelow_5 (by decide) ?_
    refine mj_icmp_ge (tgt := 28) C dG_countBelow_7 (by decide) (fun c1 => ?_) (fun c1 => ?_)
    · have h := h.1 c1
      refine mj_iload_n C dG_countBelow_28 rfl ?_
      exact mj_iret C Z dG_countBelow_29 ⟨_, rfl, rfl, h⟩
    · have h := h.2 c1
      refine mj_aload_n C dG_countBelow_10 rfl ?_
      refine mj_iload_n C dG_countBelow_11 rfl ?_
      refine mj_iload_n C dG_countBelow_12 rfl ?_
      refine mj_callV_iR C (qG_isBelow hok h) (g_G_isBelow l_G_40) rfl e_Grants z_G_isBelow ⟨Nat.le_of_ble_eq_true rfl, Nat.le_of_ble_eq_true rfl, rfl, rfl⟩ rfl rfl (Nat.le_of_ble_eq_true rfl) dG_countBelow_13 (fun a2 h => ?_)
      refine mj_if_eq (tgt := 22) C dG_countBelow_16 (by decide) (fun c3 => ?_) (fun c3 => ?_)
      · have h := h.1 c3
        exact mj_sub2 (uG_countBelow_22 hok C Z (fun _ _ _ h => ih _ _ _ h) h) ⟨rfl, rfl, rfl, rfl, trivial⟩
      · have h := h.2 c3
        refine mj_iinc (b := 1) C dG_countBelow_19 rfl (by decide) (by decide) rfl ?_
        have h := h _ rfl
        exact mj_sub2 (uG_countBelow_22 hok C Z (fun _ _ _ h => ih _ _ _ h) h) ⟨rfl, rfl, rfl, rfl, trivial⟩
def wG_countBelow (p0 : Int32) (k : mj_St) (Q : Int32 → Prop) : Prop := (∃ e4, wG_countBelow_4 e4 p0 0 0 k Q)
set_option maxRecDepth 100000 in
set_option maxHeartbeats 4000000 in
theorem qG_countBelow {E : mj_E} (hok : mj_Ok (mk_v E)) {p0 : Int32} {k mm : mj_St} {Q : Int32 → Prop} (h : wG_countBelow p0 k Q) : mj_Ct (mk_v E) yG_countBelow (Cond.code yG_countBelow cG_countBelow 4 (some .int) :: mj_all) { frames := 2, cells := 0, slots := 0, locals := 45 } [.ref 26, .int p0] (k, mm) (mj_iR (k, mm) Q) := by
  refine mj_enterA (L := [(0, .ref 26), (1, .int p0)]) hok (by decide +kernel) ⟨rfl, rfl⟩ (fun _ => Nat.le_of_ble_eq_true rfl) rfl (fun r C Z => ?_)
  unfold wG_countBelow at h
  refine mj_iconst (a := 0) C dG_countBelow_0 (by decide) ?_
  refine mj_istore_n C dG_countBelow_1 (by decide) rfl ?_
  refine mj_iconst (a := 0) C dG_countBelow_2 (by decide) ?_
  refine mj_istore_n C dG_countBelow_3 (by decide) rfl ?_
  obtain ⟨n0, h⟩ := h
  exact mj_sub2 (uG_countBelow_4 hok C Z  n0 _ _ _ h) ⟨rfl, rfl, rfl, rfl, trivial⟩
/-! GrantKernel.descendants -/
def wK_descendants_22  (k : mj_St)  (Q : Int32 → Prop)  : Prop := Q (-1)
set_option maxRecDepth 100000 in
set_option maxHeartbeats 4000000 in
theorem uK_descendants_22 {E : mj_E} {r : mj_R} {mm : mj_St} {k : mj_St} {Q : Int32 → Prop} (hok : mj_Ok (mk_v E)) (C : mj_Cx (mk_v E) r cK_descendants 4 RK mj_all { frames := 3, cells := 0, slots := 0, locals := 68 }) (Z : mj_Cr (mk_v E) r (some .int) (mj_iR (k, mm) Q))     (h : wK_descendants_22 k Q) : mj_G (mk_v E) r 22 [] [] (k, mm) := by
  unfold wK_descendants_22 at h
  refine mj_iconst (a := (-1)) C dK_descendants_22 (by decide) ?_
  refine mj_goto (tgt := 34) C dK_descendants_23 (by decide) ?_
  exact mj_iret C Z dK_descendants_34 ⟨_, rfl, rfl, h⟩
def wK_descendants (p0 : Int32) (p1 : Int32) (k : mj_St) (Q : Int32 → Prop) : Prop := wK_placeOf p0 p1 (fun a1 => (((a1 = (-1)) → wK_descendants_22 k Q) ∧ ((¬ a1 = (-1)) → wG_holds a1 k (fun a3 => (((¬ a3 = 0) → wG_countBelow a1 k (fun a5 => (Q a5))) ∧ ((a3 = 0) → wK_descendants_22 k Q))))))
set_option maxRecDepth 100000 in
set_option maxHeartbeats 4000000 in
theorem qK_descendants {E : mj_E} (hok : mj_Ok (mk_v E)) {p0 : Int32} {p1 : Int32} {k mm : mj_St} {Q : Int32 → Prop} (h : wK_descendants p0 p1 k Q) : mj_Ct (mk_v E) yK_descendants (Cond.code yK_descendants cK_descendants 4 (some .int) :: mj_all) { frames := 3, cells := 0, slots := 0, locals := 68 } [.ref 0, .int p0, .int p1] (k, mm) (mj_iR (k, mm) Q) := by
  refine mj_enterA (L := [(0, .ref 0), (1, .int p0), (2, .int p1)]) hok (by decide +kernel) ⟨rfl, rfl⟩ (fun _ => Nat.le_of_ble_eq_true rfl) rfl (fun r C Z => ?_)
  unfold wK_descendants at h
  refine mj_iload_n C dK_descendants_0 rfl ?_
  refine mj_iload_n C dK_descendants_1 rfl ?_
  refine mj_callS_iR C (qK_placeOf hok h) (g_K_placeOf l_K_81) z_K_placeOf ⟨Nat.le_of_ble_eq_true rfl, Nat.le_of_ble_eq_true rfl, rfl, rfl⟩ rfl rfl (Nat.le_of_ble_eq_true rfl) dK_descendants_2 (fun a1 h => ?_)
  refine mj_istore_n C dK_descendants_5 (by decide) rfl ?_
  refine mj_iload_n C dK_descendants_6 rfl ?_
  refine mj_iconst (a := (-1)) C dK_descendants_7 (by decide) ?_
  refine mj_icmp_eq (tgt := 22) C dK_descendants_8 (by decide) (fun c2 => ?_) (fun c2 => ?_)
  · have h := h.1 c2
    exact mj_sub2 (uK_descendants_22 hok C Z  h) trivial
  · have h := h.2 c2
    refine mj_aload_n C dK_descendants_11 rfl ?_
    refine mj_getR C inK_all rfl e_GK 5 (by decide) l_K_33 rfl dK_descendants_12 ?_
    refine mj_iload_n C dK_descendants_15 rfl ?_
    refine mj_callV_iR C (qG_holds hok h) (g_G_holds l_K_84) rfl e_Grants z_G_holds ⟨Nat.le_of_ble_eq_true rfl, Nat.le_of_ble_eq_true rfl, rfl, rfl⟩ rfl rfl (Nat.le_of_ble_eq_true rfl) dK_descendants_16 (fun a3 h => ?_)
    refine mj_if_ne (tgt := 26) C dK_descendants_19 (by decide) (fun c4 => ?_) (fun c4 => ?_)
    · have h := h.1 c4
      refine mj_aload_n C dK_descendants_26 rfl ?_
      refine mj_getR C inK_all rfl e_GK 5 (by decide) l_K_33 rfl dK_descendants_27 ?_
      refine mj_iload_n C dK_descendants_30 rfl ?_
      refine mj_callV_iR C (qG_countBelow hok h) (g_G_countBelow l_K_127) rfl e_Grants z_G_countBelow ⟨Nat.le_of_ble_eq_true rfl, Nat.le_of_ble_eq_true rfl, rfl, rfl⟩ rfl rfl (Nat.le_of_ble_eq_true rfl) dK_descendants_31 (fun a5 h => ?_)
      exact mj_iret C Z dK_descendants_34 ⟨_, rfl, rfl, h⟩
    · have h := h.2 c4
      exact mj_sub2 (uK_descendants_22 hok C Z  h) trivial
/-! GrantKernel.inRow -/
def wK_inRow (p0 : Int32) (p1 : Int32) (k : mj_St) (Q : Int32 → Prop) : Prop := ((¬ p0 = (-1)) → wK_isBetween p0 0 3 (fun a2 => (((a2 = 0) → Q (-1)) ∧ ((¬ a2 = 0) → vp_in p0 4 ∧ (wN_at (16 + p0.toNatClampNeg) p1 k (fun a5 => (Q a5))))))) ∧ ((p0 = (-1)) → wN_at 15 p1 k (fun a6 => (Q a6)))
set_option maxRecDepth 100000 in
set_option maxHeartbeats 4000000 in
theorem qK_inRow {E : mj_E} (hok : mj_Ok (mk_v E)) {p0 : Int32} {p1 : Int32} {k mm : mj_St} {Q : Int32 → Prop} (h : wK_inRow p0 p1 k Q) : mj_Ct (mk_v E) yK_inRow (Cond.code yK_inRow cK_inRow 3 (some .int) :: mj_all) { frames := 2, cells := 0, slots := 0, locals := 43 } [.ref 0, .int p0, .int p1] (k, mm) (mj_iR (k, mm) Q) := by
  refine mj_enterA (L := [(0, .ref 0), (1, .int p0), (2, .int p1)]) hok (by decide +kernel) ⟨rfl, rfl⟩ (fun _ => Nat.le_of_ble_eq_true rfl) rfl (fun r C Z => ?_)
  unfold wK_inRow at h
  refine mj_iload_n C dK_inRow_0 rfl ?_
  refine mj_iconst (a := (-1)) C dK_inRow_1 (by decide) ?_
  refine mj_icmp_ne (tgt := 14) C dK_inRow_2 (by decide) (fun c1 => ?_) (fun c1 => ?_)
  · have h := h.1 c1
    refine mj_iload_n C dK_inRow_14 rfl ?_
    refine mj_iconst (a := 0) C dK_inRow_15 (by decide) ?_
    refine mj_iconst (a := 3) C dK_inRow_16 (by decide) ?_
    refine mj_callS_iR C (qK_isBetween hok h) (g_K_isBetween l_K_58) z_K_isBetween ⟨Nat.le_of_ble_eq_true rfl, Nat.le_of_ble_eq_true rfl, rfl, rfl⟩ rfl rfl (Nat.le_of_ble_eq_true rfl) dK_inRow_17 (fun a2 h => ?_)
    refine mj_if_eq (tgt := 36) C dK_inRow_20 (by decide) (fun c3 => ?_) (fun c3 => ?_)
    · have h := h.1 c3
      refine mj_iconst (a := (-1)) C dK_inRow_36 (by decide) ?_
      exact mj_iret C Z dK_inRow_37 ⟨_, rfl, rfl, h⟩
    · have h := h.2 c3
      refine mj_aload_n C dK_inRow_23 rfl ?_
      refine mj_getR C inK_all rfl e_GK 4 (by decide) l_K_26 rfl dK_inRow_24 ?_
      refine mj_iload_n C dK_inRow_27 rfl ?_
      have t4 := mk_isN h.1
      refine mj_aald (t0 := 3) C e_lines rfl h.1 rfl dK_inRow_28 ?_
      have h := h.2
      refine mj_iload_n C dK_inRow_29 rfl ?_
      refine mj_callV_iR C (qN_at hok h) (g_N_at l_K_108) rfl (e_Line t4) z_N_at ⟨Nat.le_of_ble_eq_true rfl, Nat.le_of_ble_eq_true rfl, rfl, rfl⟩ rfl rfl (Nat.le_of_ble_eq_true rfl) dK_inRow_30 (fun a5 h => ?_)
      refine mj_goto (tgt := 37) C dK_inRow_33 (by decide) ?_
      exact mj_iret C Z dK_inRow_37 ⟨_, rfl, rfl, h⟩
  · have h := h.2 c1
    refine mj_aload_n C dK_inRow_5 rfl ?_
    refine mj_getR C inK_all rfl e_GK 3 (by decide) l_K_22 rfl dK_inRow_6 ?_
    refine mj_iload_n C dK_inRow_9 rfl ?_
    refine mj_callV_iR C (qN_at hok h) (g_N_at l_K_108) rfl (e_Line (by decide)) z_N_at ⟨Nat.le_of_ble_eq_true rfl, Nat.le_of_ble_eq_true rfl, rfl, rfl⟩ rfl rfl (Nat.le_of_ble_eq_true rfl) dK_inRow_10 (fun a6 h => ?_)
    exact mj_iret C Z dK_inRow_13 ⟨_, rfl, rfl, h⟩
/-! GrantKernel$Tape.count -/
def wP_count  (k : mj_St) (Q : Int32 → Prop) : Prop := Q (k 32 1)
set_option maxRecDepth 100000 in
set_option maxHeartbeats 4000000 in
theorem qP_count {E : mj_E} (hok : mj_Ok (mk_v E))  {k mm : mj_St} {Q : Int32 → Prop} (h : wP_count  k Q) : mj_Ct (mk_v E) yP_count (Cond.code yP_count cP_count 1 (some .int) :: mj_all) { frames := 0, cells := 0, slots := 0, locals := 0 } [.ref 32] (k, mm) (mj_iR (k, mm) Q) := by
  refine mj_enterA (L := [(0, .ref 32)]) hok (by decide +kernel) ⟨rfl, rfl⟩ (fun _ => Nat.le_of_ble_eq_true rfl) rfl (fun r C Z => ?_)
  unfold wP_count at h
  refine mj_aload_n C dP_count_0 rfl ?_
  refine mj_getI C inP_all rfl e_Tape 1 (by decide) l_P_15 rfl dP_count_1 ?_
  exact mj_iret C Z dP_count_4 ⟨_, rfl, rfl, h⟩
/-! GrantKernel.printed -/
def wK_printed  (k : mj_St) (Q : Int32 → Prop) : Prop := wP_count k (fun a1 => (Q a1))
set_option maxRecDepth 100000 in
set_option maxHeartbeats 4000000 in
theorem qK_printed {E : mj_E} (hok : mj_Ok (mk_v E))  {k mm : mj_St} {Q : Int32 → Prop} (h : wK_printed  k Q) : mj_Ct (mk_v E) yK_printed (Cond.code yK_printed cK_printed 1 (some .int) :: mj_all) { frames := 1, cells := 0, slots := 0, locals := 20 } [.ref 0] (k, mm) (mj_iR (k, mm) Q) := by
  refine mj_enterA (L := [(0, .ref 0)]) hok (by decide +kernel) ⟨rfl, rfl⟩ (fun _ => Nat.le_of_ble_eq_true rfl) rfl (fun r C Z => ?_)
  unfold wK_printed at h
  refine mj_aload_n C dK_printed_0 rfl ?_
  refine mj_getR C inK_all rfl e_GK 6 (by decide) l_K_40 rfl dK_printed_1 ?_
  refine mj_callV_iR C (qP_count hok h) (g_P_count l_K_130) rfl e_Tape z_P_count ⟨Nat.le_of_ble_eq_true rfl, Nat.le_of_ble_eq_true rfl, rfl, rfl⟩ rfl rfl (Nat.le_of_ble_eq_true rfl) dK_printed_4 (fun a1 h => ?_)
  exact mj_iret C Z dK_printed_7 ⟨_, rfl, rfl, h⟩
/-! GrantKernel$Tape.backFromLatest -/
def wP_backFromLatest_23 (x1 : Int32) (y0 : Int32) (k : mj_St)  (Q : Int32 → Prop)  : Prop := ((y0 = 0) → Q 0) ∧ ((¬ y0 = 0) → vp_in ((((k 32 1) - 1) - x1) - (((k 32 1) - 1) - x1) / 16 * 16) 16 ∧ (Q (k 33 ((((k 32 1) - 1) - x1) - (((k 32 1) - 1) - x1) / 16 * 16).toNatClampNeg)))
set_option maxRecDepth 100000 in
set_option maxHeartbeats 4000000 in
theorem uP_backFromLatest_23 {E : mj_E} {r : mj_R} {mm : mj_St} {k : mj_St} {Q : Int32 → Prop} (hok : mj_Ok (mk_v E)) (C : mj_Cx (mk_v E) r cP_backFromLatest 3 RP mj_all { frames := 1, cells := 0, slots := 0, locals := 22 }) (Z : mj_Cr (mk_v E) r (some .int) (mj_iR (k, mm) Q)) {x1 : Int32} {y0 : Int32}    (h : wP_backFromLatest_23 x1 y0 k Q) : mj_G (mk_v E) r 23 [(0, .ref 32), (1, .int x1)] [.int y0] (k, mm) := by
  unfold wP_backFromLatest_23 at h
  refine mj_istore_n C dP_backFromLatest_23 (by decide) rfl ?_
  refine mj_iload_n C dP_backFromLatest_24 rfl ?_
  refine mj_if_eq (tgt := 47) C dP_backFromLatest_25 (by decide) (fun c3 => ?_) (fun c3 => ?_)
  · have h := h.1 c3
    refine mj_iconst (a := 0) C dP_backFromLatest_47 (by decide) ?_
    exact mj_iret C Z dP_backFromLatest_48 ⟨_, rfl, rfl, h⟩
  · have h := h.2 c3
    refine mj_aload_n C dP_backFromLatest_28 rfl ?_
    refine mj_getR C inP_all rfl e_Tape 0 (by decide) l_P_9 rfl dP_backFromLatest_29 ?_
    refine mj_aload_n C dP_backFromLatest_32 rfl ?_
    refine mj_getI C inP_all rfl e_Tape 1 (by decide) l_P_15 rfl dP_backFromLatest_33 ?_
    refine mj_iconst (a := 1) C dP_backFromLatest_36 (by decide) ?_
    refine mj_isub C dP_backFromLatest_37 ?_
    refine mj_iload_n C dP_backFromLatest_38 rfl ?_
    refine mj_isub C dP_backFromLatest_39 ?_
    refine mj_bipush (a := 16) C dP_backFromLatest_40 (by decide) ?_
    refine mj_irem C dP_backFromLatest_42 (by decide) ?_
    refine mj_iald (t0 := 0) C e_latest rfl h.1 dP_backFromLatest_43 ?_
    have h := h.2
    refine mj_goto (tgt := 48) C dP_backFromLatest_44 (by decide) ?_
    exact mj_iret C Z dP_backFromLatest_48 ⟨_, rfl, rfl, h⟩
def wP_backFromLatest_22 (x1 : Int32) (k : mj_St)  (Q : Int32 → Prop)  : Prop := wP_backFromLatest_23 x1 0 k Q
set_option maxRecDepth 100000 in
set_option maxHeartbeats 4000000 in
theorem uP_backFromLatest_22 {E : mj_E} {r : mj_R} {mm : mj_St} {k : mj_St} {Q : Int32 → Prop} (hok : mj_Ok (mk_v E)) (C : mj_Cx (mk_v E) r cP_backFromLatest 3 RP mj_all { frames := 1, cells := 0, slots := 0, locals := 22 }) (Z : mj_Cr (mk_v E) r (some .int) (mj_iR (k, mm) Q)) {x1 : Int32}    (h : wP_backFromLatest_22 x1 k Q) : mj_G (mk_v E) r 22 [(0, .ref 32), (1, .int x1)] [] (k, mm) := by
  unfold wP_backFromLatest_22 at h
  refine mj_iconst (a := 0) C dP_backFromLatest_22 (by decide) ?_
  exact mj_sub2 (uP_backFromLatest_23 hok C Z  h) ⟨rfl, rfl, trivial⟩
def wP_backFromLatest (p0 : Int32) (k : mj_St) (Q : Int32 → Prop) : Prop := wK_isBetween p0 0 15 (fun a1 => (((a1 = 0) → wP_backFromLatest_22 p0 k Q) ∧ ((¬ a1 = 0) → (((k 32 1) ≤ p0) → wP_backFromLatest_22 p0 k Q) ∧ ((¬ (k 32 1) ≤ p0) → wP_backFromLatest_23 p0 1 k Q))))
set_option maxRecDepth 100000 in
set_option maxHeartbeats 4000000 in
theorem qP_backFromLatest {E : mj_E} (hok : mj_Ok (mk_v E)) {p0 : Int32} {k mm : mj_St} {Q : Int32 → Prop} (h : wP_backFromLatest p0 k Q) : mj_Ct (mk_v E) yP_backFromLatest (Cond.code yP_backFromLatest cP_backFromLatest 3 (some .int) :: mj_all) { frames := 1, cells := 0, slots := 0, locals := 22 } [.ref 32, .int p0] (k, mm) (mj_iR (k, mm) Q) := by
  refine mj_enterA (L := [(0, .ref 32), (1, .int p0)]) hok (by decide +kernel) ⟨rfl, rfl⟩ (fun _ => Nat.le_of_ble_eq_true rfl) rfl (fun r C Z => ?_)
  unfold wP_backFromLatest at h
  refine mj_iload_n C dP_backFromLatest_0 rfl ?_
  refine mj_iconst (a := 0) C dP_backFromLatest_1 (by decide) ?_
  refine mj_bipush (a := 15) C dP_backFromLatest_2 (by decide) ?_
  refine mj_callSN_iR C (qK_isBetween hok h) gN_K_isBetween l_P_19 z_K_isBetween.2 ⟨Nat.le_of_ble_eq_true rfl, Nat.le_of_ble_eq_true rfl, rfl, rfl⟩ rfl rfl (Nat.le_of_ble_eq_true rfl) dP_backFromLatest_4 (fun a1 h => ?_)
  refine mj_if_eq (tgt := 22) C dP_backFromLatest_7 (by decide) (fun c2 => ?_) (fun c2 => ?_)
  · have h := h.1 c2
    exact mj_sub2 (uP_backFromLatest_22 hok C Z  h) ⟨rfl, rfl, trivial⟩
  · have h := h.2 c2
    refine mj_iload_n C dP_backFromLatest_10 rfl ?_
    refine mj_aload_n C dP_backFromLatest_11 rfl ?_
    refine mj_getI C inP_all rfl e_Tape 1 (by decide) l_P_15 rfl dP_backFromLatest_12 ?_
    refine mj_icmp_ge (tgt := 22) C dP_backFromLatest_15 (by decide) (fun c4 => ?_) (fun c4 => ?_)
    · have h := h.1 c4
      exact mj_sub2 (uP_backFromLatest_22 hok C Z  h) ⟨rfl, rfl, trivial⟩
    · have h := h.2 c4
      refine mj_iconst (a := 1) C dP_backFromLatest_18 (by decide) ?_
      refine mj_goto (tgt := 23) C dP_backFromLatest_19 (by decide) ?_
      exact mj_sub2 (uP_backFromLatest_23 hok C Z  h) ⟨rfl, rfl, trivial⟩
/-! GrantKernel.print -/
def wK_print (p0 : Int32) (k : mj_St) (Q : Int32 → Prop) : Prop := wP_backFromLatest p0 k (fun a1 => (Q a1))
set_option maxRecDepth 100000 in
set_option maxHeartbeats 4000000 in
theorem qK_print {E : mj_E} (hok : mj_Ok (mk_v E)) {p0 : Int32} {k mm : mj_St} {Q : Int32 → Prop} (h : wK_print p0 k Q) : mj_Ct (mk_v E) yK_print (Cond.code yK_print cK_print 2 (some .int) :: mj_all) { frames := 2, cells := 0, slots := 0, locals := 44 } [.ref 0, .int p0] (k, mm) (mj_iR (k, mm) Q) := by
  refine mj_enterA (L := [(0, .ref 0), (1, .int p0)]) hok (by decide +kernel) ⟨rfl, rfl⟩ (fun _ => Nat.le_of_ble_eq_true rfl) rfl (fun r C Z => ?_)
  unfold wK_print at h
  refine mj_aload_n C dK_print_0 rfl ?_
  refine mj_getR C inK_all rfl e_GK 6 (by decide) l_K_40 rfl dK_print_1 ?_
  refine mj_iload_n C dK_print_4 rfl ?_
  refine mj_callV_iR C (qP_backFromLatest hok h) (g_P_backFromLatest l_K_133) rfl e_Tape z_P_backFromLatest ⟨Nat.le_of_ble_eq_true rfl, Nat.le_of_ble_eq_true rfl, rfl, rfl⟩ rfl rfl (Nat.le_of_ble_eq_true rfl) dK_print_5 (fun a1 h => ?_)
  exact mj_iret C Z dK_print_8 ⟨_, rfl, rfl, h⟩
