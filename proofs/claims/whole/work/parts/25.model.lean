/-! GrantKernelModel.poke -/
def wM_poke (p0 : Int32) (p1 : Int32) (k : mj_St) (Q : Int32 → mj_St → Prop) : Prop := ((p0 < 0) → Q 0 k) ∧ ((¬ p0 < 0) → ((p0 ≤ 127) → vp_in p0 128 ∧ (∀ k3 : mj_St, k3 = mj_up k 1 p0.toNatClampNeg p1 → (Q 1 k3))) ∧ ((¬ p0 ≤ 127) → Q 0 k))
set_option maxRecDepth 100000 in
set_option maxHeartbeats 4000000 in
theorem qM_poke {E : mj_E} (hok : mj_Ok (mk_v E)) {p0 : Int32} {p1 : Int32} {k mm : mj_St} {Q : Int32 → mj_St → Prop} (h : wM_poke p0 p1 k Q) : mj_Ct (mk_v E) yM_poke (Cond.code yM_poke cM_poke 3 (some .boolean) :: mj_all) { frames := 0, cells := 0, slots := 0, locals := 0 } [.ref 34, .int p0, .int p1] (mm, k) (mj_iM mm Q) := by
  refine mj_enterA (L := [(0, .ref 34), (1, .int p0), (2, .int p1)]) hok (by decide +kernel) ⟨rfl, rfl⟩ (fun _ => Nat.le_of_ble_eq_true rfl) rfl (fun r C Z => ?_)
  unfold wM_poke at h
  refine mj_iload_n C dM_poke_0 rfl ?_
  refine mj_if_lt (tgt := 10) C dM_poke_1 (by decide) (fun c1 => ?_) (fun c1 => ?_)
  · have h := h.1 c1
    refine mj_iconst (a := 0) C dM_poke_10 (by decide) ?_
    exact mj_zret C Z (Or.inl rfl) dM_poke_11 ⟨_, _, rfl, rfl, h⟩
  · have h := h.2 c1
    refine mj_iload_n C dM_poke_4 rfl ?_
    refine mj_bipush (a := 127) C dM_poke_5 (by decide) ?_
    refine mj_icmp_le (tgt := 12) C dM_poke_7 (by decide) (fun c2 => ?_) (fun c2 => ?_)
    · have h := h.1 c2
      refine mj_aload_n C dM_poke_12 rfl ?_
      refine mj_getR C inM_all rfl e_Model 1 (by decide) l_M_7 rfl dM_poke_13 ?_
      refine mj_iload_n C dM_poke_16 rfl ?_
      refine mj_iload_n C dM_poke_17 rfl ?_
      refine mj_iast (t0 := 0) C e_m_memory rfl h.1 s_m_memory dM_poke_18 ?_
      have h := h.2 _ rfl
      refine mj_iconst (a := 1) C dM_poke_19 (by decide) ?_
      exact mj_zret C Z (Or.inr rfl) dM_poke_20 ⟨_, _, rfl, rfl, h⟩
    · have h := h.2 c2
      refine mj_iconst (a := 0) C dM_poke_10 (by decide) ?_
      exact mj_zret C Z (Or.inl rfl) dM_poke_11 ⟨_, _, rfl, rfl, h⟩
/-! GrantKernelModel.peek -/
def wM_peek_10  (k : mj_St)  (Q : Int32 → Prop)  : Prop := Q 0
set_option maxRecDepth 100000 in
set_option maxHeartbeats 4000000 in
theorem uM_peek_10 {E : mj_E} {r : mj_R} {mm : mj_St} {k : mj_St} {Q : Int32 → Prop} (hok : mj_Ok (mk_v E)) (C : mj_Cx (mk_v E) r cM_peek 2 RM mj_all { frames := 0, cells := 0, slots := 0, locals := 0 }) (Z : mj_Cr (mk_v E) r (some .int) (mj_iR (mm, k) Q))     (h : wM_peek_10 k Q) : mj_G (mk_v E) r 10 [] [] (mm, k) := by
  unfold wM_peek_10 at h
  refine mj_iconst (a := 0) C dM_peek_10 (by decide) ?_
  refine mj_goto (tgt := 20) C dM_peek_11 (by decide) ?_
  exact mj_iret C Z dM_peek_20 ⟨_, rfl, rfl, h⟩
def wM_peek (p0 : Int32) (k : mj_St) (Q : Int32 → Prop) : Prop := ((p0 < 0) → wM_peek_10 k Q) ∧ ((¬ p0 < 0) → ((p0 ≤ 127) → vp_in p0 128 ∧ (Q (k 1 p0.toNatClampNeg))) ∧ ((¬ p0 ≤ 127) → wM_peek_10 k Q))
set_option maxRecDepth 100000 in
set_option maxHeartbeats 4000000 in
theorem qM_peek {E : mj_E} (hok : mj_Ok (mk_v E)) {p0 : Int32} {k mm : mj_St} {Q : Int32 → Prop} (h : wM_peek p0 k Q) : mj_Ct (mk_v E) yM_peek (Cond.code yM_peek cM_peek 2 (some .int) :: mj_all) { frames := 0, cells := 0, slots := 0, locals := 0 } [.ref 34, .int p0] (mm, k) (mj_iR (mm, k) Q) := by
  refine mj_enterA (L := [(0, .ref 34), (1, .int p0)]) hok (by decide +kernel) ⟨rfl, rfl⟩ (fun _ => Nat.le_of_ble_eq_true rfl) rfl (fun r C Z => ?_)
  unfold wM_peek at h
  refine mj_iload_n C dM_peek_0 rfl ?_
  refine mj_if_lt (tgt := 10) C dM_peek_1 (by decide) (fun c1 => ?_) (fun c1 => ?_)
  · have h := h.1 c1
    exact mj_sub2 (uM_peek_10 hok C Z  h) trivial
  · have h := h.2 c1
    refine mj_iload_n C dM_peek_4 rfl ?_
    refine mj_bipush (a := 127) C dM_peek_5 (by decide) ?_
    refine mj_icmp_le (tgt := 14) C dM_peek_7 (by decide) (fun c2 => ?_) (fun c2 => ?_)
    · have h := h.1 c2
      refine mj_aload_n C dM_peek_14 rfl ?_
      refine mj_getR C inM_all rfl e_Model 1 (by decide) l_M_7 rfl dM_peek_15 ?_
      refine mj_iload_n C dM_peek_18 rfl ?_
      refine mj_iald (t0 := 0) C e_m_memory rfl h.1 dM_peek_19 ?_
      have h := h.2
      exact mj_iret C Z dM_peek_20 ⟨_, rfl, rfl, h⟩
    · have h := h.2 c2
      exact mj_sub2 (uM_peek_10 hok C Z  h) trivial
/-! GrantKernelModel.draw -/
def wM_draw (p0 : Int32) (k : mj_St) (Q : mj_St → Prop) : Prop := vp_in p0 6 ∧ (∀ k1 : mj_St, k1 = mj_up k 9 p0.toNatClampNeg (k 0 11) → (∀ k2 : mj_St, k2 = mj_up k1 0 11 ((k1 0 11) + 1) → (Q k2)))
set_option maxRecDepth 100000 in
set_option maxHeartbeats 4000000 in
theorem qM_draw {E : mj_E} (hok : mj_Ok (mk_v E)) {p0 : Int32} {k mm : mj_St} {Q : mj_St → Prop} (h : wM_draw p0 k Q) : mj_Ct (mk_v E) yM_draw (Cond.code yM_draw cM_draw 2 none :: mj_all) { frames := 0, cells := 0, slots := 0, locals := 0 } [.ref 34, .int p0] (mm, k) (mj_vM mm Q) := by
  refine mj_enterA (L := [(0, .ref 34), (1, .int p0)]) hok (by decide +kernel) ⟨rfl, rfl⟩ (fun _ => Nat.le_of_ble_eq_true rfl) rfl (fun r C Z => ?_)
  unfold wM_draw at h
  refine mj_aload_n C dM_draw_0 rfl ?_
  refine mj_getR C inM_all rfl e_Model 9 (by decide) l_M_34 rfl dM_draw_1 ?_
  refine mj_iload_n C dM_draw_4 rfl ?_
  refine mj_aload_n C dM_draw_5 rfl ?_
  refine mj_getI C inM_all rfl e_Model 11 (by decide) l_M_79 rfl dM_draw_6 ?_
  refine mj_iast (t0 := 0) C e_m_tickets rfl h.1 s_m_tickets dM_draw_9 ?_
  have h := h.2 _ rfl
  refine mj_aload_n C dM_draw_10 rfl ?_
  refine mj_aload_n C dM_draw_11 rfl ?_
  refine mj_getI C inM_all rfl e_Model 11 (by decide) l_M_79 rfl dM_draw_12 ?_
  refine mj_iconst (a := 1) C dM_draw_15 (by decide) ?_
  refine mj_iadd C dM_draw_16 ?_
  refine mj_put C inM_all rfl tyM okM nmM e_Model 11 (by decide) l_M_79 rfl (by decide +kernel) (Nat.le_of_ble_eq_true rfl) s_Model_11 dM_draw_17 ?_
  have h := h _ rfl
  exact mj_vret C Z dM_draw_20 ⟨_, rfl, rfl, h⟩
/-! GrantKernelModel.makeReady -/
def wM_makeReady (p0 : Int32) (k : mj_St) (Q : mj_St → Prop) : Prop := vp_in p0 6 ∧ (∀ k1 : mj_St, k1 = mj_up k 2 p0.toNatClampNeg 1 → (wM_draw p0 k1 (fun k2 => (Q k2))))
set_option maxRecDepth 100000 in
set_option maxHeartbeats 4000000 in
theorem qM_makeReady {E : mj_E} (hok : mj_Ok (mk_v E)) {p0 : Int32} {k mm : mj_St} {Q : mj_St → Prop} (h : wM_makeReady p0 k Q) : mj_Ct (mk_v E) yM_makeReady (Cond.code yM_makeReady cM_makeReady 2 none :: mj_all) { frames := 1, cells := 0, slots := 0, locals := 21 } [.ref 34, .int p0] (mm, k) (mj_vM mm Q) := by
  refine mj_enterA (L := [(0, .ref 34), (1, .int p0)]) hok (by decide +kernel) ⟨rfl, rfl⟩ (fun _ => Nat.le_of_ble_eq_true rfl) rfl (fun r C Z => ?_)
  unfold wM_makeReady at h
  refine mj_aload_n C dM_makeReady_0 rfl ?_
  refine mj_getR C inM_all rfl e_Model 2 (by decide) l_M_13 rfl dM_makeReady_1 ?_
  refine mj_iload_n C dM_makeReady_4 rfl ?_
  refine mj_iconst (a := 1) C dM_makeReady_5 (by decide) ?_
  refine mj_iast (t0 := 0) C e_m_states rfl h.1 s_m_states dM_makeReady_6 ?_
  have h := h.2 _ rfl
  refine mj_aload_n C dM_makeReady_7 rfl ?_
  refine mj_iload_n C dM_makeReady_8 rfl ?_
  refine mj_callV_vWM C (qM_draw hok h) (g_M_draw l_M_82) rfl e_Model z_M_draw ⟨Nat.le_of_ble_eq_true rfl, Nat.le_of_ble_eq_true rfl, rfl, rfl⟩ rfl rfl (Nat.le_of_ble_eq_true rfl) dM_makeReady_9 (fun k2 h => ?_)
  exact mj_vret C Z dM_makeReady_12 ⟨_, rfl, rfl, h⟩
/-! GrantKernelModel.spawn -/
def wM_spawn_109 (n : Nat) (x4 : Int32) (x5 : Int32)  (k : mj_St) (Q : Int32 → mj_St → Prop)  : Prop := match n with
  | 0 => False
  | n + 1 => ((((8 * x4) + 8) ≤ x5) → wM_makeReady x4 k (fun k14 => (Q x4 k14))) ∧ ((¬ ((8 * x4) + 8) ≤ x5) → vp_in x5 48 ∧ (∀ k15 : mj_St, k15 = mj_up k 8 x5.toNatClampNeg 0 → (vp_in x5 48 ∧ (∀ k16 : mj_St, k16 = mj_up k15 16 x5.toNatClampNeg 0 → (vp_in x5 48 ∧ (∀ k17 : mj_St, k17 = mj_up k16 19 x5.toNatClampNeg (-1) → (∀ a18 : Int32, a18 = x5 + 1 → (wM_spawn_109 n x4 a18 k17 Q))))))))
set_option maxRecDepth 100000 in
set_option maxHeartbeats 4000000 in
theorem uM_spawn_109 {E : mj_E} {r : mj_R} {mm : mj_St} {Q : Int32 → mj_St → Prop} (hok : mj_Ok (mk_v E)) (C : mj_Cx (mk_v E) r cM_spawn 6 RM mj_all { frames := 2, cells := 0, slots := 0, locals := 42 }) (Z : mj_Cr (mk_v E) r (some .int) (mj_iM mm Q))   : ∀ (n : Nat) (x4 : Int32) (x5 : Int32) (k : mj_St), wM_spawn_109 n x4 x5 k Q → mj_G (mk_v E) r 109 [(0, .ref 34), (4, .int x4), (5, .int x5)] [] (mm, k) := by
  intro n
  induction n with
  | zero => intro x4 x5 k h; exact False.elim h
  | succ n ih =>
    intro x4 x5 k h
    rw [wM_spawn_109] at h
    refine mj_iload C dM_spawn_109 rfl ?_
    refine mj_bipush (a := 8) C dM_spawn_111 (by decide) ?_
    refine mj_iload C dM_spawn_113 rfl ?_
    refine mj_imul C dM_spawn_115 ?_
    refine mj_bipush (a := 8) C dM_spawn_116 (by decide) ?_
    refine mj_iadd C dM_spawn_118 ?_
    refine mj_icmp_ge (tgt := 152) C dM_spawn_119 (by decide) (fun c13 => ?_) (fun c13 => ?_)
    · have h := h.1 c13
      refine mj_aload_n C dM_spawn_152 rfl ?_
      refine mj_iload C dM_spawn_153 rfl ?_
      refine mj_callV_vWM C (qM_makeReady hok h) (g_M_makeReady l_M_101) rfl e_Model z_M_makeReady ⟨Nat.le_of_ble_eq_true rfl, Nat.le_of_ble_eq_true rfl, rfl, rfl⟩ rfl rfl (Nat.le_of_ble_eq_true rfl) dM_spawn_155 (fun k14 h => ?_)
      refine mj_iload C dM_spawn_158 rfl ?_
      exact mj_iret C Z dM_spawn_160 ⟨_, _, rfl, rfl, h⟩
    · have h := h.2 c13
      refine mj_aload_n C dM_spawn_122 rfl ?_
      refine mj_getR C inM_all rfl e_Model 8 (by decide) l_M_31 rfl dM_spawn_123 ?_
      refine mj_iload C dM_spawn_126 rfl ?_
      refine mj_iconst (a := 0) C dM_spawn_128 (by decide) ?_
      refine mj_iast (t0 := 0) C e_m_registers rfl h.1 s_m_registers dM_spawn_129 ?_
      have h := h.2 _ rfl
      refine mj_aload_n C dM_spawn_130 rfl ?_
      refine mj_getR C inM_all rfl e_Model 18 (by decide) l_M_56 rfl dM_spawn_131 ?_
      refine mj_iload C dM_spawn_134 rfl ?_
      refine mj_iconst (a := 0) C dM_spawn_136 (by decide) ?_
      refine mj_iast (t0 := 0) C e_m_kinds rfl h.1 s_m_kinds dM_spawn_137 ?_
      have h := h.2 _ rfl
      refine mj_aload_n C dM_spawn_138 rfl ?_
      refine mj_getR C inM_all rfl e_Model 21 (by decide) l_M_65 rfl dM_spawn_139 ?_
      refine mj_iload C dM_spawn_142 rfl ?_
      refine mj_iconst (a := (-1)) C dM_spawn_144 (by decide) ?_
      refine mj_iast (t0 := 0) C e_m_parents rfl h.1 s_m_parents dM_spawn_145 ?_
      have h := h.2 _ rfl
      refine mj_iinc (b := 1) C dM_spawn_146 rfl (by decide) (by decide) rfl ?_
      have h := h _ rfl
      refine mj_goto (tgt := 109) C dM_spawn_149 (by decide) ?_
      exact mj_sub2 (ih _ _ _ h) ⟨rfl, rfl, rfl, trivial⟩
def wM_spawn_29 (x1 : Int32) (x2 : Int32) (x3 : Int32) (x4 : Int32)  (k : mj_St) (Q : Int32 → mj_St → Prop)  : Prop := ((x4 = 6) → Q (-1) k) ∧ ((¬ x4 = 6) → ((x2 < 0) → Q (-1) k) ∧ ((¬ x2 < 0) → ((x3 < 0) → Q (-1) k) ∧ ((¬ x3 < 0) → ((128 < x2) → Q (-1) k) ∧ ((¬ 128 < x2) → ((x3 ≤ (128 - x2)) → vp_in x4 6 ∧ (∀ k7 : mj_St, k7 = mj_up k 3 x4.toNatClampNeg 0 → (vp_in x4 6 ∧ (∀ k8 : mj_St, k8 = mj_up k7 4 x4.toNatClampNeg x1 → (vp_in x4 6 ∧ (∀ k9 : mj_St, k9 = mj_up k8 5 x4.toNatClampNeg x2 → (vp_in x4 6 ∧ (∀ k10 : mj_St, k10 = mj_up k9 6 x4.toNatClampNeg x3 → (vp_in x4 6 ∧ (∀ k11 : mj_St, k11 = mj_up k10 7 x4.toNatClampNeg (-1) → (∀ a12 : Int32, a12 = 8 * x4 → ((∃ e109, wM_spawn_109 e109 x4 a12 k11 Q))))))))))))) ∧ ((¬ x3 ≤ (128 - x2)) → Q (-1) k)))))
set_option maxRecDepth 100000 in
set_option maxHeartbeats 4000000 in
theorem uM_spawn_29 {E : mj_E} {r : mj_R} {mm : mj_St} {Q : Int32 → mj_St → Prop} (hok : mj_Ok (mk_v E)) (C : mj_Cx (mk_v E) r cM_spawn 6 RM mj_all { frames := 2, cells := 0, slots := 0, locals := 42 }) (Z : mj_Cr (mk_v E) r (some .int) (mj_iM mm Q)) {x1 : Int32} {x2 : Int32} {x3 : Int32} {x4 : Int32} {k : mj_St}   (h : wM_spawn_29 x1 x2 x3 x4 k Q) : mj_G (mk_v E) r 29 [(0, .ref 34), (1, .int x1), (2, .int x2), (3, .int x3), (4, .int x4)] [] (mm, k) := by
  unfold wM_spawn_29 at h
  refine mj_iload C dM_spawn_29 rfl ?_
  refine mj_bipush (a := 6) C dM_spawn_31 (by decide) ?_
  refine mj_icmp_eq (tgt := 60) C dM_spawn_33 (by decide) (fun c2 => ?_) (fun c2 => ?_)
  · have h := h.1 c2
    refine mj_iconst (a := (-1)) C dM_spawn_60 (by decide) ?_
    exact mj_iret C Z dM_spawn_61 ⟨_, _, rfl, rfl, h⟩
  · have h := h.2 c2
    refine mj_iload_n C dM_spawn_36 rfl ?_
    refine mj_if_lt (tgt := 60) C dM_spawn_37 (by decide) (fun c3 => ?_) (fun c3 => ?_)
    · have h := h.1 c3
      refine mj_iconst (a := (-1)) C dM_spawn_60 (by decide) ?_
      exact mj_iret C Z dM_spawn_61 ⟨_, _, rfl, rfl, h⟩
    · have h := h.2 c3
      refine mj_iload_n C dM_spawn_40 rfl ?_
      refine mj_if_lt (tgt := 60) C dM_spawn_41 (by decide) (fun c4 => ?_) (fun c4 => ?_)
      · have h := h.1 c4
        refine mj_iconst (a := (-1)) C dM_spawn_60 (by decide) ?_
        exact mj_iret C Z dM_spawn_61 ⟨_, _, rfl, rfl, h⟩
      · have h := h.2 c4
        refine mj_iload_n C dM_spawn_44 rfl ?_
        refine mj_sipush (a := 128) C dM_spawn_45 (by decide) ?_
        refine mj_icmp_gt (tgt := 60) C dM_spawn_48 (by decide) (fun c5 => ?_) (fun c5 => ?_)
        · have h := h.1 c5
          refine mj_iconst (a := (-1)) C dM_spawn_60 (by decide) ?_
          exact mj_iret C Z dM_spawn_61 ⟨_, _, rfl, rfl, h⟩
        · have h := h.2 c5
          refine mj_iload_n C dM_spawn_51 rfl ?_
          refine mj_sipush (a := 128) C dM_spawn_52 (by decide) ?_
          refine mj_iload_n C dM_spawn_55 rfl ?_
          refine mj_isub C dM_spawn_56 ?_
          refine mj_icmp_le (tgt := 62) C dM_spawn_57 (by decide) (fun c6 => ?_) (fun c6 => ?_)
          · have h := h.1 c6
            refine mj_aload_n C dM_spawn_62 rfl ?_
            refine mj_getR C inM_all rfl e_Model 3 (by decide) l_M_16 rfl dM_spawn_63 ?_
            refine mj_iload C dM_spawn_66 rfl ?_
            refine mj_iconst (a := 0) C dM_spawn_68 (by decide) ?_
            refine mj_iast (t0 := 0) C e_m_faults rfl h.1 s_m_faults dM_spawn_69 ?_
            have h := h.2 _ rfl
            refine mj_aload_n C dM_spawn_70 rfl ?_
            refine mj_getR C inM_all rfl e_Model 4 (by decide) l_M_19 rfl dM_spawn_71 ?_
            refine mj_iload C dM_spawn_74 rfl ?_
            refine mj_iload_n C dM_spawn_76 rfl ?_
            refine mj_iast (t0 := 0) C e_m_counters rfl h.1 s_m_counters dM_spawn_77 ?_
            have h := h.2 _ rfl
            refine mj_aload_n C dM_spawn_78 rfl ?_
            refine mj_getR C inM_all rfl e_Model 5 (by decide) l_M_22 rfl dM_spawn_79 ?_
            refine mj_iload C dM_spawn_82 rfl ?_
            refine mj_iload_n C dM_spawn_84 rfl ?_
            refine mj_iast (t0 := 0) C e_m_bases rfl h.1 s_m_bases dM_spawn_85 ?_
            have h := h.2 _ rfl
            refine mj_aload_n C dM_spawn_86 rfl ?_
            refine mj_getR C inM_all rfl e_Model 6 (by decide) l_M_25 rfl dM_spawn_87 ?_
            refine mj_iload C dM_spawn_90 rfl ?_
            refine mj_iload_n C dM_spawn_92 rfl ?_
            refine mj_iast (t0 := 0) C e_m_lengths rfl h.1 s_m_lengths dM_spawn_93 ?_
            have h := h.2 _ rfl
            refine mj_aload_n C dM_spawn_94 rfl ?_
            refine mj_getR C inM_all rfl e_Model 7 (by decide) l_M_28 rfl dM_spawn_95 ?_
            refine mj_iload C dM_spawn_98 rfl ?_
            refine mj_iconst (a := (-1)) C dM_spawn_100 (by decide) ?_
            refine mj_iast (t0 := 0) C e_m_callers rfl h.1 s_m_callers dM_spawn_101 ?_
            have h := h.2 _ rfl
            refine mj_bipush (a := 8) C dM_spawn_102 (by decide) ?_
            refine mj_iload C dM_spawn_104 rfl ?_
            refine mj_imul C dM_spawn_106 ?_
            refine mj_istore C dM_spawn_107 (by decide) rfl ?_
            have h := h _ rfl
            obtain ⟨n0, h⟩ := h
            exact mj_sub2 (uM_spawn_109 hok C Z  n0 _ _ _ h) ⟨rfl, rfl, rfl, trivial⟩
          · have h := h.2 c6
            refine mj_iconst (a := (-1)) C dM_spawn_60 (by decide) ?_
            exact mj_iret C Z dM_spawn_61 ⟨_, _, rfl, rfl, h⟩
def wM_spawn_3 (n : Nat) (x1 : Int32) (x2 : Int32) (x3 : Int32) (x4 : Int32)  (k : mj_St) (Q : Int32 → mj_St → Prop)  : Prop := match n with
  | 0 => False
  | n + 1 => ((6 ≤ x4) → wM_spawn_29 x1 x2 x3 x4 k Q) ∧ ((¬ 6 ≤ x4) → vp_in x4 6 ∧ ((((k 2 x4.toNatClampNeg) = 0) → wM_spawn_29 x1 x2 x3 x4 k Q) ∧ ((¬ (k 2 x4.toNatClampNeg) = 0) → ∀ a20 : Int32, a20 = x4 + 1 → (wM_spawn_3 n x1 x2 x3 a20 k Q))))
set_option maxRecDepth 100000 in
set_option maxHeartbeats 4000000 in
theorem uM_spawn_3 {E : mj_E} {r : mj_R} {mm : mj_St} {Q : Int32 → mj_St → Prop} (hok : mj_Ok (mk_v E)) (C : mj_Cx (mk_v E) r cM_spawn 6 RM mj_all { frames := 2, cells := 0, slots := 0, locals := 42 }) (Z : mj_Cr (mk_v E) r (some .int) (mj_iM mm Q))   : ∀ (n : Nat) (x1 : Int32) (x2 : Int32) (x3 : Int32) (x4 : Int32) (k : mj_St), wM_spawn_3 n x1 x2 x3 x4 k Q → mj_G (mk_v E) r 3 [(0, .ref 34), (1, .int x1), (2, .int x2), (3, .int x3), (4, .int x4)] [] (mm, k) := by
  intro n
  induction n with
  | zero => intro x1 x2 x3 x4 k h; exact False.elim h
  | succ n ih =>
    intro x1 x2 x3 x4 k h
    rw [wM_spawn_3] at h
    refine mj_iload C dM_spawn_3 rfl ?_
    refine mj_bipush (a := 6) C dM_spawn_5 (by decide) ?_
    refine mj_icmp_ge (tgt := 29) C dM_spawn_7 (by decide) (fun c1 => ?_) (fun c1 => ?_)
    · have h := h.1 c1
      exact mj_sub2 (uM_spawn_29 hok C Z  h) ⟨rfl, rfl, rfl, rfl, rfl, trivial⟩
    · have h := h.2 c1
      refine mj_aload_n C dM_spawn_10 rfl ?_
      refine mj_getR C inM_all rfl e_Model 2 (by decide) l_M_13 rfl dM_spawn_11 ?_
      refine mj_iload C dM_spawn_14 rfl ?_
      refine mj_iald (t0 := 0) C e_m_states rfl h.1 dM_spawn_16 ?_
      have h := h.2
      refine mj_if_eq (tgt := 29) C dM_spawn_17 (by decide) (fun c19 => ?_) (fun c19 => ?_)
      · have h := h.1 c19
        exact mj_sub2 (uM_spawn_29 hok C Z  h) ⟨rfl, rfl, rfl, rfl, rfl, trivial⟩
      · have h := h.2 c19
        refine mj_iload C dM_spawn_20 rfl ?_
        refine mj_iconst (a := 1) C dM_spawn_22 (by decide) ?_
        refine mj_iadd C dM_spawn_23 ?_
        refine mj_istore C dM_spawn_24 (by decide) rfl ?_
        have h := h _ rfl
        refine mj_goto (tgt := 3) C dM_spawn_26 (by decide) ?_
        exact mj_sub2 (ih _ _ _ _ _ h) ⟨rfl, rfl, rfl, rfl, rfl, trivial⟩
def wM_spawn (p0 : Int32) (p1 : Int32) (p2 : Int32) (k : mj_St) (Q : Int32 → mj_St → Prop) : Prop := (∃ e3, wM_spawn_3 e3 p0 p1 p2 0 k Q)
set_option maxRecDepth 100000 in
set_option maxHeartbeats 4000000 in
theorem qM_spawn {E : mj_E} (hok : mj_Ok (mk_v E)) {p0 : Int32} {p1 : Int32} {p2 : Int32} {k mm : mj_St} {Q : Int32 → mj_St → Prop} (h : wM_spawn p0 p1 p2 k Q) : mj_Ct (mk_v E) yM_spawn (Cond.code yM_spawn cM_spawn 6 (some .int) :: mj_all) { frames := 2, cells := 0, slots := 0, locals := 42 } [.ref 34, .int p0, .int p1, .int p2] (mm, k) (mj_iM mm Q) := by
  refine mj_enterA (L := [(0, .ref 34), (1, .int p0), (2, .int p1), (3, .int p2)]) hok (by decide +kernel) ⟨rfl, rfl⟩ (fun _ => Nat.le_of_ble_eq_true rfl) rfl (fun r C Z => ?_)
  unfold wM_spawn at h
  refine mj_iconst (a := 0) C dM_spawn_0 (by decide) ?_
  refine mj_istore C dM_spawn_1 (by decide) rfl ?_
  obtain ⟨n0, h⟩ := h
  exact mj_sub2 (uM_spawn_3 hok C Z  n0 _ _ _ _ _ h) ⟨rfl, rfl, rfl, rfl, rfl, trivial⟩
/-! GrantKernelModel.isThread -/
def wM_isThread (p0 : Int32)  (Q : Int32 → Prop) : Prop := ((p0 < 0) → Q 0) ∧ ((¬ p0 < 0) → ((6 ≤ p0) → Q 0) ∧ ((¬ 6 ≤ p0) → Q 1))
set_option maxRecDepth 100000 in
set_option maxHeartbeats 4000000 in
theorem qM_isThread {E : mj_E} (hok : mj_Ok (mk_v E)) {p0 : Int32} {x : mj_X} {Q : Int32 → Prop} (h : wM_isThread p0  Q) : mj_Ct (mk_v E) yM_isThread (Cond.code yM_isThread cM_isThread 1 (some .boolean) :: mj_all) { frames := 0, cells := 0, slots := 0, locals := 0 } [.int p0] x (mj_iR x Q) := by
  refine mj_enterA (L := [(0, .int p0)]) hok (by decide +kernel) ⟨rfl, rfl⟩ (fun _ => Nat.le_of_ble_eq_true rfl) rfl (fun r C Z => ?_)
  unfold wM_isThread at h
  refine mj_iload_n C dM_isThread_0 rfl ?_
  refine mj_if_lt (tgt := 14) C dM_isThread_1 (by decide) (fun c1 => ?_) (fun c1 => ?_)
  · have h := h.1 c1
    refine mj_iconst (a := 0) C dM_isThread_14 (by decide) ?_
    exact mj_zret C Z (Or.inl rfl) dM_isThread_15 ⟨_, rfl, rfl, h⟩
  · have h := h.2 c1
    refine mj_iload_n C dM_isThread_4 rfl ?_
    refine mj_bipush (a := 6) C dM_isThread_5 (by decide) ?_
    refine mj_icmp_ge (tgt := 14) C dM_isThread_7 (by decide) (fun c2 => ?_) (fun c2 => ?_)
    · have h := h.1 c2
      refine mj_iconst (a := 0) C dM_isThread_14 (by decide) ?_
      exact mj_zret C Z (Or.inl rfl) dM_isThread_15 ⟨_, rfl, rfl, h⟩
    · have h := h.2 c2
      refine mj_iconst (a := 1) C dM_isThread_10 (by decide) ?_
      refine mj_goto (tgt := 15) C dM_isThread_11 (by decide) ?_
      exact mj_zret C Z (Or.inr rfl) dM_isThread_15 ⟨_, rfl, rfl, h⟩
/-! GrantKernelModel.isThere -/
def wM_isThere (p0 : Int32) (k : mj_St) (Q : Int32 → Prop) : Prop := wM_isThread p0 (fun a1 => (((a1 = 0) → Q 0) ∧ ((¬ a1 = 0) → vp_in p0 6 ∧ ((((k 2 p0.toNatClampNeg) = 0) → Q 0) ∧ ((¬ (k 2 p0.toNatClampNeg) = 0) → Q 1)))))
set_option maxRecDepth 100000 in
set_option maxHeartbeats 4000000 in
theorem qM_isThere {E : mj_E} (hok : mj_Ok (mk_v E)) {p0 : Int32} {k mm : mj_St} {Q : Int32 → Prop} (h : wM_isThere p0 k Q) : mj_Ct (mk_v E) yM_isThere (Cond.code yM_isThere cM_isThere 2 (some .boolean) :: mj_all) { frames := 1, cells := 0, slots := 0, locals := 20 } [.ref 34, .int p0] (mm, k) (mj_iR (mm, k) Q) := by
  refine mj_enterA (L := [(0, .ref 34), (1, .int p0)]) hok (by decide +kernel) ⟨rfl, rfl⟩ (fun _ => Nat.le_of_ble_eq_true rfl) rfl (fun r C Z => ?_)
  unfold wM_isThere at h
  refine mj_iload_n C dM_isThere_0 rfl ?_
  refine mj_callS_iR C (qM_isThread hok h) (g_M_isThread l_M_75) z_M_isThread ⟨Nat.le_of_ble_eq_true rfl, Nat.le_of_ble_eq_true rfl, rfl, rfl⟩ rfl rfl (Nat.le_of_ble_eq_true rfl) dM_isThere_1 (fun a1 h => ?_)
  refine mj_if_eq (tgt := 20) C dM_isThere_4 (by decide) (fun c2 => ?_) (fun c2 => ?_)
  · have h := h.1 c2
    refine mj_iconst (a := 0) C dM_isThere_20 (by decide) ?_
    exact mj_zret C Z (Or.inl rfl) dM_isThere_21 ⟨_, rfl, rfl, h⟩
  · have h := h.2 c2
    refine mj_aload_n C dM_isThere_7 rfl ?_
    refine mj_getR C inM_all rfl e_Model 2 (by decide) l_M_13 rfl dM_isThere_8 ?_
    refine mj_iload_n C dM_isThere_11 rfl ?_
    refine mj_iald (t0 := 0) C e_m_states rfl h.1 dM_isThere_12 ?_
    have h := h.2
    refine mj_if_eq (tgt := 20) C dM_isThere_13 (by decide) (fun c3 => ?_) (fun c3 => ?_)
    · have h := h.1 c3
      refine mj_iconst (a := 0) C dM_isThere_20 (by decide) ?_
      exact mj_zret C Z (Or.inl rfl) dM_isThere_21 ⟨_, rfl, rfl, h⟩
    · have h := h.2 c3
      refine mj_iconst (a := 1) C dM_isThere_16 (by decide) ?_
      refine mj_goto (tgt := 21) C dM_isThere_17 (by decide) ?_
      exact mj_zret C Z (Or.inr rfl) dM_isThere_21 ⟨_, rfl, rfl, h⟩
/-! GrantKernelModel.isEight -/
def wM_isEight (p0 : Int32)  (Q : Int32 → Prop) : Prop := ((p0 < 0) → Q 0) ∧ ((¬ p0 < 0) → ((8 ≤ p0) → Q 0) ∧ ((¬ 8 ≤ p0) → Q 1))
set_option maxRecDepth 100000 in
set_option maxHeartbeats 4000000 in
theorem qM_isEight {E : mj_E} (hok : mj_Ok (mk_v E)) {p0 : Int32} {x : mj_X} {Q : Int32 → Prop} (h : wM_isEight p0  Q) : mj_Ct (mk_v E) yM_isEight (Cond.code yM_isEight cM_isEight 1 (some .boolean) :: mj_all) { frames := 0, cells := 0, slots := 0, locals := 0 } [.int p0] x (mj_iR x Q) := by
  refine mj_enterA (L := [(0, .int p0)]) hok (by decide +kernel) ⟨rfl, rfl⟩ (fun _ => Nat.le_of_ble_eq_true rfl) rfl (fun r C Z => ?_)
  unfold wM_isEight at h
  refine mj_iload_n C dM_isEight_0 rfl ?_
  refine mj_if_lt (tgt := 14) C dM_isEight_1 (by decide) (fun c1 => ?_) (fun c1 => ?_)
  · have h := h.1 c1
    refine mj_iconst (a := 0) C dM_isEight_14 (by decide) ?_
    exact mj_zret C Z (Or.inl rfl) dM_isEight_15 ⟨_, rfl, rfl, h⟩
  · have h := h.2 c1
    refine mj_iload_n C dM_isEight_4 rfl ?_
    refine mj_bipush (a := 8) C dM_isEight_5 (by decide) ?_
    refine mj_icmp_ge (tgt := 14) C dM_isEight_7 (by decide) (fun c2 => ?_) (fun c2 => ?_)
    · have h := h.1 c2
      refine mj_iconst (a := 0) C dM_isEight_14 (by decide) ?_
      exact mj_zret C Z (Or.inl rfl) dM_isEight_15 ⟨_, rfl, rfl, h⟩
    · have h := h.2 c2
      refine mj_iconst (a := 1) C dM_isEight_10 (by decide) ?_
      refine mj_goto (tgt := 15) C dM_isEight_11 (by decide) ?_
      exact mj_zret C Z (Or.inr rfl) dM_isEight_15 ⟨_, rfl, rfl, h⟩
/-! GrantKernelModel.put -/
def wM_put (p0 : Int32) (p1 : Int32) (p2 : Int32) (k : mj_St) (Q : Int32 → mj_St → Prop) : Prop := wM_isThere p0 k (fun a1 => (((a1 = 0) → Q 0 k) ∧ ((¬ a1 = 0) → wM_isEight p1 (fun a3 => (((¬ a3 = 0) → vp_in ((8 * p0) + p1) 48 ∧ (∀ k5 : mj_St, k5 = mj_up k 8 ((8 * p0) + p1).toNatClampNeg p2 → (Q 1 k5))) ∧ ((a3 = 0) → Q 0 k))))))
set_option maxRecDepth 100000 in
set_option maxHeartbeats 4000000 in
theorem qM_put {E : mj_E} (hok : mj_Ok (mk_v E)) {p0 : Int32} {p1 : Int32} {p2 : Int32} {k mm : mj_St} {Q : Int32 → mj_St → Prop} (h : wM_put p0 p1 p2 k Q) : mj_Ct (mk_v E) yM_put (Cond.code yM_put cM_put 4 (some .boolean) :: mj_all) { frames := 2, cells := 0, slots := 0, locals := 41 } [.ref 34, .int p0, .int p1, .int p2] (mm, k) (mj_iM mm Q) := by
  refine mj_enterA (L := [(0, .ref 34), (1, .int p0), (2, .int p1), (3, .int p2)]) hok (by decide +kernel) ⟨rfl, rfl⟩ (fun _ => Nat.le_of_ble_eq_true rfl) rfl (fun r C Z => ?_)
  unfold wM_put at h
  refine mj_aload_n C dM_put_0 rfl ?_
  refine mj_iload_n C dM_put_1 rfl ?_
  refine mj_callV_iR C (qM_isThere hok h) (g_M_isThere l_M_104) rfl e_Model z_M_isThere ⟨Nat.le_of_ble_eq_true rfl, Nat.le_of_ble_eq_true rfl, rfl, rfl⟩ rfl rfl (Nat.le_of_ble_eq_true rfl) dM_put_2 (fun a1 h => ?_)
  refine mj_if_eq (tgt := 15) C dM_put_5 (by decide) (fun c2 => ?_) (fun c2 => ?_)
  · have h := h.1 c2
    refine mj_iconst (a := 0) C dM_put_15 (by decide) ?_
    exact mj_zret C Z (Or.inl rfl) dM_put_16 ⟨_, _, rfl, rfl, h⟩
  · have h := h.2 c2
    refine mj_iload_n C dM_put_8 rfl ?_
    refine mj_callS_iR C (qM_isEight hok h) (g_M_isEight l_M_107) z_M_isEight ⟨Nat.le_of_ble_eq_true rfl, Nat.le_of_ble_eq_true rfl, rfl, rfl⟩ rfl rfl (Nat.le_of_ble_eq_true rfl) dM_put_9 (fun a3 h => ?_)
    refine mj_if_ne (tgt := 17) C dM_put_12 (by decide) (fun c4 => ?_) (fun c4 => ?_)
    · have h := h.1 c4
      refine mj_aload_n C dM_put_17 rfl ?_
      refine mj_getR C inM_all rfl e_Model 8 (by decide) l_M_31 rfl dM_put_18 ?_
      refine mj_bipush (a := 8) C dM_put_21 (by decide) ?_
      refine mj_iload_n C dM_put_23 rfl ?_
      refine mj_imul C dM_put_24 ?_
      refine mj_iload_n C dM_put_25 rfl ?_
      refine mj_iadd C dM_put_26 ?_
      refine mj_iload_n C dM_put_27 rfl ?_
      refine mj_iast (t0 := 0) C e_m_registers rfl h.1 s_m_registers dM_put_28 ?_
      have h := h.2 _ rfl
      refine mj_iconst (a := 1) C dM_put_29 (by decide) ?_
      exact mj_zret C Z (Or.inr rfl) dM_put_30 ⟨_, _, rfl, rfl, h⟩
    · have h := h.2 c4
      refine mj_iconst (a := 0) C dM_put_15 (by decide) ?_
      exact mj_zret C Z (Or.inl rfl) dM_put_16 ⟨_, _, rfl, rfl, h⟩
/-! GrantKernelModel.give -/
def wM_give_60 (x1 : Int32) (x2 : Int32) (x3 : Int32) (x4 : Int32) (x5 : Int32)  (k : mj_St) (Q : Int32 → mj_St → Prop)  : Prop := wM_isEight x5 (fun a11 => (((¬ a11 = 0) → vp_in ((8 * x1) + x2) 48 ∧ (∀ k13 : mj_St, k13 = mj_up k 16 ((8 * x1) + x2).toNatClampNeg x3 → (vp_in ((8 * x1) + x2) 48 ∧ (∀ k14 : mj_St, k14 = mj_up k13 17 ((8 * x1) + x2).toNatClampNeg x4 → (vp_in ((8 * x1) + x2) 48 ∧ (∀ k15 : mj_St, k15 = mj_up k14 18 ((8 * x1) + x2).toNatClampNeg x5 → (vp_in ((8 * x1) + x2) 48 ∧ (∀ k16 : mj_St, k16 = mj_up k15 19 ((8 * x1) + x2).toNatClampNeg (-1) → (Q 1 k16))))))))) ∧ ((a11 = 0) → Q 0 k)))
set_option maxRecDepth 100000 in
set_option maxHeartbeats 4000000 in
theorem uM_give_60 {E : mj_E} {r : mj_R} {mm : mj_St} {Q : Int32 → mj_St → Prop} (hok : mj_Ok (mk_v E)) (C : mj_Cx (mk_v E) r cM_give 6 RM mj_all { frames := 2, cells := 0, slots := 0, locals := 41 }) (Z : mj_Cr (mk_v E) r (some .boolean) (mj_iM mm Q)) {x1 : Int32} {x2 : Int32} {x3 : Int32} {x4 : Int32} {x5 : Int32} {k : mj_St}   (h : wM_give_60 x1 x2 x3 x4 x5 k Q) : mj_G (mk_v E) r 60 [(0, .ref 34), (1, .int x1), (2, .int x2), (3, .int x3), (4, .int x4), (5, .int x5)] [] (mm, k) := by
  unfold wM_give_60 at h
  refine mj_iload C dM_give_60 rfl ?_
  refine mj_callS_iR C (qM_isEight hok h) (g_M_isEight l_M_107) z_M_isEight ⟨Nat.le_of_ble_eq_true rfl, Nat.le_of_ble_eq_true rfl, rfl, rfl⟩ rfl rfl (Nat.le_of_ble_eq_true rfl) dM_give_62 (fun a11 h => ?_)
  refine mj_if_ne (tgt := 70) C dM_give_65 (by decide) (fun c12 => ?_) (fun c12 => ?_)
  · have h := h.1 c12
    refine mj_aload_n C dM_give_70 rfl ?_
    refine mj_getR C inM_all rfl e_Model 18 (by decide) l_M_56 rfl dM_give_71 ?_
    refine mj_bipush (a := 8) C dM_give_74 (by decide) ?_
    refine mj_iload_n C dM_give_76 rfl ?_
    refine mj_imul C dM_give_77 ?_
    refine mj_iload_n C dM_give_78 rfl ?_
    refine mj_iadd C dM_give_79 ?_
    refine mj_iload_n C dM_give_80 rfl ?_
    refine mj_iast (t0 := 0) C e_m_kinds rfl h.1 s_m_kinds dM_give_81 ?_
    have h := h.2 _ rfl
    refine mj_aload_n C dM_give_82 rfl ?_
    refine mj_getR C inM_all rfl e_Model 19 (by decide) l_M_59 rfl dM_give_83 ?_
    refine mj_bipush (a := 8) C dM_give_86 (by decide) ?_
    refine mj_iload_n C dM_give_88 rfl ?_
    refine mj_imul C dM_give_89 ?_
    refine mj_iload_n C dM_give_90 rfl ?_
    refine mj_iadd C dM_give_91 ?_
    refine mj_iload C dM_give_92 rfl ?_
    refine mj_iast (t0 := 0) C e_m_objects rfl h.1 s_m_objects dM_give_94 ?_
    have h := h.2 _ rfl
    refine mj_aload_n C dM_give_95 rfl ?_
    refine mj_getR C inM_all rfl e_Model 20 (by decide) l_M_62 rfl dM_give_96 ?_
    refine mj_bipush (a := 8) C dM_give_99 (by decide) ?_
    refine mj_iload_n C dM_give_101 rfl ?_
    refine mj_imul C dM_give_102 ?_
    refine mj_iload_n C dM_give_103 rfl ?_
    refine mj_iadd C dM_give_104 ?_
    refine mj_iload C dM_give_105 rfl ?_
    refine mj_iast (t0 := 0) C e_m_rights rfl h.1 s_m_rights dM_give_107 ?_
    have h := h.2 _ rfl
    refine mj_aload_n C dM_give_108 rfl ?_
    refine mj_getR C inM_all rfl e_Model 21 (by decide) l_M_65 rfl dM_give_109 ?_
    refine mj_bipush (a := 8) C dM_give_112 (by decide) ?_
    refine mj_iload_n C dM_give_114 rfl ?_
    refine mj_imul C dM_give_115 ?_
    refine mj_iload_n C dM_give_116 rfl ?_
    refine mj_iadd C dM_give_117 ?_
    refine mj_iconst (a := (-1)) C dM_give_118 (by decide) ?_
    refine mj_iast (t0 := 0) C e_m_parents rfl h.1 s_m_parents dM_give_119 ?_
    have h := h.2 _ rfl
    refine mj_iconst (a := 1) C dM_give_120 (by decide) ?_
    exact mj_zret C Z (Or.inr rfl) dM_give_121 ⟨_, _, rfl, rfl, h⟩
  · have h := h.2 c12
    refine mj_iconst (a := 0) C dM_give_68 (by decide) ?_
    exact mj_zret C Z (Or.inl rfl) dM_give_69 ⟨_, _, rfl, rfl, h⟩
def wM_give (p0 : Int32) (p1 : Int32) (p2 : Int32) (p3 : Int32) (p4 : Int32) (k : mj_St) (Q : Int32 → mj_St → Prop) : Prop := wM_isThere p0 k (fun a1 => (((a1 = 0) → Q 0 k) ∧ ((¬ a1 = 0) → wM_isEight p1 (fun a3 => (((a3 = 0) → Q 0 k) ∧ ((¬ a3 = 0) → vp_in ((8 * p0) + p1) 48 ∧ (((¬ (k 16 ((8 * p0) + p1).toNatClampNeg) = 0) → Q 0 k) ∧ (((k 16 ((8 * p0) + p1).toNatClampNeg) = 0) → ((p2 < 1) → Q 0 k) ∧ ((¬ p2 < 1) → ((2 < p2) → Q 0 k) ∧ ((¬ 2 < p2) → ((p3 < 0) → Q 0 k) ∧ ((¬ p3 < 0) → ((3 < p3) → Q 0 k) ∧ ((¬ 3 < p3) → ((¬ p2 = 2) → wM_give_60 p0 p1 p2 p3 p4 k Q) ∧ ((p2 = 2) → ((¬ p3 = 0) → Q 0 k) ∧ ((p3 = 0) → wM_give_60 p0 p1 p2 p3 p4 k Q))))))))))))))
set_option maxRecDepth 100000 in
set_option maxHeartbeats 4000000 in
theorem qM_give {E : mj_E} (hok : mj_Ok (mk_v E)) {p0 : Int32} {p1 : Int32} {p2 : Int32} {p3 : Int32} {p4 : Int32} {k mm : mj_St} {Q : Int32 → mj_St → Prop} (h : wM_give p0 p1 p2 p3 p4 k Q) : mj_Ct (mk_v E) yM_give (Cond.code yM_give cM_give 6 (some .boolean) :: mj_all) { frames := 2, cells := 0, slots := 0, locals := 41 } [.ref 34, .int p0, .int p1, .int p2, .int p3, .int p4] (mm, k) (mj_iM mm Q) := by
  refine mj_enterA (L := [(0, .ref 34), (1, .int p0), (2, .int p1), (3, .int p2), (4, .int p3), (5, .int p4)]) hok (by decide +kernel) ⟨rfl, rfl⟩ (fun _ => Nat.le_of_ble_eq_true rfl) rfl (fun r C Z => ?_)
  unfold wM_give at h
  refine mj_aload_n C dM_give_0 rfl ?_
  refine mj_iload_n C dM_give_1 rfl ?_
  refine mj_callV_iR C (qM_isThere hok h) (g_M_isThere l_M_104) rfl e_Model z_M_isThere ⟨Nat.le_of_ble_eq_true rfl, Nat.le_of_ble_eq_true rfl, rfl, rfl⟩ rfl rfl (Nat.le_of_ble_eq_true rfl) dM_give_2 (fun a1 h => ?_)
  refine mj_if_eq (tgt := 68) C dM_give_5 (by decide) (fun c2 => ?_) (fun c2 => ?_)
  · have h := h.1 c2
    refine mj_iconst (a := 0) C dM_give_68 (by decide) ?_
    exact mj_zret C Z (Or.inl rfl) dM_give_69 ⟨_, _, rfl, rfl, h⟩
  · have h := h.2 c2
    refine mj_iload_n C dM_give_8 rfl ?_
    refine mj_callS_iR C (qM_isEight hok h) (g_M_isEight l_M_107) z_M_isEight ⟨Nat.le_of_ble_eq_true rfl, Nat.le_of_ble_eq_true rfl, rfl, rfl⟩ rfl rfl (Nat.le_of_ble_eq_true rfl) dM_give_9 (fun a3 h => ?_)
    refine mj_if_eq (tgt := 68) C dM_give_12 (by decide) (fun c4 => ?_) (fun c4 => ?_)
    · have h := h.1 c4
      refine mj_iconst (a := 0) C dM_give_68 (by decide) ?_
      exact mj_zret C Z (Or.inl rfl) dM_give_69 ⟨_, _, rfl, rfl, h⟩
    · have h := h.2 c4
      refine mj_aload_n C dM_give_15 rfl ?_
      refine mj_getR C inM_all rfl e_Model 18 (by decide) l_M_56 rfl dM_give_16 ?_
      refine mj_bipush (a := 8) C dM_give_19 (by decide) ?_
      refine mj_iload_n C dM_give_21 rfl ?_
      refine mj_imul C dM_give_22 ?_
      refine mj_iload_n C dM_give_23 rfl ?_
      refine mj_iadd C dM_give_24 ?_
      refine mj_iald (t0 := 0) C e_m_kinds rfl h.1 dM_give_25 ?_
      have h := h.2
      refine mj_if_ne (tgt := 68) C dM_give_26 (by decide) (fun c5 => ?_) (fun c5 => ?_)
      · have h := h.1 c5
        refine mj_iconst (a := 0) C dM_give_68 (by decide) ?_
        exact mj_zret C Z (Or.inl rfl) dM_give_69 ⟨_, _, rfl, rfl, h⟩
      · have h := h.2 c5
        refine mj_iload_n C dM_give_29 rfl ?_
        refine mj_iconst (a := 1) C dM_give_30 (by decide) ?_
        refine mj_icmp_lt (tgt := 68) C dM_give_31 (by decide) (fun c6 => ?_) (fun c6 => ?_)
        · have h := h.1 c6
          refine mj_iconst (a := 0) C dM_give_68 (by decide) ?_
          exact mj_zret C Z (Or.inl rfl) dM_give_69 ⟨_, _, rfl, rfl, h⟩
        · have h := h.2 c6
          refine mj_iload_n C dM_give_34 rfl ?_
          refine mj_iconst (a := 2) C dM_give_35 (by decide) ?_
          refine mj_icmp_gt (tgt := 68) C dM_give_36 (by decide) (fun c7 => ?_) (fun c7 => ?_)
          · have h := h.1 c7
            refine mj_iconst (a := 0) C dM_give_68 (by decide) ?_
            exact mj_zret C Z (Or.inl rfl) dM_give_69 ⟨_, _, rfl, rfl, h⟩
          · have h := h.2 c7
            refine mj_iload C dM_give_39 rfl ?_
            refine mj_if_lt (tgt := 68) C dM_give_41 (by decide) (fun c8 => ?_) (fun c8 => ?_)
            · have h := h.1 c8
              refine mj_iconst (a := 0) C dM_give_68 (by decide) ?_
              exact mj_zret C Z (Or.inl rfl) dM_give_69 ⟨_, _, rfl, rfl, h⟩
            · have h := h.2 c8
              refine mj_iload C dM_give_44 rfl ?_
              refine mj_iconst (a := 3) C dM_give_46 (by decide) ?_
              refine mj_icmp_gt (tgt := 68) C dM_give_47 (by decide) (fun c9 => ?_) (fun c9 => ?_)
              · have h := h.1 c9
                refine mj_iconst (a := 0) C dM_give_68 (by decide) ?_
                exact mj_zret C Z (Or.inl rfl) dM_give_69 ⟨_, _, rfl, rfl, h⟩
              · have h := h.2 c9
                refine mj_iload_n C dM_give_50 rfl ?_
                refine mj_iconst (a := 2) C dM_give_51 (by decide) ?_
                refine mj_icmp_ne (tgt := 60) C dM_give_52 (by decide) (fun c10 => ?_) (fun c10 => ?_)
                · have h := h.1 c10
                  exact mj_sub2 (uM_give_60 hok C Z  h) ⟨rfl, rfl, rfl, rfl, rfl, rfl, trivial⟩
                · have h := h.2 c10
                  refine mj_iload C dM_give_55 rfl ?_
                  refine mj_if_ne (tgt := 68) C dM_give_57 (by decide) (fun c17 => ?_) (fun c17 => ?_)
                  · have h := h.1 c17
                    refine mj_iconst (a := 0) C dM_give_68 (by decide) ?_
                    exact mj_zret C Z (Or.inl rfl) dM_give_69 ⟨_, _, rfl, rfl, h⟩
                  · have h := h.2 c17
                    exact mj_sub2 (uM_give_60 hok C Z  h) ⟨rfl, rfl, rfl, rfl, rfl, rfl, trivial⟩
/-! GrantKernelModel.remove -/
def wM_remove_47 (x1 : Int32) (x2 : Int32) (y0 : Int32) (y1 : Int32)  (k : mj_St) (Q : mj_St → Prop) (K2 : Int32 → Int32 → mj_St → Prop) : Prop := vp_in y1 48 ∧ (∀ k5 : mj_St, k5 = mj_up k 19 y1.toNatClampNeg y0 → (∀ a6 : Int32, a6 = x2 + 1 → (K2 x1 a6 k5)))
set_option maxRecDepth 100000 in
set_option maxHeartbeats 4000000 in
theorem uM_remove_47 {E : mj_E} {r : mj_R} {mm : mj_St} {Q : mj_St → Prop} (hok : mj_Ok (mk_v E)) (C : mj_Cx (mk_v E) r cM_remove 3 RM mj_all { frames := 0, cells := 0, slots := 0, locals := 0 }) (Z : mj_Cr (mk_v E) r none (mj_vM mm Q)) {x1 : Int32} {x2 : Int32} {y0 : Int32} {y1 : Int32} {k : mj_St} {K2 : Int32 → Int32 → mj_St → Prop} (hK2 : ∀ (x1 : Int32) (x2 : Int32) (k : mj_St), K2 x1 x2 k → mj_G (mk_v E) r 2 [(0, .ref 34), (1, .int x1), (2, .int x2)] [] (mm, k)) (h : wM_remove_47 x1 x2 y0 y1 k Q K2) : mj_G (mk_v E) r 47 [(0, .ref 34), (1, .int x1), (2, .int x2)] [.int y0, .int y1, .ref 53] (mm, k) := by
  unfold wM_remove_47 at h
  refine mj_iast (t0 := 0) C e_m_parents rfl h.1 s_m_parents dM_remove_47 ?_
  have h := h.2 _ rfl
  refine mj_iinc (b := 1) C dM_remove_48 rfl (by decide) (by decide) rfl ?_
  have h := h _ rfl
  refine mj_goto (tgt := 2) C dM_remove_51 (by decide) ?_
  exact mj_sub2 (hK2 _ _ _ h) ⟨rfl, rfl, rfl, trivial⟩
def wM_remove_41 (x1 : Int32) (x2 : Int32) (y0 : Int32)  (k : mj_St) (Q : mj_St → Prop) (K2 : Int32 → Int32 → mj_St → Prop) : Prop := vp_in x2 48 ∧ (wM_remove_47 x1 x2 (k 19 x2.toNatClampNeg) y0 k Q K2)
set_option maxRecDepth 100000 in
set_option maxHeartbeats 4000000 in
theorem uM_remove_41 {E : mj_E} {r : mj_R} {mm : mj_St} {Q : mj_St → Prop} (hok : mj_Ok (mk_v E)) (C : mj_Cx (mk_v E) r cM_remove 3 RM mj_all { frames := 0, cells := 0, slots := 0, locals := 0 }) (Z : mj_Cr (mk_v E) r none (mj_vM mm Q)) {x1 : Int32} {x2 : Int32} {y0 : Int32} {k : mj_St} {K2 : Int32 → Int32 → mj_St → Prop} (hK2 : ∀ (x1 : Int32) (x2 : Int32) (k : mj_St), K2 x1 x2 k → mj_G (mk_v E) r 2 [(0, .ref 34), (1, .int x1), (2, .int x2)] [] (mm, k)) (h : wM_remove_41 x1 x2 y0 k Q K2) : mj_G (mk_v E) r 41 [(0, .ref 34), (1, .int x1), (2, .int x2)] [.int y0, .ref 53] (mm, k) := by
  unfold wM_remove_41 at h
  refine mj_aload_n C dM_remove_41 rfl ?_
  refine mj_getR C inM_all rfl e_Model 21 (by decide) l_M_65 rfl dM_remove_42 ?_
  refine mj_iload_n C dM_remove_45 rfl ?_
  refine mj_iald (t0 := 0) C e_m_parents rfl h.1 dM_remove_46 ?_
  have h := h.2
  exact mj_sub2 (uM_remove_47 hok C Z hK2 h) ⟨rfl, rfl, rfl, trivial⟩
def wM_remove_2 (n : Nat) (x1 : Int32) (x2 : Int32)  (k : mj_St) (Q : mj_St → Prop)  : Prop := match n with
  | 0 => False
  | n + 1 => ((48 ≤ x2) → vp_in x1 48 ∧ (∀ k2 : mj_St, k2 = mj_up k 16 x1.toNatClampNeg 0 → (vp_in x1 48 ∧ (∀ k3 : mj_St, k3 = mj_up k2 19 x1.toNatClampNeg (-1) → (Q k3))))) ∧ ((¬ 48 ≤ x2) → vp_in x2 48 ∧ ((((k 16 x2.toNatClampNeg) = 0) → wM_remove_41 x1 x2 x2 k Q (fun x1_ x2_ k_ => wM_remove_2 n x1_ x2_ k_ Q)) ∧ ((¬ (k 16 x2.toNatClampNeg) = 0) → vp_in x2 48 ∧ (((¬ (k 19 x2.toNatClampNeg) = x1) → wM_remove_41 x1 x2 x2 k Q (fun x1_ x2_ k_ => wM_remove_2 n x1_ x2_ k_ Q)) ∧ (((k 19 x2.toNatClampNeg) = x1) → vp_in x1 48 ∧ (wM_remove_47 x1 x2 (k 19 x1.toNatClampNeg) x2 k Q (fun x1_ x2_ k_ => wM_remove_2 n x1_ x2_ k_ Q)))))))
set_option maxRecDepth 100000 in
set_option maxHeartbeats 4000000 in
theorem uM_remove_2 {E : mj_E} {r : mj_R} {mm : mj_St} {Q : mj_St → Prop} (hok : mj_Ok (mk_v E)) (C : mj_Cx (mk_v E) r cM_remove 3 RM mj_all { frames := 0, cells := 0, slots := 0, locals := 0 }) (Z : mj_Cr (mk_v E) r none (mj_vM mm Q))   : ∀ (n : Nat) (x1 : Int32) (x2 : Int32) (k : mj_St), wM_remove_2 n x1 x2 k Q → mj_G (mk_v E) r 2 [(0, .ref 34), (1, .int x1), (2, .int x2)] [] (mm, k) := by
  intro n
  induction n with
  | zero => intro x1 x2 k h; exact False.elim h
  | succ n ih =>
    intro x1 x2 k h
    rw [wM_remove_2] at h
    refine mj_iload_n C dM_remove_2 rfl ?_
    refine mj_bipush (a := 48) C dM_remove_3 (by decide) ?_
    refine mj_icmp_ge (tgt := 54) C dM_remove_5 (by decide) (fun c1 => ?_) (fun c1 => ?_)
    · have h := h.1 c1
      refine mj_aload_n C dM_remove_54 rfl ?_
      refine mj_getR C inM_all rfl e_Model 18 (by decide) l_M_56 rfl dM_remove_55 ?_
      refine mj_iload_n C dM_remove_58 rfl ?_
      refine mj_iconst (a := 0) C dM_remove_59 (by decide) ?_
      refine mj_iast (t0 := 0) C e_m_kinds rfl h.1 s_m_kinds dM_remove_60 ?_
      have h := h.2 _ rfl
      refine mj_aload_n C dM_remove_61 rfl ?_
      refine mj_getR C inM_all rfl e_Model 21 (by decide) l_M_65 rfl dM_remove_62 ?_
      refine mj_iload_n C dM_remove_65 rfl ?_
      refine mj_iconst (a := (-1)) C dM_remove_66 (by decide) ?_
      refine mj_iast (t0 := 0) C e_m_parents rfl h.1 s_m_parents dM_remove_67 ?_
      have h := h.2 _ rfl
      exact mj_vret C Z dM_remove_68 ⟨_, rfl, rfl, h⟩
    · have h := h.2 c1
      refine mj_aload_n C dM_remove_8 rfl ?_
      refine mj_getR C inM_all rfl e_Model 21 (by decide) l_M_65 rfl dM_remove_9 ?_
      refine mj_iload_n C dM_remove_12 rfl ?_
      refine mj_aload_n C dM_remove_13 rfl ?_
      refine mj_getR C inM_all rfl e_Model 18 (by decide) l_M_56 rfl dM_remove_14 ?_
      refine mj_iload_n C dM_remove_17 rfl ?_
      refine mj_iald (t0 := 0) C e_m_kinds rfl h.1 dM_remove_18 ?_
      have h := h.2
      refine mj_if_eq (tgt := 41) C dM_remove_19 (by decide) (fun c4 => ?_) (fun c4 => ?_)
      · have h := h.1 c4
        exact mj_sub2 (uM_remove_41 hok C Z (fun _ _ _ h => ih _ _ _ h) h) ⟨rfl, rfl, rfl, trivial⟩
      · have h := h.2 c4
        refine mj_aload_n C dM_remove_22 rfl ?_
        refine mj_getR C inM_all rfl e_Model 21 (by decide) l_M_65 rfl dM_remove_23 ?_
        refine mj_iload_n C dM_remove_26 rfl ?_
        refine mj_iald (t0 := 0) C e_m_parents rfl h.1 dM_remove_27 ?_
        have h := h.2
        refine mj_iload_n C dM_remove_28 rfl ?_
        refine mj_icmp_ne (tgt := 41) C dM_remove_29 (by decide) (fun c7 => ?_) (fun c7 => ?_)
        · have h := h.1 c7
          exact mj_sub2 (uM_remove_41 hok C Z (fun _ _ _ h => ih _ _ _ h) h) ⟨rfl, rfl, rfl, trivial⟩
        · have h := h.2 c7
          refine mj_aload_n C dM_remove_32 rfl ?_
          refine mj_getR C inM_all rfl e_Model 21 (by decide) l_M_65 rfl dM_remove_33 ?_
          refine mj_iload_n C dM_remove_36 rfl ?_
          refine mj_iald (t0 := 0) C e_m_parents rfl h.1 dM_remove_37 ?_
          have h := h.2
          refine mj_goto (tgt := 47) C dM_remove_38 (by decide) ?_
          exact mj_sub2 (uM_remove_47 hok C Z (fun _ _ _ h => ih _ _ _ h) h) ⟨rfl, rfl, rfl, trivial⟩
def wM_remove (p0 : Int32) (k : mj_St) (Q : mj_St → Prop) : Prop := (∃ e2, wM_remove_2 e2 p0 0 k Q)
set_option maxRecDepth 100000 in
set_option maxHeartbeats 4000000 in
theorem qM_remove {E : mj_E} (hok : mj_Ok (mk_v E)) {p0 : Int32} {k mm : mj_St} {Q : mj_St → Prop} (h : wM_remove p0 k Q) : mj_Ct (mk_v E) yM_remove (Cond.code yM_remove cM_remove 3 none :: mj_all) { frames := 0, cells := 0, slots := 0, locals := 0 } [.ref 34, .int p0] (mm, k) (mj_vM mm Q) := by
  refine mj_enterA (L := [(0, .ref 34), (1, .int p0)]) hok (by decide +kernel) ⟨rfl, rfl⟩ (fun _ => Nat.le_of_ble_eq_true rfl) rfl (fun r C Z => ?_)
  unfold wM_remove at h
  refine mj_iconst (a := 0) C dM_remove_0 (by decide) ?_
  refine mj_istore_n C dM_remove_1 (by decide) rfl ?_
  obtain ⟨n0, h⟩ := h
  exact mj_sub2 (uM_remove_2 hok C Z  n0 _ _ _ h) ⟨rfl, rfl, rfl, trivial⟩
/-! GrantKernelModel.reap -/
def wM_reap_62 (x1 : Int32) (x2 : Int32)  (k : mj_St) (Q : Int32 → mj_St → Prop) (K32 : Int32 → Int32 → mj_St → Prop) : Prop := ∀ a8 : Int32, a8 = x2 + 1 → (K32 x1 a8 k)
set_option maxRecDepth 100000 in
set_option maxHeartbeats 4000000 in
theorem uM_reap_62 {E : mj_E} {r : mj_R} {mm : mj_St} {Q : Int32 → mj_St → Prop} (hok : mj_Ok (mk_v E)) (C : mj_Cx (mk_v E) r cM_reap 3 RM mj_all { frames := 1, cells := 0, slots := 0, locals := 22 }) (Z : mj_Cr (mk_v E) r (some .boolean) (mj_iM mm Q)) {x1 : Int32} {x2 : Int32} {k : mj_St} {K32 : Int32 → Int32 → mj_St → Prop} (hK32 : ∀ (x1 : Int32) (x2 : Int32) (k : mj_St), K32 x1 x2 k → mj_G (mk_v E) r 32 [(0, .ref 34), (1, .int x1), (2, .int x2)] [] (mm, k)) (h : wM_reap_62 x1 x2 k Q K32) : mj_G (mk_v E) r 62 [(0, .ref 34), (1, .int x1), (2, .int x2)] [] (mm, k) := by
  unfold wM_reap_62 at h
  refine mj_iinc (b := 1) C dM_reap_62 rfl (by decide) (by decide) rfl ?_
  have h := h _ rfl
  refine mj_goto (tgt := 32) C dM_reap_65 (by decide) ?_
  exact mj_sub2 (hK32 _ _ _ h) ⟨rfl, rfl, rfl, trivial⟩
def wM_reap_32 (n : Nat) (x1 : Int32) (x2 : Int32)  (k : mj_St) (Q : Int32 → mj_St → Prop)  : Prop := match n with
  | 0 => False
  | n + 1 => ((8 ≤ x2) → vp_in x1 6 ∧ (∀ k5 : mj_St, k5 = mj_up k 2 x1.toNatClampNeg 0 → (vp_in x1 6 ∧ (∀ k6 : mj_St, k6 = mj_up k5 7 x1.toNatClampNeg (-1) → (Q 1 k6))))) ∧ ((¬ 8 ≤ x2) → vp_in ((8 * x1) + x2) 48 ∧ ((((k 16 ((8 * x1) + x2).toNatClampNeg) = 0) → wM_reap_62 x1 x2 k Q (fun x1_ x2_ k_ => wM_reap_32 n x1_ x2_ k_ Q)) ∧ ((¬ (k 16 ((8 * x1) + x2).toNatClampNeg) = 0) → wM_remove ((8 * x1) + x2) k (fun k9 => (wM_reap_62 x1 x2 k9 Q (fun x1_ x2_ k_ => wM_reap_32 n x1_ x2_ k_ Q))))))
set_option maxRecDepth 100000 in
set_option maxHeartbeats 4000000 in
theorem uM_reap_32 {E : mj_E} {r : mj_R} {mm : mj_St} {Q : Int32 → mj_St → Prop} (hok : mj_Ok (mk_v E)) (C : mj_Cx (mk_v E) r cM_reap 3 RM mj_all { frames := 1, cells := 0, slots := 0, locals := 22 }) (Z : mj_Cr (mk_v E) r (some .boolean) (mj_iM mm Q))   : ∀ (n : Nat) (x1 : Int32) (x2 : Int32) (k : mj_St), wM_reap_32 n x1 x2 k Q → mj_G (mk_v E) r 32 [(0, .ref 34), (1, .int x1), (2, .int x2)] [] (mm, k) := by
  intro n
  induction n with
  | zero => intro x1 x2 k h; exact False.elim h
  | succ n ih =>
    intro x1 x2 k h
    rw [wM_reap_32] at h
    refine mj_iload_n C dM_reap_32 rfl ?_
    refine mj_bipush (a := 8) C dM_reap_33 (by decide) ?_
    refine mj_icmp_ge (tgt := 68) C dM_reap_35 (by decide) (fun c4 => ?_) (fun c4 => ?_)
    · have h := h.1 c4
      refine mj_aload_n C dM_reap_68 rfl ?_
      refine mj_getR C inM_all rfl e_Model 2 (by decide) l_M_13 rfl dM_reap_69 ?_
      refine mj_iload_n C dM_reap_72 rfl ?_
      refine mj_iconst (a := 0) C dM_reap_73 (by decide) ?_
      refine mj_iast (t0 := 0) C e_m_states rfl h.1 s_m_states dM_reap_74 ?_
      have h := h.2 _ rfl
      refine mj_aload_n C dM_reap_75 rfl ?_
      refine mj_getR C inM_all rfl e_Model 7 (by decide) l_M_28 rfl dM_reap_76 ?_
      refine mj_iload_n C dM_reap_79 rfl ?_
      refine mj_iconst (a := (-1)) C dM_reap_80 (by decide) ?_
      refine mj_iast (t0 := 0) C e_m_callers rfl h.1 s_m_callers dM_reap_81 ?_
      have h := h.2 _ rfl
      refine mj_iconst (a := 1) C dM_reap_82 (by decide) ?_
      exact mj_zret C Z (Or.inr rfl) dM_reap_83 ⟨_, _, rfl, rfl, h⟩
    · have h := h.2 c4
      refine mj_aload_n C dM_reap_38 rfl ?_
      refine mj_getR C inM_all rfl e_Model 18 (by decide) l_M_56 rfl dM_reap_39 ?_
      refine mj_bipush (a := 8) C dM_reap_42 (by decide) ?_
      refine mj_iload_n C dM_reap_44 rfl ?_
      refine mj_imul C dM_reap_45 ?_
      refine mj_iload_n C dM_reap_46 rfl ?_
      refine mj_iadd C dM_reap_47 ?_
      refine mj_iald (t0 := 0) C e_m_kinds rfl h.1 dM_reap_48 ?_
      have h := h.2
      refine mj_if_eq (tgt := 62) C dM_reap_49 (by decide) (fun c7 => ?_) (fun c7 => ?_)
      · have h := h.1 c7
        exact mj_sub2 (uM_reap_62 hok C Z (fun _ _ _ h => ih _ _ _ h) h) ⟨rfl, rfl, rfl, trivial⟩
      · have h := h.2 c7
        refine mj_aload_n C dM_reap_52 rfl ?_
        refine mj_bipush (a := 8) C dM_reap_53 (by decide) ?_
        refine mj_iload_n C dM_reap_55 rfl ?_
        refine mj_imul C dM_reap_56 ?_
        refine mj_iload_n C dM_reap_57 rfl ?_
        refine mj_iadd C dM_reap_58 ?_
        refine mj_callV_vWM C (qM_remove hok h) (g_M_remove l_M_110) rfl e_Model z_M_remove ⟨Nat.le_of_ble_eq_true rfl, Nat.le_of_ble_eq_true rfl, rfl, rfl⟩ rfl rfl (Nat.le_of_ble_eq_true rfl) dM_reap_59 (fun k9 h => ?_)
        exact mj_sub2 (uM_reap_62 hok C Z (fun _ _ _ h => ih _ _ _ h) h) ⟨rfl, rfl, rfl, trivial⟩
def wM_reap_30 (x1 : Int32)  (k : mj_St) (Q : Int32 → mj_St → Prop)  : Prop := (∃ e32, wM_reap_32 e32 x1 0 k Q)
set_option maxRecDepth 100000 in
set_option maxHeartbeats 4000000 in
theorem uM_reap_30 {E : mj_E} {r : mj_R} {mm : mj_St} {Q : Int32 → mj_St → Prop} (hok : mj_Ok (mk_v E)) (C : mj_Cx (mk_v E) r cM_reap 3 RM mj_all { frames := 1, cells := 0, slots := 0, locals := 22 }) (Z : mj_Cr (mk_v E) r (some .boolean) (mj_iM mm Q)) {x1 : Int32} {k : mj_St}   (h : wM_reap_30 x1 k Q) : mj_G (mk_v E) r 30 [(0, .ref 34), (1, .int x1)] [] (mm, k) := by
  unfold wM_reap_30 at h
  refine mj_iconst (a := 0) C dM_reap_30 (by decide) ?_
  refine mj_istore_n C dM_reap_31 (by decide) rfl ?_
  obtain ⟨n0, h⟩ := h
  exact mj_sub2 (uM_reap_32 hok C Z  n0 _ _ _ h) ⟨rfl, rfl, rfl, trivial⟩
def wM_reap (p0 : Int32) (k : mj_St) (Q : Int32 → mj_St → Prop) : Prop := wM_isThread p0 (fun a1 => (((a1 = 0) → Q 0 k) ∧ ((¬ a1 = 0) → vp_in p0 6 ∧ ((((k 2 p0.toNatClampNeg) = 5) → wM_reap_30 p0 k Q) ∧ ((¬ (k 2 p0.toNatClampNeg) = 5) → vp_in p0 6 ∧ ((((k 2 p0.toNatClampNeg) = 6) → wM_reap_30 p0 k Q) ∧ ((¬ (k 2 p0.toNatClampNeg) = 6) → Q 0 k)))))))
set_option maxRecDepth 100000 in
set_option maxHeartbeats 4000000 in
theorem qM_reap {E : mj_E} (hok : mj_Ok (mk_v E)) {p0 : Int32} {k mm : mj_St} {Q : Int32 → mj_St → Prop} (h : wM_reap p0 k Q) : mj_Ct (mk_v E) yM_reap (Cond.code yM_reap cM_reap 3 (some .boolean) :: mj_all) { frames := 1, cells := 0, slots := 0, locals := 22 } [.ref 34, .int p0] (mm, k) (mj_iM mm Q) := by
  refine mj_enterA (L := [(0, .ref 34), (1, .int p0)]) hok (by decide +kernel) ⟨rfl, rfl⟩ (fun _ => Nat.le_of_ble_eq_true rfl) rfl (fun r C Z => ?_)
  unfold wM_reap at h
  refine mj_iload_n C dM_reap_0 rfl ?_
  refine mj_callS_iR C (qM_isThread hok h) (g_M_isThread l_M_75) z_M_isThread ⟨Nat.le_of_ble_eq_true rfl, Nat.le_of_ble_eq_true rfl, rfl, rfl⟩ rfl rfl (Nat.le_of_ble_eq_true rfl) dM_reap_1 (fun a1 h => ?_)
  refine mj_if_eq (tgt := 28) C dM_reap_4 (by decide) (fun c2 => ?_) (fun c2 => ?_)
  · have h := h.1 c2
    refine mj_iconst (a := 0) C dM_reap_28 (by decide) ?_
    exact mj_zret C Z (Or.inl rfl) dM_reap_29 ⟨_, _, rfl, rfl, h⟩
  · have h := h.2 c2
    refine mj_aload_n C dM_reap_7 rfl ?_
    refine mj_getR C inM_all rfl e_Model 2 (by decide) l_M_13 rfl dM_reap_8 ?_
    refine mj_iload_n C dM_reap_11 rfl ?_
    refine mj_iald (t0 := 0) C e_m_states rfl h.1 dM_reap_12 ?_
    have h := h.2
    refine mj_iconst (a := 5) C dM_reap_13 (by decide) ?_
    refine mj_icmp_eq (tgt := 30) C dM_reap_14 (by decide) (fun c3 => ?_) (fun c3 => ?_)
    · have h := h.1 c3
      exact mj_sub2 (uM_reap_30 hok C Z  h) ⟨rfl, rfl, trivial⟩
    · have h := h.2 c3
      refine mj_aload_n C dM_reap_17 rfl ?_
      refine mj_getR C inM_all rfl e_Model 2 (by decide) l_M_13 rfl dM_reap_18 ?_
      refine mj_iload_n C dM_reap_21 rfl ?_
      refine mj_iald (t0 := 0) C e_m_states rfl h.1 dM_reap_22 ?_
      have h := h.2
      refine mj_bipush (a := 6) C dM_reap_23 (by decide) ?_
      refine mj_icmp_eq (tgt := 30) C dM_reap_25 (by decide) (fun c10 => ?_) (fun c10 => ?_)
      · have h := h.1 c10
        exact mj_sub2 (uM_reap_30 hok C Z  h) ⟨rfl, rfl, trivial⟩
      · have h := h.2 c10
        refine mj_iconst (a := 0) C dM_reap_28 (by decide) ?_
        exact mj_zret C Z (Or.inl rfl) dM_reap_29 ⟨_, _, rfl, rfl, h⟩
/-! GrantKernelModel.isIn -/
def wM_isIn_42 (x1 : Int32) (x2 : Int32) (k : mj_St)  (Q : Int32 → Prop)  : Prop := vp_in x2 6 ∧ (((¬ (k 10 x2.toNatClampNeg) = x1) → Q 0) ∧ (((k 10 x2.toNatClampNeg) = x1) → Q 1))
set_option maxRecDepth 100000 in
set_option maxHeartbeats 4000000 in
theorem uM_isIn_42 {E : mj_E} {r : mj_R} {mm : mj_St} {k : mj_St} {Q : Int32 → Prop} (hok : mj_Ok (mk_v E)) (C : mj_Cx (mk_v E) r cM_isIn 3 RM mj_all { frames := 0, cells := 0, slots := 0, locals := 0 }) (Z : mj_Cr (mk_v E) r (some .boolean) (mj_iR (mm, k) Q)) {x1 : Int32} {x2 : Int32}    (h : wM_isIn_42 x1 x2 k Q) : mj_G (mk_v E) r 42 [(0, .ref 34), (1, .int x1), (2, .int x2)] [] (mm, k) := by
  unfold wM_isIn_42 at h
  refine mj_aload_n C dM_isIn_42 rfl ?_
  refine mj_getR C inM_all rfl e_Model 10 (by decide) l_M_37 rfl dM_isIn_43 ?_
  refine mj_iload_n C dM_isIn_46 rfl ?_
  refine mj_iald (t0 := 0) C e_m_places rfl h.1 dM_isIn_47 ?_
  have h := h.2
  refine mj_iload_n C dM_isIn_48 rfl ?_
  refine mj_icmp_ne (tgt := 56) C dM_isIn_49 (by decide) (fun c3 => ?_) (fun c3 => ?_)
  · have h := h.1 c3
    refine mj_iconst (a := 0) C dM_isIn_56 (by decide) ?_
    exact mj_zret C Z (Or.inl rfl) dM_isIn_57 ⟨_, rfl, rfl, h⟩
  · have h := h.2 c3
    refine mj_iconst (a := 1) C dM_isIn_52 (by decide) ?_
    refine mj_goto (tgt := 57) C dM_isIn_53 (by decide) ?_
    exact mj_zret C Z (Or.inr rfl) dM_isIn_57 ⟨_, rfl, rfl, h⟩
def wM_isIn (p0 : Int32) (p1 : Int32) (k : mj_St) (Q : Int32 → Prop) : Prop := ((0 ≤ p0) → vp_in p1 6 ∧ ((((k 2 p1.toNatClampNeg) = 2) → wM_isIn_42 p0 p1 k Q) ∧ ((¬ (k 2 p1.toNatClampNeg) = 2) → vp_in p1 6 ∧ (((¬ (k 2 p1.toNatClampNeg) = 4) → Q 0) ∧ (((k 2 p1.toNatClampNeg) = 4) → wM_isIn_42 p0 p1 k Q))))) ∧ ((¬ 0 ≤ p0) → vp_in p1 6 ∧ (((¬ (k 2 p1.toNatClampNeg) = 1) → Q 0) ∧ (((k 2 p1.toNatClampNeg) = 1) → Q 1)))
set_option maxRecDepth 100000 in
set_option maxHeartbeats 4000000 in
theorem qM_isIn {E : mj_E} (hok : mj_Ok (mk_v E)) {p0 : Int32} {p1 : Int32} {k mm : mj_St} {Q : Int32 → Prop} (h : wM_isIn p0 p1 k Q) : mj_Ct (mk_v E) yM_isIn (Cond.code yM_isIn cM_isIn 3 (some .boolean) :: mj_all) { frames := 0, cells := 0, slots := 0, locals := 0 } [.ref 34, .int p0, .int p1] (mm, k) (mj_iR (mm, k) Q) := by
  refine mj_enterA (L := [(0, .ref 34), (1, .int p0), (2, .int p1)]) hok (by decide +kernel) ⟨rfl, rfl⟩ (fun _ => Nat.le_of_ble_eq_true rfl) rfl (fun r C Z => ?_)
  unfold wM_isIn at h
  refine mj_iload_n C dM_isIn_0 rfl ?_
  refine mj_if_ge (tgt := 22) C dM_isIn_1 (by decide) (fun c1 => ?_) (fun c1 => ?_)
  · have h := h.1 c1
    refine mj_aload_n C dM_isIn_22 rfl ?_
    refine mj_getR C inM_all rfl e_Model 2 (by decide) l_M_13 rfl dM_isIn_23 ?_
    refine mj_iload_n C dM_isIn_26 rfl ?_
    refine mj_iald (t0 := 0) C e_m_states rfl h.1 dM_isIn_27 ?_
    have h := h.2
    refine mj_iconst (a := 2) C dM_isIn_28 (by decide) ?_
    refine mj_icmp_eq (tgt := 42) C dM_isIn_29 (by decide) (fun c2 => ?_) (fun c2 => ?_)
    · have h := h.1 c2
      exact mj_sub2 (uM_isIn_42 hok C Z  h) ⟨rfl, rfl, rfl, trivial⟩
    · have h := h.2 c2
      refine mj_aload_n C dM_isIn_32 rfl ?_
      refine mj_getR C inM_all rfl e_Model 2 (by decide) l_M_13 rfl dM_isIn_33 ?_
      refine mj_iload_n C dM_isIn_36 rfl ?_
      refine mj_iald (t0 := 0) C e_m_states rfl h.1 dM_isIn_37 ?_
      have h := h.2
      refine mj_iconst (a := 4) C dM_isIn_38 (by decide) ?_
      refine mj_icmp_ne (tgt := 56) C dM_isIn_39 (by decide) (fun c4 => ?_) (fun c4 => ?_)
      · have h := h.1 c4
        refine mj_iconst (a := 0) C dM_isIn_56 (by decide) ?_
        exact mj_zret C Z (Or.inl rfl) dM_isIn_57 ⟨_, rfl, rfl, h⟩
      · have h := h.2 c4
        exact mj_sub2 (uM_isIn_42 hok C Z  h) ⟨rfl, rfl, rfl, trivial⟩
  · have h := h.2 c1
    refine mj_aload_n C dM_isIn_4 rfl ?_
    refine mj_getR C inM_all rfl e_Model 2 (by decide) l_M_13 rfl dM_isIn_5 ?_
    refine mj_iload_n C dM_isIn_8 rfl ?_
    refine mj_iald (t0 := 0) C e_m_states rfl h.1 dM_isIn_9 ?_
    have h := h.2
    refine mj_iconst (a := 1) C dM_isIn_10 (by decide) ?_
    refine mj_icmp_ne (tgt := 18) C dM_isIn_11 (by decide) (fun c5 => ?_) (fun c5 => ?_)
    · have h := h.1 c5
      refine mj_iconst (a := 0) C dM_isIn_18 (by decide) ?_
      refine mj_goto (tgt := 57) C dM_isIn_19 (by decide) ?_
      exact mj_zret C Z (Or.inl rfl) dM_isIn_57 ⟨_, rfl, rfl, h⟩
    · have h := h.2 c5
      refine mj_iconst (a := 1) C dM_isIn_14 (by decide) ?_
      refine mj_goto (tgt := 57) C dM_isIn_15 (by decide) ?_
      exact mj_zret C Z (Or.inr rfl) dM_isIn_57 ⟨_, rfl, rfl, h⟩
/-! GrantKernelModel.at -/
def wM_at_91 (x1 : Int32) (x2 : Int32) (x4 : Int32) (y0 : Int32) (k : mj_St)  (Q : Int32 → Prop) (K5 : Int32 → Int32 → Int32 → Int32 → Prop) : Prop := ∀ a5 : Int32, a5 = x4 + 1 → (K5 x1 x2 y0 a5)
set_option maxRecDepth 100000 in
set_option maxHeartbeats 4000000 in
theorem uM_at_91 {E : mj_E} {r : mj_R} {mm : mj_St} {k : mj_St} {Q : Int32 → Prop} (hok : mj_Ok (mk_v E)) (C : mj_Cx (mk_v E) r cM_at 7 RM mj_all { frames := 1, cells := 0, slots := 0, locals := 22 }) (Z : mj_Cr (mk_v E) r (some .int) (mj_iR (mm, k) Q)) {x1 : Int32} {x2 : Int32} {x4 : Int32} {y0 : Int32}  {K5 : Int32 → Int32 → Int32 → Int32 → Prop} (hK5 : ∀ (x1 : Int32) (x2 : Int32) (x3 : Int32) (x4 : Int32) , K5 x1 x2 x3 x4 → mj_G (mk_v E) r 5 [(0, .ref 34), (1, .int x1), (2, .int x2), (3, .int x3), (4, .int x4)] [] (mm, k)) (h : wM_at_91 x1 x2 x4 y0 k Q K5) : mj_G (mk_v E) r 91 [(0, .ref 34), (1, .int x1), (2, .int x2), (4, .int x4)] [.int y0] (mm, k) := by
  unfold wM_at_91 at h
  refine mj_istore_n C dM_at_91 (by decide) rfl ?_
  refine mj_iinc (b := 1) C dM_at_92 rfl (by decide) (by decide) rfl ?_
  have h := h _ rfl
  refine mj_goto (tgt := 5) C dM_at_95 (by decide) ?_
  exact mj_sub2 (hK5 _ _ _ _ h) ⟨rfl, rfl, rfl, rfl, rfl, trivial⟩
def wM_at_90 (x1 : Int32) (x2 : Int32) (x3 : Int32) (x4 : Int32) (k : mj_St)  (Q : Int32 → Prop) (K5 : Int32 → Int32 → Int32 → Int32 → Prop) : Prop := wM_at_91 x1 x2 x4 x3 k Q K5
set_option maxRecDepth 100000 in
set_option maxHeartbeats 4000000 in
theorem uM_at_90 {E : mj_E} {r : mj_R} {mm : mj_St} {k : mj_St} {Q : Int32 → Prop} (hok : mj_Ok (mk_v E)) (C : mj_Cx (mk_v E) r cM_at 7 RM mj_all { frames := 1, cells := 0, slots := 0, locals := 22 }) (Z : mj_Cr (mk_v E) r (some .int) (mj_iR (mm, k) Q)) {x1 : Int32} {x2 : Int32} {x3 : Int32} {x4 : Int32}  {K5 : Int32 → Int32 → Int32 → Int32 → Prop} (hK5 : ∀ (x1 : Int32) (x2 : Int32) (x3 : Int32) (x4 : Int32) , K5 x1 x2 x3 x4 → mj_G (mk_v E) r 5 [(0, .ref 34), (1, .int x1), (2, .int x2), (3, .int x3), (4, .int x4)] [] (mm, k)) (h : wM_at_90 x1 x2 x3 x4 k Q K5) : mj_G (mk_v E) r 90 [(0, .ref 34), (1, .int x1), (2, .int x2), (3, .int x3), (4, .int x4)] [] (mm, k) := by
  unfold wM_at_90 at h
  refine mj_iload_n C dM_at_90 rfl ?_
  exact mj_sub2 (uM_at_91 hok C Z hK5 h) ⟨rfl, rfl, rfl, rfl, trivial⟩
def wM_at_61 (x1 : Int32) (x2 : Int32) (x3 : Int32) (x4 : Int32) (x6 : Int32) (y0 : Int32) (k : mj_St)  (Q : Int32 → Prop) (K5 : Int32 → Int32 → Int32 → Int32 → Prop) (K18 : Int32 → Int32 → Int32 → Int32 → Int32 → Int32 → Prop) : Prop := ∀ a9 : Int32, a9 = x6 + 1 → (K18 x1 x2 x3 x4 y0 a9)
set_option maxRecDepth 100000 in
set_option maxHeartbeats 4000000 in
theorem uM_at_61 {E : mj_E} {r : mj_R} {mm : mj_St} {k : mj_St} {Q : Int32 → Prop} (hok : mj_Ok (mk_v E)) (C : mj_Cx (mk_v E) r cM_at 7 RM mj_all { frames := 1, cells := 0, slots := 0, locals := 22 }) (Z : mj_Cr (mk_v E) r (some .int) (mj_iR (mm, k) Q)) {x1 : Int32} {x2 : Int32} {x3 : Int32} {x4 : Int32} {x6 : Int32} {y0 : Int32}  {K5 : Int32 → Int32 → Int32 → Int32 → Prop} {K18 : Int32 → Int32 → Int32 → Int32 → Int32 → Int32 → Prop} (hK5 : ∀ (x1 : Int32) (x2 : Int32) (x3 : Int32) (x4 : Int32) , K5 x1 x2 x3 x4 → mj_G (mk_v E) r 5 [(0, .ref 34), (1, .int x1), (2, .int x2), (3, .int x3), (4, .int x4)] [] (mm, k)) (hK18 : ∀ (x1 : Int32) (x2 : Int32) (x3 : Int32) (x4 : Int32) (x5 : Int32) (x6 : Int32) , K18 x1 x2 x3 x4 x5 x6 → mj_G (mk_v E) r 18 [(0, .ref 34), (1, .int x1), (2, .int x2), (3, .int x3), (4, .int x4), (5, .int x5), (6, .int x6)] [] (mm, k)) (h : wM_at_61 x1 x2 x3 x4 x6 y0 k Q K5 K18) : mj_G (mk_v E) r 61 [(0, .ref 34), (1, .int x1), (2, .int x2), (3, .int x3), (4, .int x4), (6, .int x6)] [.int y0] (mm, k) := by
  unfold wM_at_61 at h
  refine mj_istore C dM_at_61 (by decide) rfl ?_
  refine mj_iinc (b := 1) C dM_at_63 rfl (by decide) (by decide) rfl ?_
  have h := h _ rfl
  refine mj_goto (tgt := 18) C dM_at_66 (by decide) ?_
  exact mj_sub2 (hK18 _ _ _ _ _ _ h) ⟨rfl, rfl, rfl, rfl, rfl, rfl, rfl, trivial⟩
def wM_at_59 (x1 : Int32) (x2 : Int32) (x3 : Int32) (x4 : Int32) (x5 : Int32) (x6 : Int32) (k : mj_St)  (Q : Int32 → Prop) (K5 : Int32 → Int32 → Int32 → Int32 → Prop) (K18 : Int32 → Int32 → Int32 → Int32 → Int32 → Int32 → Prop) : Prop := wM_at_61 x1 x2 x3 x4 x6 x5 k Q K5 K18
set_option maxRecDepth 100000 in
set_option maxHeartbeats 4000000 in
theorem uM_at_59 {E : mj_E} {r : mj_R} {mm : mj_St} {k : mj_St} {Q : Int32 → Prop} (hok : mj_Ok (mk_v E)) (C : mj_Cx (mk_v E) r cM_at 7 RM mj_all { frames := 1, cells := 0, slots := 0, locals := 22 }) (Z : mj_Cr (mk_v E) r (some .int) (mj_iR (mm, k) Q)) {x1 : Int32} {x2 : Int32} {x3 : Int32} {x4 : Int32} {x5 : Int32} {x6 : Int32}  {K5 : Int32 → Int32 → Int32 → Int32 → Prop} {K18 : Int32 → Int32 → Int32 → Int32 → Int32 → Int32 → Prop} (hK5 : ∀ (x1 : Int32) (x2 : Int32) (x3 : Int32) (x4 : Int32) , K5 x1 x2 x3 x4 → mj_G (mk_v E) r 5 [(0, .ref 34), (1, .int x1), (2, .int x2), (3, .int x3), (4, .int x4)] [] (mm, k)) (hK18 : ∀ (x1 : Int32) (x2 : Int32) (x3 : Int32) (x4 : Int32) (x5 : Int32) (x6 : Int32) , K18 x1 x2 x3 x4 x5 x6 → mj_G (mk_v E) r 18 [(0, .ref 34), (1, .int x1), (2, .int x2), (3, .int x3), (4, .int x4), (5, .int x5), (6, .int x6)] [] (mm, k)) (h : wM_at_59 x1 x2 x3 x4 x5 x6 k Q K5 K18) : mj_G (mk_v E) r 59 [(0, .ref 34), (1, .int x1), (2, .int x2), (3, .int x3), (4, .int x4), (5, .int x5), (6, .int x6)] [] (mm, k) := by
  unfold wM_at_59 at h
  refine mj_iload C dM_at_59 rfl ?_
  exact mj_sub2 (uM_at_61 hok C Z hK5 hK18 h) ⟨rfl, rfl, rfl, rfl, rfl, rfl, trivial⟩
def wM_at_18 (n : Nat) (x1 : Int32) (x2 : Int32) (x3 : Int32) (x4 : Int32) (x5 : Int32) (x6 : Int32) (k : mj_St)  (Q : Int32 → Prop) (K5 : Int32 → Int32 → Int32 → Int32 → Prop) : Prop := match n with
  | 0 => False
  | n + 1 => ((6 ≤ x6) → wM_isIn x1 x4 k (fun a3 => (((a3 = 0) → wM_at_90 x1 x2 x3 x4 k Q K5) ∧ ((¬ a3 = 0) → ((¬ x5 = x2) → wM_at_90 x1 x2 x3 x4 k Q K5) ∧ ((x5 = x2) → wM_at_91 x1 x2 x4 x4 k Q K5))))) ∧ ((¬ 6 ≤ x6) → wM_isIn x1 x6 k (fun a7 => (((a7 = 0) → wM_at_59 x1 x2 x3 x4 x5 x6 k Q K5 (fun x1_ x2_ x3_ x4_ x5_ x6_ => wM_at_18 n x1_ x2_ x3_ x4_ x5_ x6_ k Q K5)) ∧ ((¬ a7 = 0) → vp_in x6 6 ∧ (vp_in x4 6 ∧ ((((k 9 x4.toNatClampNeg) ≤ (k 9 x6.toNatClampNeg)) → wM_at_59 x1 x2 x3 x4 x5 x6 k Q K5 (fun x1_ x2_ x3_ x4_ x5_ x6_ => wM_at_18 n x1_ x2_ x3_ x4_ x5_ x6_ k Q K5)) ∧ ((¬ (k 9 x4.toNatClampNeg) ≤ (k 9 x6.toNatClampNeg)) → wM_at_61 x1 x2 x3 x4 x6 (x5 + 1) k Q K5 (fun x1_ x2_ x3_ x4_ x5_ x6_ => wM_at_18 n x1_ x2_ x3_ x4_ x5_ x6_ k Q K5))))))))
set_option maxRecDepth 100000 in
set_option maxHeartbeats 4000000 in
theorem uM_at_18 {E : mj_E} {r : mj_R} {mm : mj_St} {k : mj_St} {Q : Int32 → Prop} (hok : mj_Ok (mk_v E)) (C : mj_Cx (mk_v E) r cM_at 7 RM mj_all { frames := 1, cells := 0, slots := 0, locals := 22 }) (Z : mj_Cr (mk_v E) r (some .int) (mj_iR (mm, k) Q)) {K5 : Int32 → Int32 → Int32 → Int32 → Prop} (hK5 : ∀ (x1 : Int32) (x2 : Int32) (x3 : Int32) (x4 : Int32) , K5 x1 x2 x3 x4 → mj_G (mk_v E) r 5 [(0, .ref 34), (1, .int x1), (2, .int x2), (3, .int x3), (4, .int x4)] [] (mm, k)) : ∀ (n : Nat) (x1 : Int32) (x2 : Int32) (x3 : Int32) (x4 : Int32) (x5 : Int32) (x6 : Int32) , wM_at_18 n x1 x2 x3 x4 x5 x6 k Q K5 → mj_G (mk_v E) r 18 [(0, .ref 34), (1, .int x1), (2, .int x2), (3, .int x3), (4, .int x4), (5, .int x5), (6, .int x6)] [] (mm, k) := by
  intro n
  induction n with
  | zero => intro x1 x2 x3 x4 x5 x6 h; exact False.elim h
  | succ n ih =>
    intro x1 x2 x3 x4 x5 x6 h
    rw [wM_at_18] at h
    refine mj_iload C dM_at_18 rfl ?_
    refine mj_bipush (a := 6) C dM_at_20 (by decide) ?_
    refine mj_icmp_ge (tgt := 69) C dM_at_22 (by decide) (fun c2 => ?_) (fun c2 => ?_)
    · have h := h.1 c2
      refine mj_aload_n C dM_at_69 rfl ?_
      refine mj_iload_n C dM_at_70 rfl ?_
      refine mj_iload C dM_at_71 rfl ?_
      refine mj_callV_iR C (qM_isIn hok h) (g_M_isIn l_M_86) rfl e_Model z_M_isIn ⟨Nat.le_of_ble_eq_true rfl, Nat.le_of_ble_eq_true rfl, rfl, rfl⟩ rfl rfl (Nat.le_of_ble_eq_true rfl) dM_at_73 (fun a3 h => ?_)
      refine mj_if_eq (tgt := 90) C dM_at_76 (by decide) (fun c4 => ?_) (fun c4 => ?_)
      · have h := h.1 c4
        exact mj_sub2 (uM_at_90 hok C Z hK5 h) ⟨rfl, rfl, rfl, rfl, rfl, trivial⟩
      · have h := h.2 c4
        refine mj_iload C dM_at_79 rfl ?_
        refine mj_iload_n C dM_at_81 rfl ?_
        refine mj_icmp_ne (tgt := 90) C dM_at_82 (by decide) (fun c6 => ?_) (fun c6 => ?_)
        · have h := h.1 c6
          exact mj_sub2 (uM_at_90 hok C Z hK5 h) ⟨rfl, rfl, rfl, rfl, rfl, trivial⟩
        · have h := h.2 c6
          refine mj_iload C dM_at_85 rfl ?_
          refine mj_goto (tgt := 91) C dM_at_87 (by decide) ?_
          exact mj_sub2 (uM_at_91 hok C Z hK5 h) ⟨rfl, rfl, rfl, rfl, trivial⟩
    · have h := h.2 c2
      refine mj_aload_n C dM_at_25 rfl ?_
      refine mj_iload_n C dM_at_26 rfl ?_
      refine mj_iload C dM_at_27 rfl ?_
      refine mj_callV_iR C (qM_isIn hok h) (g_M_isIn l_M_86) rfl e_Model z_M_isIn ⟨Nat.le_of_ble_eq_true rfl, Nat.le_of_ble_eq_true rfl, rfl, rfl⟩ rfl rfl (Nat.le_of_ble_eq_true rfl) dM_at_29 (fun a7 h => ?_)
      refine mj_if_eq (tgt := 59) C dM_at_32 (by decide) (fun c8 => ?_) (fun c8 => ?_)
      · have h := h.1 c8
        exact mj_sub2 (uM_at_59 hok C Z hK5 (fun _ _ _ _ _ _ h => ih _ _ _ _ _ _ h) h) ⟨rfl, rfl, rfl, rfl, rfl, rfl, rfl, trivial⟩
      · have h := h.2 c8
        refine mj_aload_n C dM_at_35 rfl ?_
        refine mj_getR C inM_all rfl e_Model 9 (by decide) l_M_34 rfl dM_at_36 ?_
        refine mj_iload C dM_at_39 rfl ?_
        refine mj_iald (t0 := 0) C e_m_tickets rfl h.1 dM_at_41 ?_
        have h := h.2
        refine mj_aload_n C dM_at_42 rfl ?_
        refine mj_getR C inM_all rfl e_Model 9 (by decide) l_M_34 rfl dM_at_43 ?_
        refine mj_iload C dM_at_46 rfl ?_
        refine mj_iald (t0 := 0) C e_m_tickets rfl h.1 dM_at_48 ?_
        have h := h.2
        refine mj_icmp_ge (tgt := 59) C dM_at_49 (by decide) (fun c10 => ?_) (fun c10 => ?_)
        · have h := h.1 c10
          exact mj_sub2 (uM_at_59 hok C Z hK5 (fun _ _ _ _ _ _ h => ih _ _ _ _ _ _ h) h) ⟨rfl, rfl, rfl, rfl, rfl, rfl, rfl, trivial⟩
        · have h := h.2 c10
          refine mj_iload C dM_at_52 rfl ?_
          refine mj_iconst (a := 1) C dM_at_54 (by decide) ?_
          refine mj_iadd C dM_at_55 ?_
          refine mj_goto (tgt := 61) C dM_at_56 (by decide) ?_
          exact mj_sub2 (uM_at_61 hok C Z hK5 (fun _ _ _ _ _ _ h => ih _ _ _ _ _ _ h) h) ⟨rfl, rfl, rfl, rfl, rfl, rfl, trivial⟩
def wM_at_5 (n : Nat) (x1 : Int32) (x2 : Int32) (x3 : Int32) (x4 : Int32) (k : mj_St)  (Q : Int32 → Prop)  : Prop := match n with
  | 0 => False
  | n + 1 => ((6 ≤ x4) → Q x3) ∧ ((¬ 6 ≤ x4) → (∃ e18, wM_at_18 e18 x1 x2 x3 x4 0 0 k Q (fun x1_ x2_ x3_ x4_ => wM_at_5 n x1_ x2_ x3_ x4_ k Q)))
set_option maxRecDepth 100000 in
set_option maxHeartbeats 4000000 in
theorem uM_at_5 {E : mj_E} {r : mj_R} {mm : mj_St} {k : mj_St} {Q : Int32 → Prop} (hok : mj_Ok (mk_v E)) (C : mj_Cx (mk_v E) r cM_at 7 RM mj_all { frames := 1, cells := 0, slots := 0, locals := 22 }) (Z : mj_Cr (mk_v E) r (some .int) (mj_iR (mm, k) Q))   : ∀ (n : Nat) (x1 : Int32) (x2 : Int32) (x3 : Int32) (x4 : Int32) , wM_at_5 n x1 x2 x3 x4 k Q → mj_G (mk_v E) r 5 [(0, .ref 34), (1, .int x1), (2, .int x2), (3, .int x3), (4, .int x4)] [] (mm, k) := by
  intro n
  induction n with
  | zero => intro x1 x2 x3 x4 h; exact False.elim h
  | succ n ih =>
    intro x1 x2 x3 x4 h
    rw [wM_at_5] at h
    refine mj_iload C dM_at_5 rfl ?_
    refine mj_bipush (a := 6) C dM_at_7 (by decide) ?_
    refine mj_icmp_ge (tgt := 98) C dM_at_9 (by decide) (fun c1 => ?_) (fun c1 => ?_)
    · have h := h.1 c1
      refine mj_iload_n C dM_at_98 rfl ?_
      exact mj_iret C Z dM_at_99 ⟨_, rfl, rfl, h⟩
    · have h := h.2 c1
      refine mj_iconst (a := 0) C dM_at_12 (by decide) ?_
      refine mj_istore C dM_at_13 (by decide) rfl ?_
      refine mj_iconst (a := 0) C dM_at_15 (by decide) ?_
      refine mj_istore C dM_at_16 (by decide) rfl ?_
      obtain ⟨n0, h⟩ := h
      exact mj_sub2 (uM_at_18 hok C Z (fun _ _ _ _ h => ih _ _ _ _ h) n0 _ _ _ _ _ _ h) ⟨rfl, rfl, rfl, rfl, rfl, rfl, rfl, trivial⟩
def wM_at (p0 : Int32) (p1 : Int32) (k : mj_St) (Q : Int32 → Prop) : Prop := (∃ e5, wM_at_5 e5 p0 p1 (-1) 0 k Q)
set_option maxRecDepth 100000 in
set_option maxHeartbeats 4000000 in
theorem qM_at {E : mj_E} (hok : mj_Ok (mk_v E)) {p0 : Int32} {p1 : Int32} {k mm : mj_St} {Q : Int32 → Prop} (h : wM_at p0 p1 k Q) : mj_Ct (mk_v E) yM_at (Cond.code yM_at cM_at 7 (some .int) :: mj_all) { frames := 1, cells := 0, slots := 0, locals := 22 } [.ref 34, .int p0, .int p1] (mm, k) (mj_iR (mm, k) Q) := by
  refine mj_enterA (L := [(0, .ref 34), (1, .int p0), (2, .int p1)]) hok (by decide +kernel) ⟨rfl, rfl⟩ (fun _ => Nat.le_of_ble_eq_true rfl) rfl (fun r C Z => ?_)
  unfold wM_at at h
  refine mj_iconst (a := (-1)) C dM_at_0 (by decide) ?_
  refine mj_istore_n C dM_at_1 (by decide) rfl ?_
  refine mj_iconst (a := 0) C dM_at_2 (by decide) ?_
  refine mj_istore C dM_at_3 (by decide) rfl ?_
  obtain ⟨n0, h⟩ := h
  exact mj_sub2 (uM_at_5 hok C Z  n0 _ _ _ _ h) ⟨rfl, rfl, rfl, rfl, rfl, trivial⟩
/-! GrantKernelModel.fail -/
def wM_fail (p0 : Int32) (p1 : Int32) (k : mj_St) (Q : mj_St → Prop) : Prop := vp_in p0 6 ∧ (∀ k1 : mj_St, k1 = mj_up k 2 p0.toNatClampNeg 5 → (vp_in p0 6 ∧ (∀ k2 : mj_St, k2 = mj_up k1 3 p0.toNatClampNeg p1 → (Q k2))))
set_option maxRecDepth 100000 in
set_option maxHeartbeats 4000000 in
theorem qM_fail {E : mj_E} (hok : mj_Ok (mk_v E)) {p0 : Int32} {p1 : Int32} {k mm : mj_St} {Q : mj_St → Prop} (h : wM_fail p0 p1 k Q) : mj_Ct (mk_v E) yM_fail (Cond.code yM_fail cM_fail 3 none :: mj_all) { frames := 0, cells := 0, slots := 0, locals := 0 } [.ref 34, .int p0, .int p1] (mm, k) (mj_vM mm Q) := by
  refine mj_enterA (L := [(0, .ref 34), (1, .int p0), (2, .int p1)]) hok (by decide +kernel) ⟨rfl, rfl⟩ (fun _ => Nat.le_of_ble_eq_true rfl) rfl (fun r C Z => ?_)
  unfold wM_fail at h
  refine mj_aload_n C dM_fail_0 rfl ?_
  refine mj_getR C inM_all rfl e_Model 2 (by decide) l_M_13 rfl dM_fail_1 ?_
  refine mj_iload_n C dM_fail_4 rfl ?_
  refine mj_iconst (a := 5) C dM_fail_5 (by decide) ?_
  refine mj_iast (t0 := 0) C e_m_states rfl h.1 s_m_states dM_fail_6 ?_
  have h := h.2 _ rfl
  refine mj_aload_n C dM_fail_7 rfl ?_
  refine mj_getR C inM_all rfl e_Model 3 (by decide) l_M_16 rfl dM_fail_8 ?_
  refine mj_iload_n C dM_fail_11 rfl ?_
  refine mj_iload_n C dM_fail_12 rfl ?_
  refine mj_iast (t0 := 0) C e_m_faults rfl h.1 s_m_faults dM_fail_13 ?_
  have h := h.2 _ rfl
  exact mj_vret C Z dM_fail_14 ⟨_, rfl, rfl, h⟩
/-! GrantKernelModel.lacks -/
def wM_lacks_49  (k : mj_St)  (Q : Int32 → Prop)  : Prop := Q 1
set_option maxRecDepth 100000 in
set_option maxHeartbeats 4000000 in
theorem uM_lacks_49 {E : mj_E} {r : mj_R} {mm : mj_St} {k : mj_St} {Q : Int32 → Prop} (hok : mj_Ok (mk_v E)) (C : mj_Cx (mk_v E) r cM_lacks 5 RM mj_all { frames := 0, cells := 0, slots := 0, locals := 0 }) (Z : mj_Cr (mk_v E) r (some .boolean) (mj_iR (mm, k) Q))     (h : wM_lacks_49 k Q) : mj_G (mk_v E) r 49 [] [] (mm, k) := by
  unfold wM_lacks_49 at h
  refine mj_iconst (a := 1) C dM_lacks_49 (by decide) ?_
  refine mj_goto (tgt := 54) C dM_lacks_50 (by decide) ?_
  exact mj_zret C Z (Or.inr rfl) dM_lacks_54 ⟨_, rfl, rfl, h⟩
def wM_lacks_36 (x3 : Int32) (x4 : Int32) (k : mj_St)  (Q : Int32 → Prop)  : Prop := vp_in x4 48 ∧ (((((k 18 x4.toNatClampNeg) &&& x3) = x3) → Q 0) ∧ ((¬ ((k 18 x4.toNatClampNeg) &&& x3) = x3) → wM_lacks_49 k Q))
set_option maxRecDepth 100000 in
set_option maxHeartbeats 4000000 in
theorem uM_lacks_36 {E : mj_E} {r : mj_R} {mm : mj_St} {k : mj_St} {Q : Int32 → Prop} (hok : mj_Ok (mk_v E)) (C : mj_Cx (mk_v E) r cM_lacks 5 RM mj_all { frames := 0, cells := 0, slots := 0, locals := 0 }) (Z : mj_Cr (mk_v E) r (some .boolean) (mj_iR (mm, k) Q)) {x3 : Int32} {x4 : Int32}    (h : wM_lacks_36 x3 x4 k Q) : mj_G (mk_v E) r 36 [(0, .ref 34), (3, .int x3), (4, .int x4)] [] (mm, k) := by
  unfold wM_lacks_36 at h
  refine mj_aload_n C dM_lacks_36 rfl ?_
  refine mj_getR C inM_all rfl e_Model 20 (by decide) l_M_62 rfl dM_lacks_37 ?_
  refine mj_iload C dM_lacks_40 rfl ?_
  refine mj_iald (t0 := 0) C e_m_rights rfl h.1 dM_lacks_42 ?_
  have h := h.2
  refine mj_iload_n C dM_lacks_43 rfl ?_
  refine mj_iand C dM_lacks_44 ?_
  refine mj_iload_n C dM_lacks_45 rfl ?_
  refine mj_icmp_eq (tgt := 53) C dM_lacks_46 (by decide) (fun c4 => ?_) (fun c4 => ?_)
  · have h := h.1 c4
    refine mj_iconst (a := 0) C dM_lacks_53 (by decide) ?_
    exact mj_zret C Z (Or.inl rfl) dM_lacks_54 ⟨_, rfl, rfl, h⟩
  · have h := h.2 c4
    exact mj_sub2 (uM_lacks_49 hok C Z  h) trivial
def wM_lacks (p0 : Int32) (p1 : Int32) (p2 : Int32) (k : mj_St) (Q : Int32 → Prop) : Prop := ∀ a1 : Int32, a1 = (8 * p0) + (k 0 24) → (vp_in a1 48 ∧ ((((k 16 a1.toNatClampNeg) = 0) → wM_lacks_49 k Q) ∧ ((¬ (k 16 a1.toNatClampNeg) = 0) → ((p1 ≤ 0) → wM_lacks_36 p2 a1 k Q) ∧ ((¬ p1 ≤ 0) → vp_in a1 48 ∧ (((¬ (k 16 a1.toNatClampNeg) = p1) → wM_lacks_49 k Q) ∧ (((k 16 a1.toNatClampNeg) = p1) → wM_lacks_36 p2 a1 k Q))))))
set_option maxRecDepth 100000 in
set_option maxHeartbeats 4000000 in
theorem qM_lacks {E : mj_E} (hok : mj_Ok (mk_v E)) {p0 : Int32} {p1 : Int32} {p2 : Int32} {k mm : mj_St} {Q : Int32 → Prop} (h : wM_lacks p0 p1 p2 k Q) : mj_Ct (mk_v E) yM_lacks (Cond.code yM_lacks cM_lacks 5 (some .boolean) :: mj_all) { frames := 0, cells := 0, slots := 0, locals := 0 } [.ref 34, .int p0, .int p1, .int p2] (mm, k) (mj_iR (mm, k) Q) := by
  refine mj_enterA (L := [(0, .ref 34), (1, .int p0), (2, .int p1), (3, .int p2)]) hok (by decide +kernel) ⟨rfl, rfl⟩ (fun _ => Nat.le_of_ble_eq_true rfl) rfl (fun r C Z => ?_)
  unfold wM_lacks at h
  refine mj_bipush (a := 8) C dM_lacks_0 (by decide) ?_
  refine mj_iload_n C dM_lacks_2 rfl ?_
  refine mj_imul C dM_lacks_3 ?_
  refine mj_aload_n C dM_lacks_4 rfl ?_
  refine mj_getI C inM_all rfl e_Model 24 (by decide) l_M_142 rfl dM_lacks_5 ?_
  refine mj_iadd C dM_lacks_8 ?_
  refine mj_istore C dM_lacks_9 (by decide) rfl ?_
  have h := h _ rfl
  refine mj_aload_n C dM_lacks_11 rfl ?_
  refine mj_getR C inM_all rfl e_Model 18 (by decide) l_M_56 rfl dM_lacks_12 ?_
  refine mj_iload C dM_lacks_15 rfl ?_
  refine mj_iald (t0 := 0) C e_m_kinds rfl h.1 dM_lacks_17 ?_
  have h := h.2
  refine mj_if_eq (tgt := 49) C dM_lacks_18 (by decide) (fun c2 => ?_) (fun c2 => ?_)
  · have h := h.1 c2
    exact mj_sub2 (uM_lacks_49 hok C Z  h) trivial
  · have h := h.2 c2
    refine mj_iload_n C dM_lacks_21 rfl ?_
    refine mj_if_le (tgt := 36) C dM_lacks_22 (by decide) (fun c3 => ?_) (fun c3 => ?_)
    · have h := h.1 c3
      exact mj_sub2 (uM_lacks_36 hok C Z  h) ⟨rfl, rfl, rfl, trivial⟩
    · have h := h.2 c3
      refine mj_aload_n C dM_lacks_25 rfl ?_
      refine mj_getR C inM_all rfl e_Model 18 (by decide) l_M_56 rfl dM_lacks_26 ?_
      refine mj_iload C dM_lacks_29 rfl ?_
      refine mj_iald (t0 := 0) C e_m_kinds rfl h.1 dM_lacks_31 ?_
      have h := h.2
      refine mj_iload_n C dM_lacks_32 rfl ?_
      refine mj_icmp_ne (tgt := 49) C dM_lacks_33 (by decide) (fun c5 => ?_) (fun c5 => ?_)
      · have h := h.1 c5
        exact mj_sub2 (uM_lacks_49 hok C Z  h) trivial
      · have h := h.2 c5
        exact mj_sub2 (uM_lacks_36 hok C Z  h) ⟨rfl, rfl, rfl, trivial⟩
/-! GrantKernelModel.faultOf -/
def wM_faultOf_60  (k : mj_St)  (Q : Int32 → Prop)  : Prop := Q 2
set_option maxRecDepth 100000 in
set_option maxHeartbeats 4000000 in
theorem uM_faultOf_60 {E : mj_E} {r : mj_R} {mm : mj_St} {k : mj_St} {Q : Int32 → Prop} (hok : mj_Ok (mk_v E)) (C : mj_Cx (mk_v E) r cM_faultOf 5 RM mj_all { frames := 1, cells := 0, slots := 0, locals := 24 }) (Z : mj_Cr (mk_v E) r (some .int) (mj_iR (mm, k) Q))     (h : wM_faultOf_60 k Q) : mj_G (mk_v E) r 60 [] [] (mm, k) := by
  unfold wM_faultOf_60 at h
  refine mj_iconst (a := 2) C dM_faultOf_60 (by decide) ?_
  refine mj_goto (tgt := 65) C dM_faultOf_61 (by decide) ?_
  exact mj_iret C Z dM_faultOf_65 ⟨_, rfl, rfl, h⟩
def wM_faultOf_20 (x1 : Int32) (k : mj_St)  (Q : Int32 → Prop)  : Prop := vp_in ((8 * x1) + (k 0 25)) 48 ∧ (∀ a3 : Int64, a3 = ((k 8 ((8 * x1) + (k 0 25)).toNatClampNeg).toInt64) + ((k 0 27).toInt64) → ((((lg_cmp a3 0) < 0) → wM_faultOf_60 k Q) ∧ ((¬ (lg_cmp a3 0) < 0) → vp_in x1 6 ∧ ((((lg_cmp a3 ((k 6 x1.toNatClampNeg).toInt64)) < 0) → Q 0) ∧ ((¬ (lg_cmp a3 ((k 6 x1.toNatClampNeg).toInt64)) < 0) → wM_faultOf_60 k Q)))))
set_option maxRecDepth 100000 in
set_option maxHeartbeats 4000000 in
theorem uM_faultOf_20 {E : mj_E} {r : mj_R} {mm : mj_St} {k : mj_St} {Q : Int32 → Prop} (hok : mj_Ok (mk_v E)) (C : mj_Cx (mk_v E) r cM_faultOf 5 RM mj_all { frames := 1, cells := 0, slots := 0, locals := 24 }) (Z : mj_Cr (mk_v E) r (some .int) (mj_iR (mm, k) Q)) {x1 : Int32}    (h : wM_faultOf_20 x1 k Q) : mj_G (mk_v E) r 20 [(0, .ref 34), (1, .int x1)] [] (mm, k) := by
  unfold wM_faultOf_20 at h
  refine mj_aload_n C dM_faultOf_20 rfl ?_
  refine mj_getR C inM_all rfl e_Model 8 (by decide) l_M_31 rfl dM_faultOf_21 ?_
  refine mj_bipush (a := 8) C dM_faultOf_24 (by decide) ?_
  refine mj_iload_n C dM_faultOf_26 rfl ?_
  refine mj_imul C dM_faultOf_27 ?_
  refine mj_aload_n C dM_faultOf_28 rfl ?_
  refine mj_getI C inM_all rfl e_Model 25 (by decide) l_M_113 rfl dM_faultOf_29 ?_
  refine mj_iadd C dM_faultOf_32 ?_
  refine mj_iald (t0 := 0) C e_m_registers rfl h.1 dM_faultOf_33 ?_
  have h := h.2
  refine mj_i2l C dM_faultOf_34 ?_
  refine mj_aload_n C dM_faultOf_35 rfl ?_
  refine mj_getI C inM_all rfl e_Model 27 (by decide) l_M_119 rfl dM_faultOf_36 ?_
  refine mj_i2l C dM_faultOf_39 ?_
  refine mj_ladd C dM_faultOf_40 ?_
  refine mj_lstore_n C dM_faultOf_41 (by decide) rfl rfl ?_
  have h := h _ rfl
  refine mj_lload_n C dM_faultOf_42 rfl ?_
  refine mj_lconst (a := 0) C dM_faultOf_43 (by decide) ?_
  refine mj_lcmp C dM_faultOf_44 ?_
  refine mj_if_lt (tgt := 60) C dM_faultOf_45 (by decide) (fun c4 => ?_) (fun c4 => ?_)
  · have h := h.1 c4
    exact mj_sub2 (uM_faultOf_60 hok C Z  h) trivial
  · have h := h.2 c4
    refine mj_lload_n C dM_faultOf_48 rfl ?_
    refine mj_aload_n C dM_faultOf_49 rfl ?_
    refine mj_getR C inM_all rfl e_Model 6 (by decide) l_M_25 rfl dM_faultOf_50 ?_
    refine mj_iload_n C dM_faultOf_53 rfl ?_
    refine mj_iald (t0 := 0) C e_m_lengths rfl h.1 dM_faultOf_54 ?_
    have h := h.2
    refine mj_i2l C dM_faultOf_55 ?_
    refine mj_lcmp C dM_faultOf_56 ?_
    refine mj_if_lt (tgt := 64) C dM_faultOf_57 (by decide) (fun c5 => ?_) (fun c5 => ?_)
    · have h := h.1 c5
      refine mj_iconst (a := 0) C dM_faultOf_64 (by decide) ?_
      exact mj_iret C Z dM_faultOf_65 ⟨_, rfl, rfl, h⟩
    · have h := h.2 c5
      exact mj_sub2 (uM_faultOf_60 hok C Z  h) trivial
def wM_faultOf_175 (x1 : Int32) (x2 : Int32) (y0 : Int32) (k : mj_St)  (Q : Int32 → Prop)  : Prop := ((y0 = 0) → ((¬ x2 = 19) → Q 0) ∧ ((x2 = 19) → vp_in ((8 * x1) + (k 0 25)) 48 ∧ ((((k 16 ((8 * x1) + (k 0 25)).toNatClampNeg) = 0) → Q 0) ∧ ((¬ (k 16 ((8 * x1) + (k 0 25)).toNatClampNeg) = 0) → Q 5)))) ∧ ((¬ y0 = 0) → Q 4)
set_option maxRecDepth 100000 in
set_option maxHeartbeats 4000000 in
theorem uM_faultOf_175 {E : mj_E} {r : mj_R} {mm : mj_St} {k : mj_St} {Q : Int32 → Prop} (hok : mj_Ok (mk_v E)) (C : mj_Cx (mk_v E) r cM_faultOf 5 RM mj_all { frames := 1, cells := 0, slots := 0, locals := 24 }) (Z : mj_Cr (mk_v E) r (some .int) (mj_iR (mm, k) Q)) {x1 : Int32} {x2 : Int32} {y0 : Int32}    (h : wM_faultOf_175 x1 x2 y0 k Q) : mj_G (mk_v E) r 175 [(0, .ref 34), (1, .int x1), (2, .int x2)] [.int y0] (mm, k) := by
  unfold wM_faultOf_175 at h
  refine mj_istore_n C dM_faultOf_175 (by decide) rfl ?_
  refine mj_iload_n C dM_faultOf_176 rfl ?_
  refine mj_if_eq (tgt := 184) C dM_faultOf_177 (by decide) (fun c12 => ?_) (fun c12 => ?_)
  · have h := h.1 c12
    refine mj_iload_n C dM_faultOf_184 rfl ?_
    refine mj_bipush (a := 19) C dM_faultOf_185 (by decide) ?_
    refine mj_icmp_ne (tgt := 211) C dM_faultOf_187 (by decide) (fun c13 => ?_) (fun c13 => ?_)
    · have h := h.1 c13
      refine mj_iconst (a := 0) C dM_faultOf_211 (by decide) ?_
      exact mj_iret C Z dM_faultOf_212 ⟨_, rfl, rfl, h⟩
    · have h := h.2 c13
      refine mj_aload_n C dM_faultOf_190 rfl ?_
      refine mj_getR C inM_all rfl e_Model 18 (by decide) l_M_56 rfl dM_faultOf_191 ?_
      refine mj_bipush (a := 8) C dM_faultOf_194 (by decide) ?_
      refine mj_iload_n C dM_faultOf_196 rfl ?_
      refine mj_imul C dM_faultOf_197 ?_
      refine mj_aload_n C dM_faultOf_198 rfl ?_
      refine mj_getI C inM_all rfl e_Model 25 (by decide) l_M_113 rfl dM_faultOf_199 ?_
      refine mj_iadd C dM_faultOf_202 ?_
      refine mj_iald (t0 := 0) C e_m_kinds rfl h.1 dM_faultOf_203 ?_
      have h := h.2
      refine mj_if_eq (tgt := 211) C dM_faultOf_204 (by decide) (fun c14 => ?_) (fun c14 => ?_)
      · have h := h.1 c14
        refine mj_iconst (a := 0) C dM_faultOf_211 (by decide) ?_
        exact mj_iret C Z dM_faultOf_212 ⟨_, rfl, rfl, h⟩
      · have h := h.2 c14
        refine mj_iconst (a := 5) C dM_faultOf_207 (by decide) ?_
        refine mj_goto (tgt := 212) C dM_faultOf_208 (by decide) ?_
        exact mj_iret C Z dM_faultOf_212 ⟨_, rfl, rfl, h⟩
  · have h := h.2 c12
    refine mj_iconst (a := 4) C dM_faultOf_180 (by decide) ?_
    refine mj_goto (tgt := 212) C dM_faultOf_181 (by decide) ?_
    exact mj_iret C Z dM_faultOf_212 ⟨_, rfl, rfl, h⟩
def wM_faultOf_170 (x1 : Int32) (x2 : Int32) (k : mj_St)  (Q : Int32 → Prop)  : Prop := wM_faultOf_175 x1 x2 1 k Q
set_option maxRecDepth 100000 in
set_option maxHeartbeats 4000000 in
theorem uM_faultOf_170 {E : mj_E} {r : mj_R} {mm : mj_St} {k : mj_St} {Q : Int32 → Prop} (hok : mj_Ok (mk_v E)) (C : mj_Cx (mk_v E) r cM_faultOf 5 RM mj_all { frames := 1, cells := 0, slots := 0, locals := 24 }) (Z : mj_Cr (mk_v E) r (some .int) (mj_iR (mm, k) Q)) {x1 : Int32} {x2 : Int32}    (h : wM_faultOf_170 x1 x2 k Q) : mj_G (mk_v E) r 170 [(0, .ref 34), (1, .int x1), (2, .int x2)] [] (mm, k) := by
  unfold wM_faultOf_170 at h
  refine mj_iconst (a := 1) C dM_faultOf_170 (by decide) ?_
  refine mj_goto (tgt := 175) C dM_faultOf_171 (by decide) ?_
  exact mj_sub2 (uM_faultOf_175 hok C Z  h) ⟨rfl, rfl, rfl, trivial⟩
def wM_faultOf_174 (x1 : Int32) (x2 : Int32) (k : mj_St)  (Q : Int32 → Prop)  : Prop := wM_faultOf_175 x1 x2 0 k Q
set_option maxRecDepth 100000 in
set_option maxHeartbeats 4000000 in
theorem uM_faultOf_174 {E : mj_E} {r : mj_R} {mm : mj_St} {k : mj_St} {Q : Int32 → Prop} (hok : mj_Ok (mk_v E)) (C : mj_Cx (mk_v E) r cM_faultOf 5 RM mj_all { frames := 1, cells := 0, slots := 0, locals := 24 }) (Z : mj_Cr (mk_v E) r (some .int) (mj_iR (mm, k) Q)) {x1 : Int32} {x2 : Int32}    (h : wM_faultOf_174 x1 x2 k Q) : mj_G (mk_v E) r 174 [(0, .ref 34), (1, .int x1), (2, .int x2)] [] (mm, k) := by
  unfold wM_faultOf_174 at h
  refine mj_iconst (a := 0) C dM_faultOf_174 (by decide) ?_
  exact mj_sub2 (uM_faultOf_175 hok C Z  h) ⟨rfl, rfl, rfl, trivial⟩
def wM_faultOf_159 (x1 : Int32) (x2 : Int32) (x4 : Int32) (k : mj_St)  (Q : Int32 → Prop)  : Prop := wM_lacks x1 1 x4 k (fun a16 => (((a16 = 0) → wM_faultOf_174 x1 x2 k Q) ∧ ((¬ a16 = 0) → wM_faultOf_170 x1 x2 k Q)))
set_option maxRecDepth 100000 in
set_option maxHeartbeats 4000000 in
theorem uM_faultOf_159 {E : mj_E} {r : mj_R} {mm : mj_St} {k : mj_St} {Q : Int32 → Prop} (hok : mj_Ok (mk_v E)) (C : mj_Cx (mk_v E) r cM_faultOf 5 RM mj_all { frames := 1, cells := 0, slots := 0, locals := 24 }) (Z : mj_Cr (mk_v E) r (some .int) (mj_iR (mm, k) Q)) {x1 : Int32} {x2 : Int32} {x4 : Int32}    (h : wM_faultOf_159 x1 x2 x4 k Q) : mj_G (mk_v E) r 159 [(0, .ref 34), (1, .int x1), (2, .int x2), (4, .int x4)] [] (mm, k) := by
  unfold wM_faultOf_159 at h
  refine mj_aload_n C dM_faultOf_159 rfl ?_
  refine mj_iload_n C dM_faultOf_160 rfl ?_
  refine mj_iconst (a := 1) C dM_faultOf_161 (by decide) ?_
  refine mj_iload C dM_faultOf_162 rfl ?_
  refine mj_callV_iR C (qM_lacks hok h) (g_M_lacks l_M_145) rfl e_Model z_M_lacks ⟨Nat.le_of_ble_eq_true rfl, Nat.le_of_ble_eq_true rfl, rfl, rfl⟩ rfl rfl (Nat.le_of_ble_eq_true rfl) dM_faultOf_164 (fun a16 h => ?_)
  refine mj_if_eq (tgt := 174) C dM_faultOf_167 (by decide) (fun c17 => ?_) (fun c17 => ?_)
  · have h := h.1 c17
    exact mj_sub2 (uM_faultOf_174 hok C Z  h) ⟨rfl, rfl, rfl, trivial⟩
  · have h := h.2 c17
    exact mj_sub2 (uM_faultOf_170 hok C Z  h) ⟨rfl, rfl, rfl, trivial⟩
def wM_faultOf_141 (x1 : Int32) (x2 : Int32) (x3 : Int32) (y0 : Int32) (k : mj_St)  (Q : Int32 → Prop)  : Prop := ((¬ x3 = 0) → wM_faultOf_170 x1 x2 k Q) ∧ ((x3 = 0) → ((x2 = 15) → wM_faultOf_159 x1 x2 y0 k Q) ∧ ((¬ x2 = 15) → ((¬ x2 = 16) → wM_faultOf_174 x1 x2 k Q) ∧ ((x2 = 16) → wM_faultOf_159 x1 x2 y0 k Q)))
set_option maxRecDepth 100000 in
set_option maxHeartbeats 4000000 in
theorem uM_faultOf_141 {E : mj_E} {r : mj_R} {mm : mj_St} {k : mj_St} {Q : Int32 → Prop} (hok : mj_Ok (mk_v E)) (C : mj_Cx (mk_v E) r cM_faultOf 5 RM mj_all { frames := 1, cells := 0, slots := 0, locals := 24 }) (Z : mj_Cr (mk_v E) r (some .int) (mj_iR (mm, k) Q)) {x1 : Int32} {x2 : Int32} {x3 : Int32} {y0 : Int32}    (h : wM_faultOf_141 x1 x2 x3 y0 k Q) : mj_G (mk_v E) r 141 [(0, .ref 34), (1, .int x1), (2, .int x2), (3, .int x3)] [.int y0] (mm, k) := by
  unfold wM_faultOf_141 at h
  refine mj_istore C dM_faultOf_141 (by decide) rfl ?_
  refine mj_iload_n C dM_faultOf_143 rfl ?_
  refine mj_if_ne (tgt := 170) C dM_faultOf_144 (by decide) (fun c11 => ?_) (fun c11 => ?_)
  · have h := h.1 c11
    exact mj_sub2 (uM_faultOf_170 hok C Z  h) ⟨rfl, rfl, rfl, trivial⟩
  · have h := h.2 c11
    refine mj_iload_n C dM_faultOf_147 rfl ?_
    refine mj_bipush (a := 15) C dM_faultOf_148 (by decide) ?_
    refine mj_icmp_eq (tgt := 159) C dM_faultOf_150 (by decide) (fun c15 => ?_) (fun c15 => ?_)
    · have h := h.1 c15
      exact mj_sub2 (uM_faultOf_159 hok C Z  h) ⟨rfl, rfl, rfl, rfl, trivial⟩
    · have h := h.2 c15
      refine mj_iload_n C dM_faultOf_153 rfl ?_
      refine mj_bipush (a := 16) C dM_faultOf_154 (by decide) ?_
      refine mj_icmp_ne (tgt := 174) C dM_faultOf_156 (by decide) (fun c18 => ?_) (fun c18 => ?_)
      · have h := h.1 c18
        exact mj_sub2 (uM_faultOf_174 hok C Z  h) ⟨rfl, rfl, rfl, trivial⟩
      · have h := h.2 c18
        exact mj_sub2 (uM_faultOf_159 hok C Z  h) ⟨rfl, rfl, rfl, rfl, trivial⟩
def wM_faultOf_125 (x1 : Int32) (x2 : Int32) (y0 : Int32) (k : mj_St)  (Q : Int32 → Prop)  : Prop := ((¬ ((k 0 27) &&& 1) = 1) → wM_faultOf_141 x1 x2 y0 1 k Q) ∧ ((((k 0 27) &&& 1) = 1) → wM_faultOf_141 x1 x2 y0 5 k Q)
set_option maxRecDepth 100000 in
set_option maxHeartbeats 4000000 in
theorem uM_faultOf_125 {E : mj_E} {r : mj_R} {mm : mj_St} {k : mj_St} {Q : Int32 → Prop} (hok : mj_Ok (mk_v E)) (C : mj_Cx (mk_v E) r cM_faultOf 5 RM mj_all { frames := 1, cells := 0, slots := 0, locals := 24 }) (Z : mj_Cr (mk_v E) r (some .int) (mj_iR (mm, k) Q)) {x1 : Int32} {x2 : Int32} {y0 : Int32}    (h : wM_faultOf_125 x1 x2 y0 k Q) : mj_G (mk_v E) r 125 [(0, .ref 34), (1, .int x1), (2, .int x2)] [.int y0] (mm, k) := by
  unfold wM_faultOf_125 at h
  refine mj_istore_n C dM_faultOf_125 (by decide) rfl ?_
  refine mj_aload_n C dM_faultOf_126 rfl ?_
  refine mj_getI C inM_all rfl e_Model 27 (by decide) l_M_119 rfl dM_faultOf_127 ?_
  refine mj_iconst (a := 1) C dM_faultOf_130 (by decide) ?_
  refine mj_iand C dM_faultOf_131 ?_
  refine mj_iconst (a := 1) C dM_faultOf_132 (by decide) ?_
  refine mj_icmp_ne (tgt := 140) C dM_faultOf_133 (by decide) (fun c10 => ?_) (fun c10 => ?_)
  · have h := h.1 c10
    refine mj_iconst (a := 1) C dM_faultOf_140 (by decide) ?_
    exact mj_sub2 (uM_faultOf_141 hok C Z  h) ⟨rfl, rfl, rfl, rfl, trivial⟩
  · have h := h.2 c10
    refine mj_iconst (a := 5) C dM_faultOf_136 (by decide) ?_
    refine mj_goto (tgt := 141) C dM_faultOf_137 (by decide) ?_
    exact mj_sub2 (uM_faultOf_141 hok C Z  h) ⟨rfl, rfl, rfl, rfl, trivial⟩
def wM_faultOf_124 (x1 : Int32) (x2 : Int32) (k : mj_St)  (Q : Int32 → Prop)  : Prop := wM_faultOf_125 x1 x2 0 k Q
set_option maxRecDepth 100000 in
set_option maxHeartbeats 4000000 in
theorem uM_faultOf_124 {E : mj_E} {r : mj_R} {mm : mj_St} {k : mj_St} {Q : Int32 → Prop} (hok : mj_Ok (mk_v E)) (C : mj_Cx (mk_v E) r cM_faultOf 5 RM mj_all { frames := 1, cells := 0, slots := 0, locals := 24 }) (Z : mj_Cr (mk_v E) r (some .int) (mj_iR (mm, k) Q)) {x1 : Int32} {x2 : Int32}    (h : wM_faultOf_124 x1 x2 k Q) : mj_G (mk_v E) r 124 [(0, .ref 34), (1, .int x1), (2, .int x2)] [] (mm, k) := by
  unfold wM_faultOf_124 at h
  refine mj_iconst (a := 0) C dM_faultOf_124 (by decide) ?_
  exact mj_sub2 (uM_faultOf_125 hok C Z  h) ⟨rfl, rfl, rfl, trivial⟩
def wM_faultOf_120 (x1 : Int32) (x2 : Int32) (k : mj_St)  (Q : Int32 → Prop)  : Prop := wM_faultOf_125 x1 x2 1 k Q
set_option maxRecDepth 100000 in
set_option maxHeartbeats 4000000 in
theorem uM_faultOf_120 {E : mj_E} {r : mj_R} {mm : mj_St} {k : mj_St} {Q : Int32 → Prop} (hok : mj_Ok (mk_v E)) (C : mj_Cx (mk_v E) r cM_faultOf 5 RM mj_all { frames := 1, cells := 0, slots := 0, locals := 24 }) (Z : mj_Cr (mk_v E) r (some .int) (mj_iR (mm, k) Q)) {x1 : Int32} {x2 : Int32}    (h : wM_faultOf_120 x1 x2 k Q) : mj_G (mk_v E) r 120 [(0, .ref 34), (1, .int x1), (2, .int x2)] [] (mm, k) := by
  unfold wM_faultOf_120 at h
  refine mj_iconst (a := 1) C dM_faultOf_120 (by decide) ?_
  refine mj_goto (tgt := 125) C dM_faultOf_121 (by decide) ?_
  exact mj_sub2 (uM_faultOf_125 hok C Z  h) ⟨rfl, rfl, rfl, trivial⟩
def wM_faultOf_98 (x1 : Int32) (x2 : Int32) (k : mj_St)  (Q : Int32 → Prop)  : Prop := ((x2 < 19) → wM_faultOf_124 x1 x2 k Q) ∧ ((¬ x2 < 19) → ((21 < x2) → wM_faultOf_124 x1 x2 k Q) ∧ ((¬ 21 < x2) → wM_lacks x1 0 0 k (fun a20 => (((a20 = 0) → wM_faultOf_124 x1 x2 k Q) ∧ ((¬ a20 = 0) → wM_faultOf_120 x1 x2 k Q)))))
set_option maxRecDepth 100000 in
set_option maxHeartbeats 4000000 in
theorem uM_faultOf_98 {E : mj_E} {r : mj_R} {mm : mj_St} {k : mj_St} {Q : Int32 → Prop} (hok : mj_Ok (mk_v E)) (C : mj_Cx (mk_v E) r cM_faultOf 5 RM mj_all { frames := 1, cells := 0, slots := 0, locals := 24 }) (Z : mj_Cr (mk_v E) r (some .int) (mj_iR (mm, k) Q)) {x1 : Int32} {x2 : Int32}    (h : wM_faultOf_98 x1 x2 k Q) : mj_G (mk_v E) r 98 [(0, .ref 34), (1, .int x1), (2, .int x2)] [] (mm, k) := by
  unfold wM_faultOf_98 at h
  refine mj_iload_n C dM_faultOf_98 rfl ?_
  refine mj_bipush (a := 19) C dM_faultOf_99 (by decide) ?_
  refine mj_icmp_lt (tgt := 124) C dM_faultOf_101 (by decide) (fun c9 => ?_) (fun c9 => ?_)
  · have h := h.1 c9
    exact mj_sub2 (uM_faultOf_124 hok C Z  h) ⟨rfl, rfl, rfl, trivial⟩
  · have h := h.2 c9
    refine mj_iload_n C dM_faultOf_104 rfl ?_
    refine mj_bipush (a := 21) C dM_faultOf_105 (by decide) ?_
    refine mj_icmp_gt (tgt := 124) C dM_faultOf_107 (by decide) (fun c19 => ?_) (fun c19 => ?_)
    · have h := h.1 c19
      exact mj_sub2 (uM_faultOf_124 hok C Z  h) ⟨rfl, rfl, rfl, trivial⟩
    · have h := h.2 c19
      refine mj_aload_n C dM_faultOf_110 rfl ?_
      refine mj_iload_n C dM_faultOf_111 rfl ?_
      refine mj_iconst (a := 0) C dM_faultOf_112 (by decide) ?_
      refine mj_iconst (a := 0) C dM_faultOf_113 (by decide) ?_
      refine mj_callV_iR C (qM_lacks hok h) (g_M_lacks l_M_145) rfl e_Model z_M_lacks ⟨Nat.le_of_ble_eq_true rfl, Nat.le_of_ble_eq_true rfl, rfl, rfl⟩ rfl rfl (Nat.le_of_ble_eq_true rfl) dM_faultOf_114 (fun a20 h => ?_)
      refine mj_if_eq (tgt := 124) C dM_faultOf_117 (by decide) (fun c21 => ?_) (fun c21 => ?_)
      · have h := h.1 c21
        exact mj_sub2 (uM_faultOf_124 hok C Z  h) ⟨rfl, rfl, rfl, trivial⟩
      · have h := h.2 c21
        exact mj_sub2 (uM_faultOf_120 hok C Z  h) ⟨rfl, rfl, rfl, trivial⟩
def wM_faultOf_82 (x1 : Int32) (x2 : Int32) (k : mj_St)  (Q : Int32 → Prop)  : Prop := ((¬ x2 = 17) → wM_faultOf_98 x1 x2 k Q) ∧ ((x2 = 17) → wM_lacks x1 1 2 k (fun a22 => (((¬ a22 = 0) → wM_faultOf_120 x1 x2 k Q) ∧ ((a22 = 0) → wM_faultOf_98 x1 x2 k Q))))
set_option maxRecDepth 100000 in
set_option maxHeartbeats 4000000 in
theorem uM_faultOf_82 {E : mj_E} {r : mj_R} {mm : mj_St} {k : mj_St} {Q : Int32 → Prop} (hok : mj_Ok (mk_v E)) (C : mj_Cx (mk_v E) r cM_faultOf 5 RM mj_all { frames := 1, cells := 0, slots := 0, locals := 24 }) (Z : mj_Cr (mk_v E) r (some .int) (mj_iR (mm, k) Q)) {x1 : Int32} {x2 : Int32}    (h : wM_faultOf_82 x1 x2 k Q) : mj_G (mk_v E) r 82 [(0, .ref 34), (1, .int x1), (2, .int x2)] [] (mm, k) := by
  unfold wM_faultOf_82 at h
  refine mj_iload_n C dM_faultOf_82 rfl ?_
  refine mj_bipush (a := 17) C dM_faultOf_83 (by decide) ?_
  refine mj_icmp_ne (tgt := 98) C dM_faultOf_85 (by decide) (fun c8 => ?_) (fun c8 => ?_)
  · have h := h.1 c8
    exact mj_sub2 (uM_faultOf_98 hok C Z  h) ⟨rfl, rfl, rfl, trivial⟩
  · have h := h.2 c8
    refine mj_aload_n C dM_faultOf_88 rfl ?_
    refine mj_iload_n C dM_faultOf_89 rfl ?_
    refine mj_iconst (a := 1) C dM_faultOf_90 (by decide) ?_
    refine mj_iconst (a := 2) C dM_faultOf_91 (by decide) ?_
    refine mj_callV_iR C (qM_lacks hok h) (g_M_lacks l_M_145) rfl e_Model z_M_lacks ⟨Nat.le_of_ble_eq_true rfl, Nat.le_of_ble_eq_true rfl, rfl, rfl⟩ rfl rfl (Nat.le_of_ble_eq_true rfl) dM_faultOf_92 (fun a22 h => ?_)
    refine mj_if_ne (tgt := 120) C dM_faultOf_95 (by decide) (fun c23 => ?_) (fun c23 => ?_)
    · have h := h.1 c23
      exact mj_sub2 (uM_faultOf_120 hok C Z  h) ⟨rfl, rfl, rfl, trivial⟩
    · have h := h.2 c23
      exact mj_sub2 (uM_faultOf_98 hok C Z  h) ⟨rfl, rfl, rfl, trivial⟩
def wM_faultOf (p0 : Int32) (p1 : Int32) (k : mj_St) (Q : Int32 → Prop) : Prop := ((p1 ≤ 22) → ((p1 = 8) → wM_faultOf_20 p0 k Q) ∧ ((¬ p1 = 8) → ((¬ p1 = 9) → ((¬ p1 = 14) → wM_faultOf_82 p0 p1 k Q) ∧ ((p1 = 14) → wM_lacks p0 2 1 k (fun a24 => (((¬ a24 = 0) → wM_faultOf_120 p0 p1 k Q) ∧ ((a24 = 0) → wM_faultOf_82 p0 p1 k Q))))) ∧ ((p1 = 9) → wM_faultOf_20 p0 k Q))) ∧ ((¬ p1 ≤ 22) → Q 3)
set_option maxRecDepth 100000 in
set_option maxHeartbeats 4000000 in
theorem qM_faultOf {E : mj_E} (hok : mj_Ok (mk_v E)) {p0 : Int32} {p1 : Int32} {k mm : mj_St} {Q : Int32 → Prop} (h : wM_faultOf p0 p1 k Q) : mj_Ct (mk_v E) yM_faultOf (Cond.code yM_faultOf cM_faultOf 5 (some .int) :: mj_all) { frames := 1, cells := 0, slots := 0, locals := 24 } [.ref 34, .int p0, .int p1] (mm, k) (mj_iR (mm, k) Q) := by
  refine mj_enterA (L := [(0, .ref 34), (1, .int p0), (2, .int p1)]) hok (by decide +kernel) ⟨rfl, rfl⟩ (fun _ => Nat.le_of_ble_eq_true rfl) rfl (fun r C Z => ?_)
  unfold wM_faultOf at h
  refine mj_iload_n C dM_faultOf_0 rfl ?_
  refine mj_bipush (a := 22) C dM_faultOf_1 (by decide) ?_
  refine mj_icmp_le (tgt := 8) C dM_faultOf_3 (by decide) (fun c1 => ?_) (fun c1 => ?_)
  · have h := h.1 c1
    refine mj_iload_n C dM_faultOf_8 rfl ?_
    refine mj_bipush (a := 8) C dM_faultOf_9 (by decide) ?_
    refine mj_icmp_eq (tgt := 20) C dM_faultOf_11 (by decide) (fun c2 => ?_) (fun c2 => ?_)
    · have h := h.1 c2
      exact mj_sub2 (uM_faultOf_20 hok C Z  h) ⟨rfl, rfl, trivial⟩
    · have h := h.2 c2
      refine mj_iload_n C dM_faultOf_14 rfl ?_
      refine mj_bipush (a := 9) C dM_faultOf_15 (by decide) ?_
      refine mj_icmp_ne (tgt := 66) C dM_faultOf_17 (by decide) (fun c6 => ?_) (fun c6 => ?_)
      · have h := h.1 c6
        refine mj_iload_n C dM_faultOf_66 rfl ?_
        refine mj_bipush (a := 14) C dM_faultOf_67 (by decide) ?_
        refine mj_icmp_ne (tgt := 82) C dM_faultOf_69 (by decide) (fun c7 => ?_) (fun c7 => ?_)
        · have h := h.1 c7
          exact mj_sub2 (uM_faultOf_82 hok C Z  h) ⟨rfl, rfl, rfl, trivial⟩
        · have h := h.2 c7
          refine mj_aload_n C dM_faultOf_72 rfl ?_
          refine mj_iload_n C dM_faultOf_73 rfl ?_
          refine mj_iconst (a := 2) C dM_faultOf_74 (by decide) ?_
          refine mj_iconst (a := 1) C dM_faultOf_75 (by decide) ?_
          refine mj_callV_iR C (qM_lacks hok h) (g_M_lacks l_M_145) rfl e_Model z_M_lacks ⟨Nat.le_of_ble_eq_true rfl, Nat.le_of_ble_eq_true rfl, rfl, rfl⟩ rfl rfl (Nat.le_of_ble_eq_true rfl) dM_faultOf_76 (fun a24 h => ?_)
          refine mj_if_ne (tgt := 120) C dM_faultOf_79 (by decide) (fun c25 => ?_) (fun c25 => ?_)
          · have h := h.1 c25
            exact mj_sub2 (uM_faultOf_120 hok C Z  h) ⟨rfl, rfl, rfl, trivial⟩
          · have h := h.2 c25
            exact mj_sub2 (uM_faultOf_82 hok C Z  h) ⟨rfl, rfl, rfl, trivial⟩
      · have h := h.2 c6
        exact mj_sub2 (uM_faultOf_20 hok C Z  h) ⟨rfl, rfl, trivial⟩
  · have h := h.2 c1
    refine mj_iconst (a := 3) C dM_faultOf_6 (by decide) ?_
    exact mj_iret C Z dM_faultOf_7 ⟨_, rfl, rfl, h⟩
/-! GrantKernelModel.result -/
def wM_result (p0 : Int32) (p1 : Int32) (p2 : Int32) (k : mj_St) (Q : Int32 → Prop) : Prop := ((p0 = 1) → Q (k 0 27)) ∧ (¬ p0 = 1 → (((p0 = 2) → Q p1) ∧ (¬ p0 = 2 → (((p0 = 3) → Q (p1 + p2)) ∧ (¬ p0 = 3 → (((p0 = 4) → Q (p1 - p2)) ∧ (¬ p0 = 4 → (((p0 = 5) → Q (p1 * p2)) ∧ (¬ p0 = 5 → (((p0 = 6) → Q (p1 &&& p2)) ∧ (¬ p0 = 6 → (Q (p1 ^^^ p2)))))))))))))
set_option maxRecDepth 100000 in
set_option maxHeartbeats 4000000 in
theorem qM_result {E : mj_E} (hok : mj_Ok (mk_v E)) {p0 : Int32} {p1 : Int32} {p2 : Int32} {k mm : mj_St} {Q : Int32 → Prop} (h : wM_result p0 p1 p2 k Q) : mj_Ct (mk_v E) yM_result (Cond.code yM_result cM_result 4 (some .int) :: mj_all) { frames := 0, cells := 0, slots := 0, locals := 0 } [.ref 34, .int p0, .int p1, .int p2] (mm, k) (mj_iR (mm, k) Q) := by
  refine mj_enterA (L := [(0, .ref 34), (1, .int p0), (2, .int p1), (3, .int p2)]) hok (by decide +kernel) ⟨rfl, rfl⟩ (fun _ => Nat.le_of_ble_eq_true rfl) rfl (fun r C Z => ?_)
  unfold wM_result at h
  refine mj_iload_n C dM_result_0 rfl ?_
  by_cases c1 : p0 = 1
  · have h := h.1 c1
    refine mj_tableIn (off := 39) (tgt := 40) C dM_result_1 (by rw [c1]; decide) (by rw [c1]; decide) (by rw [c1]; rfl) (by decide) ?_
    refine mj_aload_n C dM_result_40 rfl ?_
    refine mj_getI C inM_all rfl e_Model 27 (by decide) l_M_119 rfl dM_result_41 ?_
    exact mj_iret C Z dM_result_44 ⟨_, rfl, rfl, h⟩
  have h := h.2 c1
  by_cases c2 : p0 = 2
  · have h := h.1 c2
    refine mj_tableIn (off := 44) (tgt := 45) C dM_result_1 (by rw [c2]; decide) (by rw [c2]; decide) (by rw [c2]; rfl) (by decide) ?_
    refine mj_iload_n C dM_result_45 rfl ?_
    exact mj_iret C Z dM_result_46 ⟨_, rfl, rfl, h⟩
  have h := h.2 c2
  by_cases c3 : p0 = 3
  · have h := h.1 c3
    refine mj_tableIn (off := 46) (tgt := 47) C dM_result_1 (by rw [c3]; decide) (by rw [c3]; decide) (by rw [c3]; rfl) (by decide) ?_
    refine mj_iload_n C dM_result_47 rfl ?_
    refine mj_iload_n C dM_result_48 rfl ?_
    refine mj_iadd C dM_result_49 ?_
    exact mj_iret C Z dM_result_50 ⟨_, rfl, rfl, h⟩
  have h := h.2 c3
  by_cases c4 : p0 = 4
  · have h := h.1 c4
    refine mj_tableIn (off := 50) (tgt := 51) C dM_result_1 (by rw [c4]; decide) (by rw [c4]; decide) (by rw [c4]; rfl) (by decide) ?_
    refine mj_iload_n C dM_result_51 rfl ?_
    refine mj_iload_n C dM_result_52 rfl ?_
    refine mj_isub C dM_result_53 ?_
    exact mj_iret C Z dM_result_54 ⟨_, rfl, rfl, h⟩
  have h := h.2 c4
  by_cases c5 : p0 = 5
  · have h := h.1 c5
    refine mj_tableIn (off := 54) (tgt := 55) C dM_result_1 (by rw [c5]; decide) (by rw [c5]; decide) (by rw [c5]; rfl) (by decide) ?_
    refine mj_iload_n C dM_result_55 rfl ?_
    refine mj_iload_n C dM_result_56 rfl ?_
    refine mj_imul C dM_result_57 ?_
    exact mj_iret C Z dM_result_58 ⟨_, rfl, rfl, h⟩
  have h := h.2 c5
  by_cases c6 : p0 = 6
  · have h := h.1 c6
    refine mj_tableIn (off := 58) (tgt := 59) C dM_result_1 (by rw [c6]; decide) (by rw [c6]; decide) (by rw [c6]; rfl) (by decide) ?_
    refine mj_iload_n C dM_result_59 rfl ?_
    refine mj_iload_n C dM_result_60 rfl ?_
    refine mj_iand C dM_result_61 ?_
    exact mj_iret C Z dM_result_62 ⟨_, rfl, rfl, h⟩
  have h := h.2 c6
  have nc1 := lv_neT (k := 1) (a := 1) c1 (by decide)
  have nc2 := lv_neT (k := 2) (a := 2) c2 (by decide)
  have nc3 := lv_neT (k := 3) (a := 3) c3 (by decide)
  have nc4 := lv_neT (k := 4) (a := 4) c4 (by decide)
  have nc5 := lv_neT (k := 5) (a := 5) c5 (by decide)
  have nc6 := lv_neT (k := 6) (a := 6) c6 (by decide)
  refine mj_tableOut (tgt := 63) C dM_result_1 (by omega) (by decide) ?_
  refine mj_iload_n C dM_result_63 rfl ?_
  refine mj_iload_n C dM_result_64 rfl ?_
  refine mj_ixor C dM_result_65 ?_
  exact mj_iret C Z dM_result_66 ⟨_, rfl, rfl, h⟩
/-! GrantKernelModel.move -/
def wM_move_46 (y0 : Int32)  (k : mj_St) (Q : mj_St → Prop)  : Prop := ((y0 = 0) → ∀ k4 : mj_St, k4 = mj_up k 0 28 (k 0 28) → (Q k4)) ∧ ((¬ y0 = 0) → ∀ k5 : mj_St, k5 = mj_up k 0 28 (k 0 27) → (Q k5))
set_option maxRecDepth 100000 in
set_option maxHeartbeats 4000000 in
theorem uM_move_46 {E : mj_E} {r : mj_R} {mm : mj_St} {Q : mj_St → Prop} (hok : mj_Ok (mk_v E)) (C : mj_Cx (mk_v E) r cM_move 5 RM mj_all { frames := 0, cells := 0, slots := 0, locals := 0 }) (Z : mj_Cr (mk_v E) r none (mj_vM mm Q)) {y0 : Int32} {k : mj_St}   (h : wM_move_46 y0 k Q) : mj_G (mk_v E) r 46 [(0, .ref 34)] [.int y0] (mm, k) := by
  unfold wM_move_46 at h
  refine mj_istore C dM_move_46 (by decide) rfl ?_
  refine mj_aload_n C dM_move_48 rfl ?_
  refine mj_iload C dM_move_49 rfl ?_
  refine mj_if_eq (tgt := 61) C dM_move_51 (by decide) (fun c3 => ?_) (fun c3 => ?_)
  · have h := h.1 c3
    refine mj_aload_n C dM_move_61 rfl ?_
    refine mj_getI C inM_all rfl e_Model 28 (by decide) l_M_149 rfl dM_move_62 ?_
    refine mj_put C inM_all rfl tyM okM nmM e_Model 28 (by decide) l_M_149 rfl (by decide +kernel) (Nat.le_of_ble_eq_true rfl) s_Model_28 dM_move_65 ?_
    have h := h _ rfl
    exact mj_vret C Z dM_move_68 ⟨_, rfl, rfl, h⟩
  · have h := h.2 c3
    refine mj_aload_n C dM_move_54 rfl ?_
    refine mj_getI C inM_all rfl e_Model 27 (by decide) l_M_119 rfl dM_move_55 ?_
    refine mj_goto (tgt := 65) C dM_move_58 (by decide) ?_
    refine mj_put C inM_all rfl tyM okM nmM e_Model 28 (by decide) l_M_149 rfl (by decide +kernel) (Nat.le_of_ble_eq_true rfl) s_Model_28 dM_move_65 ?_
    have h := h _ rfl
    exact mj_vret C Z dM_move_68 ⟨_, rfl, rfl, h⟩
def wM_move_41   (k : mj_St) (Q : mj_St → Prop)  : Prop := wM_move_46 1 k Q
set_option maxRecDepth 100000 in
set_option maxHeartbeats 4000000 in
theorem uM_move_41 {E : mj_E} {r : mj_R} {mm : mj_St} {Q : mj_St → Prop} (hok : mj_Ok (mk_v E)) (C : mj_Cx (mk_v E) r cM_move 5 RM mj_all { frames := 0, cells := 0, slots := 0, locals := 0 }) (Z : mj_Cr (mk_v E) r none (mj_vM mm Q))  {k : mj_St}   (h : wM_move_41 k Q) : mj_G (mk_v E) r 41 [(0, .ref 34)] [] (mm, k) := by
  unfold wM_move_41 at h
  refine mj_iconst (a := 1) C dM_move_41 (by decide) ?_
  refine mj_goto (tgt := 46) C dM_move_42 (by decide) ?_
  exact mj_sub2 (uM_move_46 hok C Z  h) ⟨rfl, trivial⟩
def wM_move_45   (k : mj_St) (Q : mj_St → Prop)  : Prop := wM_move_46 0 k Q
set_option maxRecDepth 100000 in
set_option maxHeartbeats 4000000 in
theorem uM_move_45 {E : mj_E} {r : mj_R} {mm : mj_St} {Q : mj_St → Prop} (hok : mj_Ok (mk_v E)) (C : mj_Cx (mk_v E) r cM_move 5 RM mj_all { frames := 0, cells := 0, slots := 0, locals := 0 }) (Z : mj_Cr (mk_v E) r none (mj_vM mm Q))  {k : mj_St}   (h : wM_move_45 k Q) : mj_G (mk_v E) r 45 [(0, .ref 34)] [] (mm, k) := by
  unfold wM_move_45 at h
  refine mj_iconst (a := 0) C dM_move_45 (by decide) ?_
  exact mj_sub2 (uM_move_46 hok C Z  h) ⟨rfl, trivial⟩
def wM_move_31 (x2 : Int32) (x3 : Int32)  (k : mj_St) (Q : mj_St → Prop)  : Prop := ((¬ x2 = 12) → wM_move_45 k Q) ∧ ((x2 = 12) → ((0 ≤ x3) → wM_move_45 k Q) ∧ ((¬ 0 ≤ x3) → wM_move_41 k Q))
set_option maxRecDepth 100000 in
set_option maxHeartbeats 4000000 in
theorem uM_move_31 {E : mj_E} {r : mj_R} {mm : mj_St} {Q : mj_St → Prop} (hok : mj_Ok (mk_v E)) (C : mj_Cx (mk_v E) r cM_move 5 RM mj_all { frames := 0, cells := 0, slots := 0, locals := 0 }) (Z : mj_Cr (mk_v E) r none (mj_vM mm Q)) {x2 : Int32} {x3 : Int32} {k : mj_St}   (h : wM_move_31 x2 x3 k Q) : mj_G (mk_v E) r 31 [(0, .ref 34), (2, .int x2), (3, .int x3)] [] (mm, k) := by
  unfold wM_move_31 at h
  refine mj_iload_n C dM_move_31 rfl ?_
  refine mj_bipush (a := 12) C dM_move_32 (by decide) ?_
  refine mj_icmp_ne (tgt := 45) C dM_move_34 (by decide) (fun c7 => ?_) (fun c7 => ?_)
  · have h := h.1 c7
    exact mj_sub2 (uM_move_45 hok C Z  h) ⟨rfl, trivial⟩
  · have h := h.2 c7
    refine mj_iload_n C dM_move_37 rfl ?_
    refine mj_if_ge (tgt := 45) C dM_move_38 (by decide) (fun c8 => ?_) (fun c8 => ?_)
    · have h := h.1 c8
      exact mj_sub2 (uM_move_45 hok C Z  h) ⟨rfl, trivial⟩
    · have h := h.2 c8
      exact mj_sub2 (uM_move_41 hok C Z  h) ⟨rfl, trivial⟩
def wM_move (p0 : Int32) (p1 : Int32) (k : mj_St) (Q : mj_St → Prop) : Prop := vp_in ((8 * p0) + (k 0 24)) 48 ∧ (∀ a1 : Int32, a1 = k 8 ((8 * p0) + (k 0 24)).toNatClampNeg → (((p1 = 10) → wM_move_41 k Q) ∧ ((¬ p1 = 10) → ((¬ p1 = 11) → wM_move_31 p1 a1 k Q) ∧ ((p1 = 11) → ((a1 = 0) → wM_move_41 k Q) ∧ ((¬ a1 = 0) → wM_move_31 p1 a1 k Q)))))
set_option maxRecDepth 100000 in
set_option maxHeartbeats 4000000 in
theorem qM_move {E : mj_E} (hok : mj_Ok (mk_v E)) {p0 : Int32} {p1 : Int32} {k mm : mj_St} {Q : mj_St → Prop} (h : wM_move p0 p1 k Q) : mj_Ct (mk_v E) yM_move (Cond.code yM_move cM_move 5 none :: mj_all) { frames := 0, cells := 0, slots := 0, locals := 0 } [.ref 34, .int p0, .int p1] (mm, k) (mj_vM mm Q) := by
  refine mj_enterA (L := [(0, .ref 34), (1, .int p0), (2, .int p1)]) hok (by decide +kernel) ⟨rfl, rfl⟩ (fun _ => Nat.le_of_ble_eq_true rfl) rfl (fun r C Z => ?_)
  unfold wM_move at h
  refine mj_aload_n C dM_move_0 rfl ?_
  refine mj_getR C inM_all rfl e_Model 8 (by decide) l_M_31 rfl dM_move_1 ?_
  refine mj_bipush (a := 8) C dM_move_4 (by decide) ?_
  refine mj_iload_n C dM_move_6 rfl ?_
  refine mj_imul C dM_move_7 ?_
  refine mj_aload_n C dM_move_8 rfl ?_
  refine mj_getI C inM_all rfl e_Model 24 (by decide) l_M_142 rfl dM_move_9 ?_
  refine mj_iadd C dM_move_12 ?_
  refine mj_iald (t0 := 0) C e_m_registers rfl h.1 dM_move_13 ?_
  have h := h.2
  refine mj_istore_n C dM_move_14 (by decide) rfl ?_
  have h := h _ rfl
  refine mj_iload_n C dM_move_15 rfl ?_
  refine mj_bipush (a := 10) C dM_move_16 (by decide) ?_
  refine mj_icmp_eq (tgt := 41) C dM_move_18 (by decide) (fun c2 => ?_) (fun c2 => ?_)
  · have h := h.1 c2
    exact mj_sub2 (uM_move_41 hok C Z  h) ⟨rfl, trivial⟩
  · have h := h.2 c2
    refine mj_iload_n C dM_move_21 rfl ?_
    refine mj_bipush (a := 11) C dM_move_22 (by decide) ?_
    refine mj_icmp_ne (tgt := 31) C dM_move_24 (by decide) (fun c6 => ?_) (fun c6 => ?_)
    · have h := h.1 c6
      exact mj_sub2 (uM_move_31 hok C Z  h) ⟨rfl, rfl, rfl, trivial⟩
    · have h := h.2 c6
      refine mj_iload_n C dM_move_27 rfl ?_
      refine mj_if_eq (tgt := 41) C dM_move_28 (by decide) (fun c9 => ?_) (fun c9 => ?_)
      · have h := h.1 c9
        exact mj_sub2 (uM_move_41 hok C Z  h) ⟨rfl, trivial⟩
      · have h := h.2 c9
        exact mj_sub2 (uM_move_31 hok C Z  h) ⟨rfl, rfl, rfl, trivial⟩
/-! GrantKernelModel.write -/
def wM_write (p0 : Int32) (k : mj_St) (Q : mj_St → Prop) : Prop := vp_in ((k 0 22) &&& 15) 16 ∧ (∀ k1 : mj_St, k1 = mj_up k 20 ((k 0 22) &&& 15).toNatClampNeg p0 → (∀ k2 : mj_St, k2 = mj_up k1 0 22 ((k1 0 22) + 1) → (Q k2)))
set_option maxRecDepth 100000 in
set_option maxHeartbeats 4000000 in
theorem qM_write {E : mj_E} (hok : mj_Ok (mk_v E)) {p0 : Int32} {k mm : mj_St} {Q : mj_St → Prop} (h : wM_write p0 k Q) : mj_Ct (mk_v E) yM_write (Cond.code yM_write cM_write 2 none :: mj_all) { frames := 0, cells := 0, slots := 0, locals := 0 } [.ref 34, .int p0] (mm, k) (mj_vM mm Q) := by
  refine mj_enterA (L := [(0, .ref 34), (1, .int p0)]) hok (by decide +kernel) ⟨rfl, rfl⟩ (fun _ => Nat.le_of_ble_eq_true rfl) rfl (fun r C Z => ?_)
  unfold wM_write at h
  refine mj_aload_n C dM_write_0 rfl ?_
  refine mj_getR C inM_all rfl e_Model 23 (by decide) l_M_68 rfl dM_write_1 ?_
  refine mj_aload_n C dM_write_4 rfl ?_
  refine mj_getI C inM_all rfl e_Model 22 (by decide) l_M_139 rfl dM_write_5 ?_
  refine mj_bipush (a := 15) C dM_write_8 (by decide) ?_
  refine mj_iand C dM_write_10 ?_
  refine mj_iload_n C dM_write_11 rfl ?_
  refine mj_iast (t0 := 0) C e_m_prints rfl h.1 s_m_prints dM_write_12 ?_
  have h := h.2 _ rfl
  refine mj_aload_n C dM_write_13 rfl ?_
  refine mj_aload_n C dM_write_14 rfl ?_
  refine mj_getI C inM_all rfl e_Model 22 (by decide) l_M_139 rfl dM_write_15 ?_
  refine mj_iconst (a := 1) C dM_write_18 (by decide) ?_
  refine mj_iadd C dM_write_19 ?_
  refine mj_put C inM_all rfl tyM okM nmM e_Model 22 (by decide) l_M_139 rfl (by decide +kernel) (Nat.le_of_ble_eq_true rfl) s_Model_22 dM_write_20 ?_
  have h := h _ rfl
  exact mj_vret C Z dM_write_23 ⟨_, rfl, rfl, h⟩
/-! GrantKernelModel.say -/
def wM_say_40 (x1 : Int32) (y0 : Int32) (y1 : Int32)  (k : mj_St) (Q : mj_St → Prop)  : Prop := vp_in y1 6 ∧ (mj_bz y0 ∧ (∀ k4 : mj_St, k4 = mj_up k 13 y1.toNatClampNeg y0 → (vp_in ((8 * x1) + (k4 0 25)) 48 ∧ (vp_in x1 6 ∧ (∀ k5 : mj_St, k5 = mj_up k4 14 x1.toNatClampNeg (k4 8 ((8 * x1) + (k4 0 25)).toNatClampNeg) → (Q k5))))))
set_option maxRecDepth 100000 in
set_option maxHeartbeats 4000000 in
theorem uM_say_40 {E : mj_E} {r : mj_R} {mm : mj_St} {Q : mj_St → Prop} (hok : mj_Ok (mk_v E)) (C : mj_Cx (mk_v E) r cM_say 2 RM mj_all { frames := 0, cells := 0, slots := 0, locals := 0 }) (Z : mj_Cr (mk_v E) r none (mj_vM mm Q)) {x1 : Int32} {y0 : Int32} {y1 : Int32} {k : mj_St}   (h : wM_say_40 x1 y0 y1 k Q) : mj_G (mk_v E) r 40 [(0, .ref 34), (1, .int x1)] [.int y0, .int y1, .ref 47] (mm, k) := by
  unfold wM_say_40 at h
  refine mj_zast (t0 := 1) C e_m_grants rfl h.1 h.2.1 s_m_grants dM_say_40 ?_
  have h := h.2.2 _ rfl
  refine mj_aload_n C dM_say_41 rfl ?_
  refine mj_getR C inM_all rfl e_Model 16 (by decide) l_M_50 rfl dM_say_42 ?_
  refine mj_iload_n C dM_say_45 rfl ?_
  refine mj_aload_n C dM_say_46 rfl ?_
  refine mj_getR C inM_all rfl e_Model 8 (by decide) l_M_31 rfl dM_say_47 ?_
  refine mj_bipush (a := 8) C dM_say_50 (by decide) ?_
  refine mj_iload_n C dM_say_52 rfl ?_
  refine mj_imul C dM_say_53 ?_
  refine mj_aload_n C dM_say_54 rfl ?_
  refine mj_getI C inM_all rfl e_Model 25 (by decide) l_M_113 rfl dM_say_55 ?_
  refine mj_iadd C dM_say_58 ?_
  refine mj_iald (t0 := 0) C e_m_registers rfl h.1 dM_say_59 ?_
  have h := h.2
  refine mj_iast (t0 := 0) C e_m_words rfl h.1 s_m_words dM_say_60 ?_
  have h := h.2 _ rfl
  exact mj_vret C Z dM_say_61 ⟨_, rfl, rfl, h⟩
def wM_say (p0 : Int32) (k : mj_St) (Q : mj_St → Prop) : Prop := vp_in p0 6 ∧ (∀ k1 : mj_St, k1 = mj_up k 11 p0.toNatClampNeg (k 0 25) → (vp_in p0 6 ∧ (∀ k2 : mj_St, k2 = mj_up k1 12 p0.toNatClampNeg (k1 0 26) → (((¬ ((k2 0 27) &&& 1) = 1) → wM_say_40 p0 0 p0 k2 Q) ∧ ((((k2 0 27) &&& 1) = 1) → wM_say_40 p0 1 p0 k2 Q)))))
set_option maxRecDepth 100000 in
set_option maxHeartbeats 4000000 in
theorem qM_say {E : mj_E} (hok : mj_Ok (mk_v E)) {p0 : Int32} {k mm : mj_St} {Q : mj_St → Prop} (h : wM_say p0 k Q) : mj_Ct (mk_v E) yM_say (Cond.code yM_say cM_say 2 none :: mj_all) { frames := 0, cells := 0, slots := 0, locals := 0 } [.ref 34, .int p0] (mm, k) (mj_vM mm Q) := by
  refine mj_enterA (L := [(0, .ref 34), (1, .int p0)]) hok (by decide +kernel) ⟨rfl, rfl⟩ (fun _ => Nat.le_of_ble_eq_true rfl) rfl (fun r C Z => ?_)
  unfold wM_say at h
  refine mj_aload_n C dM_say_0 rfl ?_
  refine mj_getR C inM_all rfl e_Model 13 (by decide) l_M_40 rfl dM_say_1 ?_
  refine mj_iload_n C dM_say_4 rfl ?_
  refine mj_aload_n C dM_say_5 rfl ?_
  refine mj_getI C inM_all rfl e_Model 25 (by decide) l_M_113 rfl dM_say_6 ?_
  refine mj_iast (t0 := 0) C e_m_saidB rfl h.1 s_m_saidB dM_say_9 ?_
  have h := h.2 _ rfl
  refine mj_aload_n C dM_say_10 rfl ?_
  refine mj_getR C inM_all rfl e_Model 14 (by decide) l_M_43 rfl dM_say_11 ?_
  refine mj_iload_n C dM_say_14 rfl ?_
  refine mj_aload_n C dM_say_15 rfl ?_
  refine mj_getI C inM_all rfl e_Model 26 (by decide) l_M_116 rfl dM_say_16 ?_
  refine mj_iast (t0 := 0) C e_m_saidC rfl h.1 s_m_saidC dM_say_19 ?_
  have h := h.2 _ rfl
  refine mj_aload_n C dM_say_20 rfl ?_
  refine mj_getR C inM_all rfl e_Model 15 (by decide) l_M_46 rfl dM_say_21 ?_
  refine mj_iload_n C dM_say_24 rfl ?_
  refine mj_aload_n C dM_say_25 rfl ?_
  refine mj_getI C inM_all rfl e_Model 27 (by decide) l_M_119 rfl dM_say_26 ?_
  refine mj_iconst (a := 1) C dM_say_29 (by decide) ?_
  refine mj_iand C dM_say_30 ?_
  refine mj_iconst (a := 1) C dM_say_31 (by decide) ?_
  refine mj_icmp_ne (tgt := 39) C dM_say_32 (by decide) (fun c3 => ?_) (fun c3 => ?_)
  · have h := h.1 c3
    refine mj_iconst (a := 0) C dM_say_39 (by decide) ?_
    exact mj_sub2 (uM_say_40 hok C Z  h) ⟨rfl, rfl, trivial⟩
  · have h := h.2 c3
    refine mj_iconst (a := 1) C dM_say_35 (by decide) ?_
    refine mj_goto (tgt := 40) C dM_say_36 (by decide) ?_
    exact mj_sub2 (uM_say_40 hok C Z  h) ⟨rfl, rfl, trivial⟩
/-! GrantKernelModel.firstAt -/
def wM_firstAt (p0 : Int32) (p1 : Int32) (k : mj_St) (Q : Int32 → Prop) : Prop := wM_at p0 0 k (fun a1 => (((a1 < 0) → Q (-1)) ∧ ((¬ a1 < 0) → vp_in a1 6 ∧ (((¬ (k 2 a1.toNatClampNeg) = p1) → Q (-1)) ∧ (((k 2 a1.toNatClampNeg) = p1) → Q a1)))))
set_option maxRecDepth 100000 in
set_option maxHeartbeats 4000000 in
theorem qM_firstAt {E : mj_E} (hok : mj_Ok (mk_v E)) {p0 : Int32} {p1 : Int32} {k mm : mj_St} {Q : Int32 → Prop} (h : wM_firstAt p0 p1 k Q) : mj_Ct (mk_v E) yM_firstAt (Cond.code yM_firstAt cM_firstAt 4 (some .int) :: mj_all) { frames := 2, cells := 0, slots := 0, locals := 48 } [.ref 34, .int p0, .int p1] (mm, k) (mj_iR (mm, k) Q) := by
  refine mj_enterA (L := [(0, .ref 34), (1, .int p0), (2, .int p1)]) hok (by decide +kernel) ⟨rfl, rfl⟩ (fun _ => Nat.le_of_ble_eq_true rfl) rfl (fun r C Z => ?_)
  unfold wM_firstAt at h
  refine mj_aload_n C dM_firstAt_0 rfl ?_
  refine mj_iload_n C dM_firstAt_1 rfl ?_
  refine mj_iconst (a := 0) C dM_firstAt_2 (by decide) ?_
  refine mj_callV_iR C (qM_at hok h) (g_M_at l_M_90) rfl e_Model z_M_at ⟨Nat.le_of_ble_eq_true rfl, Nat.le_of_ble_eq_true rfl, rfl, rfl⟩ rfl rfl (Nat.le_of_ble_eq_true rfl) dM_firstAt_3 (fun a1 h => ?_)
  refine mj_istore_n C dM_firstAt_6 (by decide) rfl ?_
  refine mj_iload_n C dM_firstAt_7 rfl ?_
  refine mj_if_lt (tgt := 25) C dM_firstAt_8 (by decide) (fun c2 => ?_) (fun c2 => ?_)
  · have h := h.1 c2
    refine mj_iconst (a := (-1)) C dM_firstAt_25 (by decide) ?_
    exact mj_iret C Z dM_firstAt_26 ⟨_, rfl, rfl, h⟩
  · have h := h.2 c2
    refine mj_aload_n C dM_firstAt_11 rfl ?_
    refine mj_getR C inM_all rfl e_Model 2 (by decide) l_M_13 rfl dM_firstAt_12 ?_
    refine mj_iload_n C dM_firstAt_15 rfl ?_
    refine mj_iald (t0 := 0) C e_m_states rfl h.1 dM_firstAt_16 ?_
    have h := h.2
    refine mj_iload_n C dM_firstAt_17 rfl ?_
    refine mj_icmp_ne (tgt := 25) C dM_firstAt_18 (by decide) (fun c3 => ?_) (fun c3 => ?_)
    · have h := h.1 c3
      refine mj_iconst (a := (-1)) C dM_firstAt_25 (by decide) ?_
      exact mj_iret C Z dM_firstAt_26 ⟨_, rfl, rfl, h⟩
    · have h := h.2 c3
      refine mj_iload_n C dM_firstAt_21 rfl ?_
      refine mj_goto (tgt := 26) C dM_firstAt_22 (by decide) ?_
      exact mj_iret C Z dM_firstAt_26 ⟨_, rfl, rfl, h⟩
/-! GrantKernelModel.queue -/
def wM_queue (p0 : Int32) (p1 : Int32) (p2 : Int32) (k : mj_St) (Q : mj_St → Prop) : Prop := vp_in p0 6 ∧ (∀ k1 : mj_St, k1 = mj_up k 2 p0.toNatClampNeg p2 → (vp_in p0 6 ∧ (∀ k2 : mj_St, k2 = mj_up k1 10 p0.toNatClampNeg p1 → (wM_draw p0 k2 (fun k3 => (Q k3))))))
set_option maxRecDepth 100000 in
set_option maxHeartbeats 4000000 in
theorem qM_queue {E : mj_E} (hok : mj_Ok (mk_v E)) {p0 : Int32} {p1 : Int32} {p2 : Int32} {k mm : mj_St} {Q : mj_St → Prop} (h : wM_queue p0 p1 p2 k Q) : mj_Ct (mk_v E) yM_queue (Cond.code yM_queue cM_queue 4 none :: mj_all) { frames := 1, cells := 0, slots := 0, locals := 21 } [.ref 34, .int p0, .int p1, .int p2] (mm, k) (mj_vM mm Q) := by
  refine mj_enterA (L := [(0, .ref 34), (1, .int p0), (2, .int p1), (3, .int p2)]) hok (by decide +kernel) ⟨rfl, rfl⟩ (fun _ => Nat.le_of_ble_eq_true rfl) rfl (fun r C Z => ?_)
  unfold wM_queue at h
  refine mj_aload_n C dM_queue_0 rfl ?_
  refine mj_getR C inM_all rfl e_Model 2 (by decide) l_M_13 rfl dM_queue_1 ?_
  refine mj_iload_n C dM_queue_4 rfl ?_
  refine mj_iload_n C dM_queue_5 rfl ?_
  refine mj_iast (t0 := 0) C e_m_states rfl h.1 s_m_states dM_queue_6 ?_
  have h := h.2 _ rfl
  refine mj_aload_n C dM_queue_7 rfl ?_
  refine mj_getR C inM_all rfl e_Model 10 (by decide) l_M_37 rfl dM_queue_8 ?_
  refine mj_iload_n C dM_queue_11 rfl ?_
  refine mj_iload_n C dM_queue_12 rfl ?_
  refine mj_iast (t0 := 0) C e_m_places rfl h.1 s_m_places dM_queue_13 ?_
  have h := h.2 _ rfl
  refine mj_aload_n C dM_queue_14 rfl ?_
  refine mj_iload_n C dM_queue_15 rfl ?_
  refine mj_callV_vWM C (qM_draw hok h) (g_M_draw l_M_82) rfl e_Model z_M_draw ⟨Nat.le_of_ble_eq_true rfl, Nat.le_of_ble_eq_true rfl, rfl, rfl⟩ rfl rfl (Nat.le_of_ble_eq_true rfl) dM_queue_16 (fun k3 h => ?_)
  exact mj_vret C Z dM_queue_19 ⟨_, rfl, rfl, h⟩
/-! GrantKernelModel.place -/
def wM_place (p0 : Int32) (p1 : Int32) (p2 : Int32) (k : mj_St) (Q : mj_St → Prop) : Prop := vp_in p1 48 ∧ (vp_in p0 48 ∧ (∀ k1 : mj_St, k1 = mj_up k 16 p0.toNatClampNeg (k 16 p1.toNatClampNeg) → (vp_in p1 48 ∧ (vp_in p0 48 ∧ (∀ k2 : mj_St, k2 = mj_up k1 17 p0.toNatClampNeg (k1 17 p1.toNatClampNeg) → (vp_in p0 48 ∧ (∀ k3 : mj_St, k3 = mj_up k2 18 p0.toNatClampNeg p2 → (vp_in p0 48 ∧ (∀ k4 : mj_St, k4 = mj_up k3 19 p0.toNatClampNeg p1 → (Q k4))))))))))
set_option maxRecDepth 100000 in
set_option maxHeartbeats 4000000 in
theorem qM_place {E : mj_E} (hok : mj_Ok (mk_v E)) {p0 : Int32} {p1 : Int32} {p2 : Int32} {k mm : mj_St} {Q : mj_St → Prop} (h : wM_place p0 p1 p2 k Q) : mj_Ct (mk_v E) yM_place (Cond.code yM_place cM_place 4 none :: mj_all) { frames := 0, cells := 0, slots := 0, locals := 0 } [.ref 34, .int p0, .int p1, .int p2] (mm, k) (mj_vM mm Q) := by
  refine mj_enterA (L := [(0, .ref 34), (1, .int p0), (2, .int p1), (3, .int p2)]) hok (by decide +kernel) ⟨rfl, rfl⟩ (fun _ => Nat.le_of_ble_eq_true rfl) rfl (fun r C Z => ?_)
  unfold wM_place at h
  refine mj_aload_n C dM_place_0 rfl ?_
  refine mj_getR C inM_all rfl e_Model 18 (by decide) l_M_56 rfl dM_place_1 ?_
  refine mj_iload_n C dM_place_4 rfl ?_
  refine mj_aload_n C dM_place_5 rfl ?_
  refine mj_getR C inM_all rfl e_Model 18 (by decide) l_M_56 rfl dM_place_6 ?_
  refine mj_iload_n C dM_place_9 rfl ?_
  refine mj_iald (t0 := 0) C e_m_kinds rfl h.1 dM_place_10 ?_
  have h := h.2
  refine mj_iast (t0 := 0) C e_m_kinds rfl h.1 s_m_kinds dM_place_11 ?_
  have h := h.2 _ rfl
  refine mj_aload_n C dM_place_12 rfl ?_
  refine mj_getR C inM_all rfl e_Model 19 (by decide) l_M_59 rfl dM_place_13 ?_
  refine mj_iload_n C dM_place_16 rfl ?_
  refine mj_aload_n C dM_place_17 rfl ?_
  refine mj_getR C inM_all rfl e_Model 19 (by decide) l_M_59 rfl dM_place_18 ?_
  refine mj_iload_n C dM_place_21 rfl ?_
  refine mj_iald (t0 := 0) C e_m_objects rfl h.1 dM_place_22 ?_
  have h := h.2
  refine mj_iast (t0 := 0) C e_m_objects rfl h.1 s_m_objects dM_place_23 ?_
  have h := h.2 _ rfl
  refine mj_aload_n C dM_place_24 rfl ?_
  refine mj_getR C inM_all rfl e_Model 20 (by decide) l_M_62 rfl dM_place_25 ?_
  refine mj_iload_n C dM_place_28 rfl ?_
  refine mj_iload_n C dM_place_29 rfl ?_
  refine mj_iast (t0 := 0) C e_m_rights rfl h.1 s_m_rights dM_place_30 ?_
  have h := h.2 _ rfl
  refine mj_aload_n C dM_place_31 rfl ?_
  refine mj_getR C inM_all rfl e_Model 21 (by decide) l_M_65 rfl dM_place_32 ?_
  refine mj_iload_n C dM_place_35 rfl ?_
  refine mj_iload_n C dM_place_36 rfl ?_
  refine mj_iast (t0 := 0) C e_m_parents rfl h.1 s_m_parents dM_place_37 ?_
  have h := h.2 _ rfl
  exact mj_vret C Z dM_place_38 ⟨_, rfl, rfl, h⟩
/-! GrantKernelModel.pass -/
def wM_pass_121 (x1 : Int32) (x2 : Int32) (y0 : Int32) (y1 : Int32)  (k : mj_St) (Q : mj_St → Prop)  : Prop := vp_in y1 48 ∧ (∀ k7 : mj_St, k7 = mj_up k 8 y1.toNatClampNeg y0 → (vp_in x1 6 ∧ ((((k7 15 x1.toNatClampNeg) = 0) → Q k7) ∧ ((¬ (k7 15 x1.toNatClampNeg) = 0) → vp_in x2 6 ∧ (∀ k9 : mj_St, k9 = mj_up k7 7 x2.toNatClampNeg x1 → (Q k9))))))
set_option maxRecDepth 100000 in
set_option maxHeartbeats 4000000 in
theorem uM_pass_121 {E : mj_E} {r : mj_R} {mm : mj_St} {Q : mj_St → Prop} (hok : mj_Ok (mk_v E)) (C : mj_Cx (mk_v E) r cM_pass 6 RM mj_all { frames := 1, cells := 0, slots := 0, locals := 23 }) (Z : mj_Cr (mk_v E) r none (mj_vM mm Q)) {x1 : Int32} {x2 : Int32} {y0 : Int32} {y1 : Int32} {k : mj_St}   (h : wM_pass_121 x1 x2 y0 y1 k Q) : mj_G (mk_v E) r 121 [(0, .ref 34), (1, .int x1), (2, .int x2)] [.int y0, .int y1, .ref 42] (mm, k) := by
  unfold wM_pass_121 at h
  refine mj_iast (t0 := 0) C e_m_registers rfl h.1 s_m_registers dM_pass_121 ?_
  have h := h.2 _ rfl
  refine mj_aload_n C dM_pass_122 rfl ?_
  refine mj_getR C inM_all rfl e_Model 17 (by decide) l_M_53 rfl dM_pass_123 ?_
  refine mj_iload_n C dM_pass_126 rfl ?_
  refine mj_zald (t0 := 1) C e_m_calls rfl h.1 dM_pass_127 ?_
  have h := h.2
  refine mj_if_eq (tgt := 138) C dM_pass_128 (by decide) (fun c8 => ?_) (fun c8 => ?_)
  · have h := h.1 c8
    exact mj_vret C Z dM_pass_138 ⟨_, rfl, rfl, h⟩
  · have h := h.2 c8
    refine mj_aload_n C dM_pass_131 rfl ?_
    refine mj_getR C inM_all rfl e_Model 7 (by decide) l_M_28 rfl dM_pass_132 ?_
    refine mj_iload_n C dM_pass_135 rfl ?_
    refine mj_iload_n C dM_pass_136 rfl ?_
    refine mj_iast (t0 := 0) C e_m_callers rfl h.1 s_m_callers dM_pass_137 ?_
    have h := h.2 _ rfl
    exact mj_vret C Z dM_pass_138 ⟨_, rfl, rfl, h⟩
def wM_pass_100 (x1 : Int32) (x2 : Int32) (x5 : Int32)  (k : mj_St) (Q : mj_St → Prop)  : Prop := ((x5 = 0) → wM_pass_121 x1 x2 0 ((8 * x2) + 7) k Q) ∧ ((¬ x5 = 0) → wM_pass_121 x1 x2 1 ((8 * x2) + 7) k Q)
set_option maxRecDepth 100000 in
set_option maxHeartbeats 4000000 in
theorem uM_pass_100 {E : mj_E} {r : mj_R} {mm : mj_St} {Q : mj_St → Prop} (hok : mj_Ok (mk_v E)) (C : mj_Cx (mk_v E) r cM_pass 6 RM mj_all { frames := 1, cells := 0, slots := 0, locals := 23 }) (Z : mj_Cr (mk_v E) r none (mj_vM mm Q)) {x1 : Int32} {x2 : Int32} {x5 : Int32} {k : mj_St}   (h : wM_pass_100 x1 x2 x5 k Q) : mj_G (mk_v E) r 100 [(0, .ref 34), (1, .int x1), (2, .int x2), (5, .int x5)] [] (mm, k) := by
  unfold wM_pass_100 at h
  refine mj_aload_n C dM_pass_100 rfl ?_
  refine mj_getR C inM_all rfl e_Model 8 (by decide) l_M_31 rfl dM_pass_101 ?_
  refine mj_bipush (a := 8) C dM_pass_104 (by decide) ?_
  refine mj_iload_n C dM_pass_106 rfl ?_
  refine mj_imul C dM_pass_107 ?_
  refine mj_bipush (a := 7) C dM_pass_108 (by decide) ?_
  refine mj_iadd C dM_pass_110 ?_
  refine mj_iload C dM_pass_111 rfl ?_
  refine mj_if_eq (tgt := 120) C dM_pass_113 (by decide) (fun c6 => ?_) (fun c6 => ?_)
  · have h := h.1 c6
    refine mj_iconst (a := 0) C dM_pass_120 (by decide) ?_
    exact mj_sub2 (uM_pass_121 hok C Z  h) ⟨rfl, rfl, rfl, trivial⟩
  · have h := h.2 c6
    refine mj_iconst (a := 1) C dM_pass_116 (by decide) ?_
    refine mj_goto (tgt := 121) C dM_pass_117 (by decide) ?_
    exact mj_sub2 (uM_pass_121 hok C Z  h) ⟨rfl, rfl, rfl, trivial⟩
def wM_pass_80 (x1 : Int32) (x2 : Int32) (x3 : Int32) (x4 : Int32) (y0 : Int32)  (k : mj_St) (Q : mj_St → Prop)  : Prop := ((y0 = 0) → wM_pass_100 x1 x2 y0 k Q) ∧ ((¬ y0 = 0) → vp_in x3 48 ∧ (wM_place x4 x3 (k 18 x3.toNatClampNeg) k (fun k10 => (wM_pass_100 x1 x2 y0 k10 Q))))
set_option maxRecDepth 100000 in
set_option maxHeartbeats 4000000 in
theorem uM_pass_80 {E : mj_E} {r : mj_R} {mm : mj_St} {Q : mj_St → Prop} (hok : mj_Ok (mk_v E)) (C : mj_Cx (mk_v E) r cM_pass 6 RM mj_all { frames := 1, cells := 0, slots := 0, locals := 23 }) (Z : mj_Cr (mk_v E) r none (mj_vM mm Q)) {x1 : Int32} {x2 : Int32} {x3 : Int32} {x4 : Int32} {y0 : Int32} {k : mj_St}   (h : wM_pass_80 x1 x2 x3 x4 y0 k Q) : mj_G (mk_v E) r 80 [(0, .ref 34), (1, .int x1), (2, .int x2), (3, .int x3), (4, .int x4)] [.int y0] (mm, k) := by
  unfold wM_pass_80 at h
  refine mj_istore C dM_pass_80 (by decide) rfl ?_
  refine mj_iload C dM_pass_82 rfl ?_
  refine mj_if_eq (tgt := 100) C dM_pass_84 (by decide) (fun c5 => ?_) (fun c5 => ?_)
  · have h := h.1 c5
    exact mj_sub2 (uM_pass_100 hok C Z  h) ⟨rfl, rfl, rfl, rfl, trivial⟩
  · have h := h.2 c5
    refine mj_aload_n C dM_pass_87 rfl ?_
    refine mj_iload C dM_pass_88 rfl ?_
    refine mj_iload_n C dM_pass_90 rfl ?_
    refine mj_aload_n C dM_pass_91 rfl ?_
    refine mj_getR C inM_all rfl e_Model 20 (by decide) l_M_62 rfl dM_pass_92 ?_
    refine mj_iload_n C dM_pass_95 rfl ?_
    refine mj_iald (t0 := 0) C e_m_rights rfl h.1 dM_pass_96 ?_
    have h := h.2
    refine mj_callV_vWM C (qM_place hok h) (g_M_place l_M_122) rfl e_Model z_M_place ⟨Nat.le_of_ble_eq_true rfl, Nat.le_of_ble_eq_true rfl, rfl, rfl⟩ rfl rfl (Nat.le_of_ble_eq_true rfl) dM_pass_97 (fun k10 h => ?_)
    exact mj_sub2 (uM_pass_100 hok C Z  h) ⟨rfl, rfl, rfl, rfl, trivial⟩
def wM_pass_79 (x1 : Int32) (x2 : Int32) (x3 : Int32) (x4 : Int32)  (k : mj_St) (Q : mj_St → Prop)  : Prop := wM_pass_80 x1 x2 x3 x4 0 k Q
set_option maxRecDepth 100000 in
set_option maxHeartbeats 4000000 in
theorem uM_pass_79 {E : mj_E} {r : mj_R} {mm : mj_St} {Q : mj_St → Prop} (hok : mj_Ok (mk_v E)) (C : mj_Cx (mk_v E) r cM_pass 6 RM mj_all { frames := 1, cells := 0, slots := 0, locals := 23 }) (Z : mj_Cr (mk_v E) r none (mj_vM mm Q)) {x1 : Int32} {x2 : Int32} {x3 : Int32} {x4 : Int32} {k : mj_St}   (h : wM_pass_79 x1 x2 x3 x4 k Q) : mj_G (mk_v E) r 79 [(0, .ref 34), (1, .int x1), (2, .int x2), (3, .int x3), (4, .int x4)] [] (mm, k) := by
  unfold wM_pass_79 at h
  refine mj_iconst (a := 0) C dM_pass_79 (by decide) ?_
  exact mj_sub2 (uM_pass_80 hok C Z  h) ⟨rfl, rfl, rfl, rfl, rfl, trivial⟩
def wM_pass (p0 : Int32) (p1 : Int32) (k : mj_St) (Q : mj_St → Prop) : Prop := vp_in p1 6 ∧ (vp_in p0 6 ∧ (vp_in ((8 * p1) + (k 11 p1.toNatClampNeg)) 48 ∧ (∀ k1 : mj_St, k1 = mj_up k 8 ((8 * p1) + (k 11 p1.toNatClampNeg)).toNatClampNeg (k 14 p0.toNatClampNeg) → (vp_in p0 6 ∧ (∀ a2 : Int32, a2 = (8 * p0) + (k1 12 p0.toNatClampNeg) → (vp_in p1 6 ∧ (∀ a3 : Int32, a3 = (8 * p1) + (k1 12 p1.toNatClampNeg) → (vp_in p0 6 ∧ ((((k1 13 p0.toNatClampNeg) = 0) → wM_pass_79 p0 p1 a2 a3 k1 Q) ∧ ((¬ (k1 13 p0.toNatClampNeg) = 0) → vp_in a2 48 ∧ ((((k1 16 a2.toNatClampNeg) = 0) → wM_pass_79 p0 p1 a2 a3 k1 Q) ∧ ((¬ (k1 16 a2.toNatClampNeg) = 0) → vp_in a3 48 ∧ (((¬ (k1 16 a3.toNatClampNeg) = 0) → wM_pass_79 p0 p1 a2 a3 k1 Q) ∧ (((k1 16 a3.toNatClampNeg) = 0) → wM_pass_80 p0 p1 a2 a3 1 k1 Q))))))))))))))
set_option maxRecDepth 100000 in
set_option maxHeartbeats 4000000 in
theorem qM_pass {E : mj_E} (hok : mj_Ok (mk_v E)) {p0 : Int32} {p1 : Int32} {k mm : mj_St} {Q : mj_St → Prop} (h : wM_pass p0 p1 k Q) : mj_Ct (mk_v E) yM_pass (Cond.code yM_pass cM_pass 6 none :: mj_all) { frames := 1, cells := 0, slots := 0, locals := 23 } [.ref 34, .int p0, .int p1] (mm, k) (mj_vM mm Q) := by
  refine mj_enterA (L := [(0, .ref 34), (1, .int p0), (2, .int p1)]) hok (by decide +kernel) ⟨rfl, rfl⟩ (fun _ => Nat.le_of_ble_eq_true rfl) rfl (fun r C Z => ?_)
  unfold wM_pass at h
  refine mj_aload_n C dM_pass_0 rfl ?_
  refine mj_getR C inM_all rfl e_Model 8 (by decide) l_M_31 rfl dM_pass_1 ?_
  refine mj_bipush (a := 8) C dM_pass_4 (by decide) ?_
  refine mj_iload_n C dM_pass_6 rfl ?_
  refine mj_imul C dM_pass_7 ?_
  refine mj_aload_n C dM_pass_8 rfl ?_
  refine mj_getR C inM_all rfl e_Model 13 (by decide) l_M_40 rfl dM_pass_9 ?_
  refine mj_iload_n C dM_pass_12 rfl ?_
  refine mj_iald (t0 := 0) C e_m_saidB rfl h.1 dM_pass_13 ?_
  have h := h.2
  refine mj_iadd C dM_pass_14 ?_
  refine mj_aload_n C dM_pass_15 rfl ?_
  refine mj_getR C inM_all rfl e_Model 16 (by decide) l_M_50 rfl dM_pass_16 ?_
  refine mj_iload_n C dM_pass_19 rfl ?_
  refine mj_iald (t0 := 0) C e_m_words rfl h.1 dM_pass_20 ?_
  have h := h.2
  refine mj_iast (t0 := 0) C e_m_registers rfl h.1 s_m_registers dM_pass_21 ?_
  have h := h.2 _ rfl
  refine mj_bipush (a := 8) C dM_pass_22 (by decide) ?_
  refine mj_iload_n C dM_pass_24 rfl ?_
  refine mj_imul C dM_pass_25 ?_
  refine mj_aload_n C dM_pass_26 rfl ?_
  refine mj_getR C inM_all rfl e_Model 14 (by decide) l_M_43 rfl dM_pass_27 ?_
  refine mj_iload_n C dM_pass_30 rfl ?_
  refine mj_iald (t0 := 0) C e_m_saidC rfl h.1 dM_pass_31 ?_
  have h := h.2
  refine mj_iadd C dM_pass_32 ?_
  refine mj_istore_n C dM_pass_33 (by decide) rfl ?_
  have h := h _ rfl
  refine mj_bipush (a := 8) C dM_pass_34 (by decide) ?_
  refine mj_iload_n C dM_pass_36 rfl ?_
  refine mj_imul C dM_pass_37 ?_
  refine mj_aload_n C dM_pass_38 rfl ?_
  refine mj_getR C inM_all rfl e_Model 14 (by decide) l_M_43 rfl dM_pass_39 ?_
  refine mj_iload_n C dM_pass_42 rfl ?_
  refine mj_iald (t0 := 0) C e_m_saidC rfl h.1 dM_pass_43 ?_
  have h := h.2
  refine mj_iadd C dM_pass_44 ?_
  refine mj_istore C dM_pass_45 (by decide) rfl ?_
  have h := h _ rfl
  refine mj_aload_n C dM_pass_47 rfl ?_
  refine mj_getR C inM_all rfl e_Model 15 (by decide) l_M_46 rfl dM_pass_48 ?_
  refine mj_iload_n C dM_pass_51 rfl ?_
  refine mj_zald (t0 := 1) C e_m_grants rfl h.1 dM_pass_52 ?_
  have h := h.2
  refine mj_if_eq (tgt := 79) C dM_pass_53 (by decide) (fun c4 => ?_) (fun c4 => ?_)
  · have h := h.1 c4
    exact mj_sub2 (uM_pass_79 hok C Z  h) ⟨rfl, rfl, rfl, rfl, rfl, trivial⟩
  · have h := h.2 c4
    refine mj_aload_n C dM_pass_56 rfl ?_
    refine mj_getR C inM_all rfl e_Model 18 (by decide) l_M_56 rfl dM_pass_57 ?_
    refine mj_iload_n C dM_pass_60 rfl ?_
    refine mj_iald (t0 := 0) C e_m_kinds rfl h.1 dM_pass_61 ?_
    have h := h.2
    refine mj_if_eq (tgt := 79) C dM_pass_62 (by decide) (fun c11 => ?_) (fun c11 => ?_)
    · have h := h.1 c11
      exact mj_sub2 (uM_pass_79 hok C Z  h) ⟨rfl, rfl, rfl, rfl, rfl, trivial⟩
    · have h := h.2 c11
      refine mj_aload_n C dM_pass_65 rfl ?_
      refine mj_getR C inM_all rfl e_Model 18 (by decide) l_M_56 rfl dM_pass_66 ?_
      refine mj_iload C dM_pass_69 rfl ?_
      refine mj_iald (t0 := 0) C e_m_kinds rfl h.1 dM_pass_71 ?_
      have h := h.2
      refine mj_if_ne (tgt := 79) C dM_pass_72 (by decide) (fun c12 => ?_) (fun c12 => ?_)
      · have h := h.1 c12
        exact mj_sub2 (uM_pass_79 hok C Z  h) ⟨rfl, rfl, rfl, rfl, rfl, trivial⟩
      · have h := h.2 c12
        refine mj_iconst (a := 1) C dM_pass_75 (by decide) ?_
        refine mj_goto (tgt := 80) C dM_pass_76 (by decide) ?_
        exact mj_sub2 (uM_pass_80 hok C Z  h) ⟨rfl, rfl, rfl, rfl, rfl, trivial⟩
/-! GrantKernelModel.send -/
def wM_send (p0 : Int32) (p1 : Int32) (p2 : Int32) (k : mj_St) (Q : mj_St → Prop) : Prop := wM_say p0 k (fun k1 => (vp_in p0 6 ∧ (mj_bz p2 ∧ (∀ k2 : mj_St, k2 = mj_up k1 15 p0.toNatClampNeg p2 → (wM_firstAt p1 4 k2 (fun a3 => (((0 ≤ a3) → wM_pass p0 a3 k2 (fun k5 => (wM_makeReady a3 k5 (fun k6 => (((p2 = 0) → vp_in p0 6 ∧ (∀ k8 : mj_St, k8 = mj_up k6 2 p0.toNatClampNeg 1 → (Q k8))) ∧ ((¬ p2 = 0) → vp_in p0 6 ∧ (∀ k9 : mj_St, k9 = mj_up k6 2 p0.toNatClampNeg 3 → (Q k9)))))))) ∧ ((¬ 0 ≤ a3) → wM_queue p0 p1 2 k2 (fun k10 => (Q k10))))))))))
set_option maxRecDepth 100000 in
set_option maxHeartbeats 4000000 in
theorem qM_send {E : mj_E} (hok : mj_Ok (mk_v E)) {p0 : Int32} {p1 : Int32} {p2 : Int32} {k mm : mj_St} {Q : mj_St → Prop} (h : wM_send p0 p1 p2 k Q) : mj_Ct (mk_v E) yM_send (Cond.code yM_send cM_send 5 none :: mj_all) { frames := 3, cells := 0, slots := 0, locals := 71 } [.ref 34, .int p0, .int p1, .int p2] (mm, k) (mj_vM mm Q) := by
  refine mj_enterA (L := [(0, .ref 34), (1, .int p0), (2, .int p1), (3, .int p2)]) hok (by decide +kernel) ⟨rfl, rfl⟩ (fun _ => Nat.le_of_ble_eq_true rfl) rfl (fun r C Z => ?_)
  unfold wM_send at h
  refine mj_aload_n C dM_send_0 rfl ?_
  refine mj_iload_n C dM_send_1 rfl ?_
  refine mj_callV_vWM C (qM_say hok h) (g_M_say l_M_126) rfl e_Model z_M_say ⟨Nat.le_of_ble_eq_true rfl, Nat.le_of_ble_eq_true rfl, rfl, rfl⟩ rfl rfl (Nat.le_of_ble_eq_true rfl) dM_send_2 (fun k1 h => ?_)
  refine mj_aload_n C dM_send_5 rfl ?_
  refine mj_getR C inM_all rfl e_Model 17 (by decide) l_M_53 rfl dM_send_6 ?_
  refine mj_iload_n C dM_send_9 rfl ?_
  refine mj_iload_n C dM_send_10 rfl ?_
  refine mj_zast (t0 := 1) C e_m_calls rfl h.1 h.2.1 s_m_calls dM_send_11 ?_
  have h := h.2.2 _ rfl
  refine mj_aload_n C dM_send_12 rfl ?_
  refine mj_iload_n C dM_send_13 rfl ?_
  refine mj_iconst (a := 4) C dM_send_14 (by decide) ?_
  refine mj_callV_iR C (qM_firstAt hok h) (g_M_firstAt l_M_129) rfl e_Model z_M_firstAt ⟨Nat.le_of_ble_eq_true rfl, Nat.le_of_ble_eq_true rfl, rfl, rfl⟩ rfl rfl (Nat.le_of_ble_eq_true rfl) dM_send_15 (fun a3 h => ?_)
  refine mj_istore C dM_send_18 (by decide) rfl ?_
  refine mj_iload C dM_send_20 rfl ?_
  refine mj_if_ge (tgt := 33) C dM_send_22 (by decide) (fun c4 => ?_) (fun c4 => ?_)
  · have h := h.1 c4
    refine mj_aload_n C dM_send_33 rfl ?_
    refine mj_iload_n C dM_send_34 rfl ?_
    refine mj_iload C dM_send_35 rfl ?_
    refine mj_callV_vWM C (qM_pass hok h) (g_M_pass l_M_135) rfl e_Model z_M_pass ⟨Nat.le_of_ble_eq_true rfl, Nat.le_of_ble_eq_true rfl, rfl, rfl⟩ rfl rfl (Nat.le_of_ble_eq_true rfl) dM_send_37 (fun k5 h => ?_)
    refine mj_aload_n C dM_send_40 rfl ?_
    refine mj_iload C dM_send_41 rfl ?_
    refine mj_callV_vWM C (qM_makeReady hok h) (g_M_makeReady l_M_101) rfl e_Model z_M_makeReady ⟨Nat.le_of_ble_eq_true rfl, Nat.le_of_ble_eq_true rfl, rfl, rfl⟩ rfl rfl (Nat.le_of_ble_eq_true rfl) dM_send_43 (fun k6 h => ?_)
    refine mj_aload_n C dM_send_46 rfl ?_
    refine mj_getR C inM_all rfl e_Model 2 (by decide) l_M_13 rfl dM_send_47 ?_
    refine mj_iload_n C dM_send_50 rfl ?_
    refine mj_iload_n C dM_send_51 rfl ?_
    refine mj_if_eq (tgt := 59) C dM_send_52 (by decide) (fun c7 => ?_) (fun c7 => ?_)
    · have h := h.1 c7
      refine mj_iconst (a := 1) C dM_send_59 (by decide) ?_
      refine mj_iast (t0 := 0) C e_m_states rfl h.1 s_m_states dM_send_60 ?_
      have h := h.2 _ rfl
      exact mj_vret C Z dM_send_61 ⟨_, rfl, rfl, h⟩
    · have h := h.2 c7
      refine mj_iconst (a := 3) C dM_send_55 (by decide) ?_
      refine mj_goto (tgt := 60) C dM_send_56 (by decide) ?_
      refine mj_iast (t0 := 0) C e_m_states rfl h.1 s_m_states dM_send_60 ?_
      have h := h.2 _ rfl
      exact mj_vret C Z dM_send_61 ⟨_, rfl, rfl, h⟩
  · have h := h.2 c4
    refine mj_aload_n C dM_send_25 rfl ?_
    refine mj_iload_n C dM_send_26 rfl ?_
    refine mj_iload_n C dM_send_27 rfl ?_
    refine mj_iconst (a := 2) C dM_send_28 (by decide) ?_
    refine mj_callV_vWM C (qM_queue hok h) (g_M_queue l_M_132) rfl e_Model z_M_queue ⟨Nat.le_of_ble_eq_true rfl, Nat.le_of_ble_eq_true rfl, rfl, rfl⟩ rfl rfl (Nat.le_of_ble_eq_true rfl) dM_send_29 (fun k10 h => ?_)
    exact mj_vret C Z dM_send_32 ⟨_, rfl, rfl, h⟩
/-! GrantKernelModel.receive -/
def wM_receive (p0 : Int32) (p1 : Int32) (k : mj_St) (Q : mj_St → Prop) : Prop := wM_say p0 k (fun k1 => (wM_firstAt p1 2 k1 (fun a2 => (((0 ≤ a2) → wM_pass a2 p0 k1 (fun k4 => (vp_in a2 6 ∧ ((((k4 15 a2.toNatClampNeg) = 0) → wM_makeReady a2 k4 (fun k6 => (Q k6))) ∧ ((¬ (k4 15 a2.toNatClampNeg) = 0) → vp_in a2 6 ∧ (∀ k7 : mj_St, k7 = mj_up k4 2 a2.toNatClampNeg 3 → (Q k7))))))) ∧ ((¬ 0 ≤ a2) → wM_queue p0 p1 4 k1 (fun k8 => (Q k8)))))))
set_option maxRecDepth 100000 in
set_option maxHeartbeats 4000000 in
theorem qM_receive {E : mj_E} (hok : mj_Ok (mk_v E)) {p0 : Int32} {p1 : Int32} {k mm : mj_St} {Q : mj_St → Prop} (h : wM_receive p0 p1 k Q) : mj_Ct (mk_v E) yM_receive (Cond.code yM_receive cM_receive 4 none :: mj_all) { frames := 3, cells := 0, slots := 0, locals := 71 } [.ref 34, .int p0, .int p1] (mm, k) (mj_vM mm Q) := by
  refine mj_enterA (L := [(0, .ref 34), (1, .int p0), (2, .int p1)]) hok (by decide +kernel) ⟨rfl, rfl⟩ (fun _ => Nat.le_of_ble_eq_true rfl) rfl (fun r C Z => ?_)
  unfold wM_receive at h
  refine mj_aload_n C dM_receive_0 rfl ?_
  refine mj_iload_n C dM_receive_1 rfl ?_
  refine mj_callV_vWM C (qM_say hok h) (g_M_say l_M_126) rfl e_Model z_M_say ⟨Nat.le_of_ble_eq_true rfl, Nat.le_of_ble_eq_true rfl, rfl, rfl⟩ rfl rfl (Nat.le_of_ble_eq_true rfl) dM_receive_2 (fun k1 h => ?_)
  refine mj_aload_n C dM_receive_5 rfl ?_
  refine mj_iload_n C dM_receive_6 rfl ?_
  refine mj_iconst (a := 2) C dM_receive_7 (by decide) ?_
  refine mj_callV_iR C (qM_firstAt hok h) (g_M_firstAt l_M_129) rfl e_Model z_M_firstAt ⟨Nat.le_of_ble_eq_true rfl, Nat.le_of_ble_eq_true rfl, rfl, rfl⟩ rfl rfl (Nat.le_of_ble_eq_true rfl) dM_receive_8 (fun a2 h => ?_)
  refine mj_istore_n C dM_receive_11 (by decide) rfl ?_
  refine mj_iload_n C dM_receive_12 rfl ?_
  refine mj_if_ge (tgt := 24) C dM_receive_13 (by decide) (fun c3 => ?_) (fun c3 => ?_)
  · have h := h.1 c3
    refine mj_aload_n C dM_receive_24 rfl ?_
    refine mj_iload_n C dM_receive_25 rfl ?_
    refine mj_iload_n C dM_receive_26 rfl ?_
    refine mj_callV_vWM C (qM_pass hok h) (g_M_pass l_M_135) rfl e_Model z_M_pass ⟨Nat.le_of_ble_eq_true rfl, Nat.le_of_ble_eq_true rfl, rfl, rfl⟩ rfl rfl (Nat.le_of_ble_eq_true rfl) dM_receive_27 (fun k4 h => ?_)
    refine mj_aload_n C dM_receive_30 rfl ?_
    refine mj_getR C inM_all rfl e_Model 17 (by decide) l_M_53 rfl dM_receive_31 ?_
    refine mj_iload_n C dM_receive_34 rfl ?_
    refine mj_zald (t0 := 1) C e_m_calls rfl h.1 dM_receive_35 ?_
    have h := h.2
    refine mj_if_eq (tgt := 49) C dM_receive_36 (by decide) (fun c5 => ?_) (fun c5 => ?_)
    · have h := h.1 c5
      refine mj_aload_n C dM_receive_49 rfl ?_
      refine mj_iload_n C dM_receive_50 rfl ?_
      refine mj_callV_vWM C (qM_makeReady hok h) (g_M_makeReady l_M_101) rfl e_Model z_M_makeReady ⟨Nat.le_of_ble_eq_true rfl, Nat.le_of_ble_eq_true rfl, rfl, rfl⟩ rfl rfl (Nat.le_of_ble_eq_true rfl) dM_receive_51 (fun k6 h => ?_)
      exact mj_vret C Z dM_receive_54 ⟨_, rfl, rfl, h⟩
    · have h := h.2 c5
      refine mj_aload_n C dM_receive_39 rfl ?_
      refine mj_getR C inM_all rfl e_Model 2 (by decide) l_M_13 rfl dM_receive_40 ?_
      refine mj_iload_n C dM_receive_43 rfl ?_
      refine mj_iconst (a := 3) C dM_receive_44 (by decide) ?_
      refine mj_iast (t0 := 0) C e_m_states rfl h.1 s_m_states dM_receive_45 ?_
      have h := h.2 _ rfl
      refine mj_goto (tgt := 54) C dM_receive_46 (by decide) ?_
      exact mj_vret C Z dM_receive_54 ⟨_, rfl, rfl, h⟩
  · have h := h.2 c3
    refine mj_aload_n C dM_receive_16 rfl ?_
    refine mj_iload_n C dM_receive_17 rfl ?_
    refine mj_iload_n C dM_receive_18 rfl ?_
    refine mj_iconst (a := 4) C dM_receive_19 (by decide) ?_
    refine mj_callV_vWM C (qM_queue hok h) (g_M_queue l_M_132) rfl e_Model z_M_queue ⟨Nat.le_of_ble_eq_true rfl, Nat.le_of_ble_eq_true rfl, rfl, rfl⟩ rfl rfl (Nat.le_of_ble_eq_true rfl) dM_receive_20 (fun k8 h => ?_)
    exact mj_vret C Z dM_receive_23 ⟨_, rfl, rfl, h⟩
/-! GrantKernelModel.answer -/
def wM_answer (p0 : Int32) (k : mj_St) (Q : mj_St → Prop) : Prop := vp_in p0 6 ∧ (∀ a1 : Int32, a1 = k 7 p0.toNatClampNeg → (((a1 < 0) → Q k) ∧ ((¬ a1 < 0) → vp_in a1 6 ∧ (vp_in ((8 * p0) + (k 0 25)) 48 ∧ (vp_in ((8 * a1) + (k 11 a1.toNatClampNeg)) 48 ∧ (∀ k3 : mj_St, k3 = mj_up k 8 ((8 * a1) + (k 11 a1.toNatClampNeg)).toNatClampNeg (k 8 ((8 * p0) + (k 0 25)).toNatClampNeg) → (wM_makeReady a1 k3 (fun k4 => (vp_in p0 6 ∧ (∀ k5 : mj_St, k5 = mj_up k4 7 p0.toNatClampNeg (-1) → (Q k5)))))))))))
set_option maxRecDepth 100000 in
set_option maxHeartbeats 4000000 in
theorem qM_answer {E : mj_E} (hok : mj_Ok (mk_v E)) {p0 : Int32} {k mm : mj_St} {Q : mj_St → Prop} (h : wM_answer p0 k Q) : mj_Ct (mk_v E) yM_answer (Cond.code yM_answer cM_answer 3 none :: mj_all) { frames := 2, cells := 0, slots := 0, locals := 42 } [.ref 34, .int p0] (mm, k) (mj_vM mm Q) := by
  refine mj_enterA (L := [(0, .ref 34), (1, .int p0)]) hok (by decide +kernel) ⟨rfl, rfl⟩ (fun _ => Nat.le_of_ble_eq_true rfl) rfl (fun r C Z => ?_)
  unfold wM_answer at h
  refine mj_aload_n C dM_answer_0 rfl ?_
  refine mj_getR C inM_all rfl e_Model 7 (by decide) l_M_28 rfl dM_answer_1 ?_
  refine mj_iload_n C dM_answer_4 rfl ?_
  refine mj_iald (t0 := 0) C e_m_callers rfl h.1 dM_answer_5 ?_
  have h := h.2
  refine mj_istore_n C dM_answer_6 (by decide) rfl ?_
  have h := h _ rfl
  refine mj_iload_n C dM_answer_7 rfl ?_
  refine mj_if_lt (tgt := 53) C dM_answer_8 (by decide) (fun c2 => ?_) (fun c2 => ?_)
  · have h := h.1 c2
    exact mj_vret C Z dM_answer_53 ⟨_, rfl, rfl, h⟩
  · have h := h.2 c2
    refine mj_aload_n C dM_answer_11 rfl ?_
    refine mj_getR C inM_all rfl e_Model 8 (by decide) l_M_31 rfl dM_answer_12 ?_
    refine mj_bipush (a := 8) C dM_answer_15 (by decide) ?_
    refine mj_iload_n C dM_answer_17 rfl ?_
    refine mj_imul C dM_answer_18 ?_
    refine mj_aload_n C dM_answer_19 rfl ?_
    refine mj_getR C inM_all rfl e_Model 13 (by decide) l_M_40 rfl dM_answer_20 ?_
    refine mj_iload_n C dM_answer_23 rfl ?_
    refine mj_iald (t0 := 0) C e_m_saidB rfl h.1 dM_answer_24 ?_
    have h := h.2
    refine mj_iadd C dM_answer_25 ?_
    refine mj_aload_n C dM_answer_26 rfl ?_
    refine mj_getR C inM_all rfl e_Model 8 (by decide) l_M_31 rfl dM_answer_27 ?_
    refine mj_bipush (a := 8) C dM_answer_30 (by decide) ?_
    refine mj_iload_n C dM_answer_32 rfl ?_
    refine mj_imul C dM_answer_33 ?_
    refine mj_aload_n C dM_answer_34 rfl ?_
    refine mj_getI C inM_all rfl e_Model 25 (by decide) l_M_113 rfl dM_answer_35 ?_
    refine mj_iadd C dM_answer_38 ?_
    refine mj_iald (t0 := 0) C e_m_registers rfl h.1 dM_answer_39 ?_
    have h := h.2
    refine mj_iast (t0 := 0) C e_m_registers rfl h.1 s_m_registers dM_answer_40 ?_
    have h := h.2 _ rfl
    refine mj_aload_n C dM_answer_41 rfl ?_
    refine mj_iload_n C dM_answer_42 rfl ?_
    refine mj_callV_vWM C (qM_makeReady hok h) (g_M_makeReady l_M_101) rfl e_Model z_M_makeReady ⟨Nat.le_of_ble_eq_true rfl, Nat.le_of_ble_eq_true rfl, rfl, rfl⟩ rfl rfl (Nat.le_of_ble_eq_true rfl) dM_answer_43 (fun k4 h => ?_)
    refine mj_aload_n C dM_answer_46 rfl ?_
    refine mj_getR C inM_all rfl e_Model 7 (by decide) l_M_28 rfl dM_answer_47 ?_
    refine mj_iload_n C dM_answer_50 rfl ?_
    refine mj_iconst (a := (-1)) C dM_answer_51 (by decide) ?_
    refine mj_iast (t0 := 0) C e_m_callers rfl h.1 s_m_callers dM_answer_52 ?_
    have h := h.2 _ rfl
    exact mj_vret C Z dM_answer_53 ⟨_, rfl, rfl, h⟩
/-! GrantKernelModel.descends -/
def wM_descends_26 (x1 : Int32) (x2 : Int32) (x3 : Int32) (k : mj_St)  (Q : Int32 → Prop)  : Prop := vp_in x1 48 ∧ ((((k 16 x1.toNatClampNeg) = 0) → Q 0) ∧ ((¬ (k 16 x1.toNatClampNeg) = 0) → ((¬ x3 = x2) → Q 0) ∧ ((x3 = x2) → Q 1)))
set_option maxRecDepth 100000 in
set_option maxHeartbeats 4000000 in
theorem uM_descends_26 {E : mj_E} {r : mj_R} {mm : mj_St} {k : mj_St} {Q : Int32 → Prop} (hok : mj_Ok (mk_v E)) (C : mj_Cx (mk_v E) r cM_descends 4 RM mj_all { frames := 0, cells := 0, slots := 0, locals := 0 }) (Z : mj_Cr (mk_v E) r (some .boolean) (mj_iR (mm, k) Q)) {x1 : Int32} {x2 : Int32} {x3 : Int32}    (h : wM_descends_26 x1 x2 x3 k Q) : mj_G (mk_v E) r 26 [(0, .ref 34), (1, .int x1), (2, .int x2), (3, .int x3)] [] (mm, k) := by
  unfold wM_descends_26 at h
  refine mj_aload_n C dM_descends_26 rfl ?_
  refine mj_getR C inM_all rfl e_Model 18 (by decide) l_M_56 rfl dM_descends_27 ?_
  refine mj_iload_n C dM_descends_30 rfl ?_
  refine mj_iald (t0 := 0) C e_m_kinds rfl h.1 dM_descends_31 ?_
  have h := h.2
  refine mj_if_eq (tgt := 44) C dM_descends_32 (by decide) (fun c3 => ?_) (fun c3 => ?_)
  · have h := h.1 c3
    refine mj_iconst (a := 0) C dM_descends_44 (by decide) ?_
    exact mj_zret C Z (Or.inl rfl) dM_descends_45 ⟨_, rfl, rfl, h⟩
  · have h := h.2 c3
    refine mj_iload_n C dM_descends_35 rfl ?_
    refine mj_iload_n C dM_descends_36 rfl ?_
    refine mj_icmp_ne (tgt := 44) C dM_descends_37 (by decide) (fun c4 => ?_) (fun c4 => ?_)
    · have h := h.1 c4
      refine mj_iconst (a := 0) C dM_descends_44 (by decide) ?_
      exact mj_zret C Z (Or.inl rfl) dM_descends_45 ⟨_, rfl, rfl, h⟩
    · have h := h.2 c4
      refine mj_iconst (a := 1) C dM_descends_40 (by decide) ?_
      refine mj_goto (tgt := 45) C dM_descends_41 (by decide) ?_
      exact mj_zret C Z (Or.inr rfl) dM_descends_45 ⟨_, rfl, rfl, h⟩
def wM_descends_7 (n : Nat) (x1 : Int32) (x2 : Int32) (x3 : Int32) (k : mj_St)  (Q : Int32 → Prop)  : Prop := match n with
  | 0 => False
  | n + 1 => ((x3 < 0) → wM_descends_26 x1 x2 x3 k Q) ∧ ((¬ x3 < 0) → ((x3 = x2) → wM_descends_26 x1 x2 x3 k Q) ∧ ((¬ x3 = x2) → vp_in x3 48 ∧ (∀ a6 : Int32, a6 = k 19 x3.toNatClampNeg → (wM_descends_7 n x1 x2 a6 k Q))))
set_option maxRecDepth 100000 in
set_option maxHeartbeats 4000000 in
theorem uM_descends_7 {E : mj_E} {r : mj_R} {mm : mj_St} {k : mj_St} {Q : Int32 → Prop} (hok : mj_Ok (mk_v E)) (C : mj_Cx (mk_v E) r cM_descends 4 RM mj_all { frames := 0, cells := 0, slots := 0, locals := 0 }) (Z : mj_Cr (mk_v E) r (some .boolean) (mj_iR (mm, k) Q))   : ∀ (n : Nat) (x1 : Int32) (x2 : Int32) (x3 : Int32) , wM_descends_7 n x1 x2 x3 k Q → mj_G (mk_v E) r 7 [(0, .ref 34), (1, .int x1), (2, .int x2), (3, .int x3)] [] (mm, k) := by
  intro n
  induction n with
  | zero => intro x1 x2 x3 h; exact False.elim h
  | succ n ih =>
    intro x1 x2 x3 h
    rw [wM_descends_7] at h
    refine mj_iload_n C dM_descends_7 rfl ?_
    refine mj_if_lt (tgt := 26) C dM_descends_8 (by decide) (fun c2 => ?_) (fun c2 => ?_)
    · have h := h.1 c2
      exact mj_sub2 (uM_descends_26 hok C Z  h) ⟨rfl, rfl, rfl, rfl, trivial⟩
    · have h := h.2 c2
      refine mj_iload_n C dM_descends_11 rfl ?_
      refine mj_iload_n C dM_descends_12 rfl ?_
      refine mj_icmp_eq (tgt := 26) C dM_descends_13 (by decide) (fun c5 => ?_) (fun c5 => ?_)
      · have h := h.1 c5
        exact mj_sub2 (uM_descends_26 hok C Z  h) ⟨rfl, rfl, rfl, rfl, trivial⟩
      · have h := h.2 c5
        refine mj_aload_n C dM_descends_16 rfl ?_
        refine mj_getR C inM_all rfl e_Model 21 (by decide) l_M_65 rfl dM_descends_17 ?_
        refine mj_iload_n C dM_descends_20 rfl ?_
        refine mj_iald (t0 := 0) C e_m_parents rfl h.1 dM_descends_21 ?_
        have h := h.2
        refine mj_istore_n C dM_descends_22 (by decide) rfl ?_
        have h := h _ rfl
        refine mj_goto (tgt := 7) C dM_descends_23 (by decide) ?_
        exact mj_sub2 (ih _ _ _ h) ⟨rfl, rfl, rfl, rfl, trivial⟩
def wM_descends (p0 : Int32) (p1 : Int32) (k : mj_St) (Q : Int32 → Prop) : Prop := vp_in p0 48 ∧ (∀ a1 : Int32, a1 = k 19 p0.toNatClampNeg → ((∃ e7, wM_descends_7 e7 p0 p1 a1 k Q)))
set_option maxRecDepth 100000 in
set_option maxHeartbeats 4000000 in
theorem qM_descends {E : mj_E} (hok : mj_Ok (mk_v E)) {p0 : Int32} {p1 : Int32} {k mm : mj_St} {Q : Int32 → Prop} (h : wM_descends p0 p1 k Q) : mj_Ct (mk_v E) yM_descends (Cond.code yM_descends cM_descends 4 (some .boolean) :: mj_all) { frames := 0, cells := 0, slots := 0, locals := 0 } [.ref 34, .int p0, .int p1] (mm, k) (mj_iR (mm, k) Q) := by
  refine mj_enterA (L := [(0, .ref 34), (1, .int p0), (2, .int p1)]) hok (by decide +kernel) ⟨rfl, rfl⟩ (fun _ => Nat.le_of_ble_eq_true rfl) rfl (fun r C Z => ?_)
  unfold wM_descends at h
  refine mj_aload_n C dM_descends_0 rfl ?_
  refine mj_getR C inM_all rfl e_Model 21 (by decide) l_M_65 rfl dM_descends_1 ?_
  refine mj_iload_n C dM_descends_4 rfl ?_
  refine mj_iald (t0 := 0) C e_m_parents rfl h.1 dM_descends_5 ?_
  have h := h.2
  refine mj_istore_n C dM_descends_6 (by decide) rfl ?_
  have h := h _ rfl
  obtain ⟨n0, h⟩ := h
  exact mj_sub2 (uM_descends_7 hok C Z  n0 _ _ _ h) ⟨rfl, rfl, rfl, rfl, trivial⟩
/-! GrantKernelModel.countBelow -/
def wM_countBelow_35 (x1 : Int32) (x3 : Int32) (y0 : Int32) (k : mj_St)  (Q : Int32 → Prop) (K4 : Int32 → Int32 → Int32 → Prop) : Prop := ∀ a3 : Int32, a3 = x3 + 1 → (K4 x1 y0 a3)
set_option maxRecDepth 100000 in
set_option maxHeartbeats 4000000 in
theorem uM_countBelow_35 {E : mj_E} {r : mj_R} {mm : mj_St} {k : mj_St} {Q : Int32 → Prop} (hok : mj_Ok (mk_v E)) (C : mj_Cx (mk_v E) r cM_countBelow 4 RM mj_all { frames := 1, cells := 0, slots := 0, locals := 23 }) (Z : mj_Cr (mk_v E) r (some .int) (mj_iR (mm, k) Q)) {x1 : Int32} {x3 : Int32} {y0 : Int32}  {K4 : Int32 → Int32 → Int32 → Prop} (hK4 : ∀ (x1 : Int32) (x2 : Int32) (x3 : Int32) , K4 x1 x2 x3 → mj_G (mk_v E) r 4 [(0, .ref 34), (1, .int x1), (2, .int x2), (3, .int x3)] [] (mm, k)) (h : wM_countBelow_35 x1 x3 y0 k Q K4) : mj_G (mk_v E) r 35 [(0, .ref 34), (1, .int x1), (3, .int x3)] [.int y0] (mm, k) := by
  unfold wM_countBelow_35 at h
  refine mj_istore_n C dM_countBelow_35 (by decide) rfl ?_
  refine mj_iinc (b := 1) C dM_countBelow_36 rfl (by decide) (by decide) rfl ?_
  have h := h _ rfl
  refine mj_goto (tgt := 4) C dM_countBelow_39 (by decide) ?_
  exact mj_sub2 (hK4 _ _ _ h) ⟨rfl, rfl, rfl, rfl, trivial⟩
def wM_countBelow_34 (x1 : Int32) (x2 : Int32) (x3 : Int32) (k : mj_St)  (Q : Int32 → Prop) (K4 : Int32 → Int32 → Int32 → Prop) : Prop := wM_countBelow_35 x1 x3 x2 k Q K4
set_option maxRecDepth 100000 in
set_option maxHeartbeats 4000000 in
theorem uM_countBelow_34 {E : mj_E} {r : mj_R} {mm : mj_St} {k : mj_St} {Q : Int32 → Prop} (hok : mj_Ok (mk_v E)) (C : mj_Cx (mk_v E) r cM_countBelow 4 RM mj_all { frames := 1, cells := 0, slots := 0, locals := 23 }) (Z : mj_Cr (mk_v E) r (some .int) (mj_iR (mm, k) Q)) {x1 : Int32} {x2 : Int32} {x3 : Int32}  {K4 : Int32 → Int32 → Int32 → Prop} (hK4 : ∀ (x1 : Int32) (x2 : Int32) (x3 : Int32) , K4 x1 x2 x3 → mj_G (mk_v E) r 4 [(0, .ref 34), (1, .int x1), (2, .int x2), (3, .int x3)] [] (mm, k)) (h : wM_countBelow_34 x1 x2 x3 k Q K4) : mj_G (mk_v E) r 34 [(0, .ref 34), (1, .int x1), (2, .int x2), (3, .int x3)] [] (mm, k) := by
  unfold wM_countBelow_34 at h
  refine mj_iload_n C dM_countBelow_34 rfl ?_
  exact mj_sub2 (uM_countBelow_35 hok C Z hK4 h) ⟨rfl, rfl, rfl, trivial⟩
def wM_countBelow_4 (n : Nat) (x1 : Int32) (x2 : Int32) (x3 : Int32) (k : mj_St)  (Q : Int32 → Prop)  : Prop := match n with
  | 0 => False
  | n + 1 => ((48 ≤ x3) → Q x2) ∧ ((¬ 48 ≤ x3) → vp_in x3 48 ∧ ((((k 16 x3.toNatClampNeg) = 0) → wM_countBelow_34 x1 x2 x3 k Q (fun x1_ x2_ x3_ => wM_countBelow_4 n x1_ x2_ x3_ k Q)) ∧ ((¬ (k 16 x3.toNatClampNeg) = 0) → wM_descends x3 x1 k (fun a4 => (((a4 = 0) → wM_countBelow_34 x1 x2 x3 k Q (fun x1_ x2_ x3_ => wM_countBelow_4 n x1_ x2_ x3_ k Q)) ∧ ((¬ a4 = 0) → wM_countBelow_35 x1 x3 (x2 + 1) k Q (fun x1_ x2_ x3_ => wM_countBelow_4 n x1_ x2_ x3_ k Q)))))))
set_option maxRecDepth 100000 in
set_option maxHeartbeats 4000000 in
theorem uM_countBelow_4 {E : mj_E} {r : mj_R} {mm : mj_St} {k : mj_St} {Q : Int32 → Prop} (hok : mj_Ok (mk_v E)) (C : mj_Cx (mk_v E) r cM_countBelow 4 RM mj_all { frames := 1, cells := 0, slots := 0, locals := 23 }) (Z : mj_Cr (mk_v E) r (some .int) (mj_iR (mm, k) Q))   : ∀ (n : Nat) (x1 : Int32) (x2 : Int32) (x3 : Int32) , wM_countBelow_4 n x1 x2 x3 k Q → mj_G (mk_v E) r 4 [(0, .ref 34), (1, .int x1), (2, .int x2), (3, .int x3)] [] (mm, k) := by
  intro n
  induction n with
  | zero => intro x1 x2 x3 h; exact False.elim h
  | succ n ih =>
    intro x1 x2 x3 h
    rw [wM_countBelow_4] at h
    refine mj_iload_n C dM_countBelow_4 rfl ?_
    refine mj_bipush (a := 48) C dM_countBelow_5 (by decide) ?_
    refine mj_icmp_ge (tgt := 42) C dM_countBelow_7 (by decide) (fun c1 => ?_) (fun c1 => ?_)
    · have h := h.1 c1
      refine mj_iload_n C dM_countBelow_42 rfl ?_
      exact mj_iret C Z dM_countBelow_43 ⟨_, rfl, rfl, h⟩
    · have h := h.2 c1
      refine mj_aload_n C dM_countBelow_10 rfl ?_
      refine mj_getR C inM_all rfl e_Model 18 (by decide) l_M_56 rfl dM_countBelow_11 ?_
      refine mj_iload_n C dM_countBelow_14 rfl ?_
      refine mj_iald (t0 := 0) C e_m_kinds rfl h.1 dM_countBelow_15 ?_
      have h := h.2
      refine mj_if_eq (tgt := 34) C dM_countBelow_16 (by decide) (fun c2 => ?_) (fun c2 => ?_)
      · have h := h.1 c2
        exact mj_sub2 (uM_countBelow_34 hok C Z (fun _ _ _ h => ih _ _ _ h) h) ⟨rfl, rfl, rfl, rfl, trivial⟩
      · have h := h.2 c2
        refine mj_aload_n C dM_countBelow_19 rfl ?_
        refine mj_iload_n C dM_countBelow_20 rfl ?_
        refine mj_iload_n C dM_countBelow_21 rfl ?_
        refine mj_callV_iR C (qM_descends hok h) (g_M_descends l_M_94) rfl e_Model z_M_descends ⟨Nat.le_of_ble_eq_true rfl, Nat.le_of_ble_eq_true rfl, rfl, rfl⟩ rfl rfl (Nat.le_of_ble_eq_true rfl) dM_countBelow_22 (fun a4 h => ?_)
        refine mj_if_eq (tgt := 34) C dM_countBelow_25 (by decide) (fun c5 => ?_) (fun c5 => ?_)
        · have h := h.1 c5
          exact mj_sub2 (uM_countBelow_34 hok C Z (fun _ _ _ h => ih _ _ _ h) h) ⟨rfl, rfl, rfl, rfl, trivial⟩
        · have h := h.2 c5
          refine mj_iload_n C dM_countBelow_28 rfl ?_
          refine mj_iconst (a := 1) C dM_countBelow_29 (by decide) ?_
          refine mj_iadd C dM_countBelow_30 ?_
          refine mj_goto (tgt := 35) C dM_countBelow_31 (by decide) ?_
          exact mj_sub2 (uM_countBelow_35 hok C Z (fun _ _ _ h => ih _ _ _ h) h) ⟨rfl, rfl, rfl, trivial⟩
def wM_countBelow (p0 : Int32) (k : mj_St) (Q : Int32 → Prop) : Prop := (∃ e4, wM_countBelow_4 e4 p0 0 0 k Q)
set_option maxRecDepth 100000 in
set_option maxHeartbeats 4000000 in
theorem qM_countBelow {E : mj_E} (hok : mj_Ok (mk_v E)) {p0 : Int32} {k mm : mj_St} {Q : Int32 → Prop} (h : wM_countBelow p0 k Q) : mj_Ct (mk_v E) yM_countBelow (Cond.code yM_countBelow cM_countBelow 4 (some .int) :: mj_all) { frames := 1, cells := 0, slots := 0, locals := 23 } [.ref 34, .int p0] (mm, k) (mj_iR (mm, k) Q) := by
  refine mj_enterA (L := [(0, .ref 34), (1, .int p0)]) hok (by decide +kernel) ⟨rfl, rfl⟩ (fun _ => Nat.le_of_ble_eq_true rfl) rfl (fun r C Z => ?_)
  unfold wM_countBelow at h
  refine mj_iconst (a := 0) C dM_countBelow_0 (by decide) ?_
  refine mj_istore_n C dM_countBelow_1 (by decide) rfl ?_
  refine mj_iconst (a := 0) C dM_countBelow_2 (by decide) ?_
  refine mj_istore_n C dM_countBelow_3 (by decide) rfl ?_
  obtain ⟨n0, h⟩ := h
  exact mj_sub2 (uM_countBelow_4 hok C Z  n0 _ _ _ h) ⟨rfl, rfl, rfl, rfl, trivial⟩
/-! GrantKernelModel.revoke -/
def wM_revoke_58 (x1 : Int32) (x3 : Int32)  (k : mj_St) (Q : mj_St → Prop) (K6 : Int32 → Int32 → mj_St → Prop) (K12 : Int32 → Int32 → mj_St → Prop) : Prop := ∀ a6 : Int32, a6 = x3 + 1 → (K12 x1 a6 k)
set_option maxRecDepth 100000 in
set_option maxHeartbeats 4000000 in
theorem uM_revoke_58 {E : mj_E} {r : mj_R} {mm : mj_St} {Q : mj_St → Prop} (hok : mj_Ok (mk_v E)) (C : mj_Cx (mk_v E) r cM_revoke 4 RM mj_all { frames := 2, cells := 0, slots := 0, locals := 46 }) (Z : mj_Cr (mk_v E) r none (mj_vM mm Q)) {x1 : Int32} {x3 : Int32} {k : mj_St} {K6 : Int32 → Int32 → mj_St → Prop} {K12 : Int32 → Int32 → mj_St → Prop} (hK6 : ∀ (x1 : Int32) (x2 : Int32) (k : mj_St), K6 x1 x2 k → mj_G (mk_v E) r 6 [(0, .ref 34), (1, .int x1), (2, .int x2)] [] (mm, k)) (hK12 : ∀ (x1 : Int32) (x3 : Int32) (k : mj_St), K12 x1 x3 k → mj_G (mk_v E) r 12 [(0, .ref 34), (1, .int x1), (3, .int x3)] [] (mm, k)) (h : wM_revoke_58 x1 x3 k Q K6 K12) : mj_G (mk_v E) r 58 [(0, .ref 34), (1, .int x1), (3, .int x3)] [] (mm, k) := by
  unfold wM_revoke_58 at h
  refine mj_iinc (b := 1) C dM_revoke_58 rfl (by decide) (by decide) rfl ?_
  have h := h _ rfl
  refine mj_goto (tgt := 12) C dM_revoke_61 (by decide) ?_
  exact mj_sub2 (hK12 _ _ _ h) ⟨rfl, rfl, rfl, trivial⟩
def wM_revoke_12 (n : Nat) (x1 : Int32) (x3 : Int32)  (k : mj_St) (Q : mj_St → Prop) (K6 : Int32 → Int32 → mj_St → Prop) : Prop := match n with
  | 0 => False
  | n + 1 => ((48 ≤ x3) → wM_countBelow x1 k (fun a4 => (K6 x1 a4 k))) ∧ ((¬ 48 ≤ x3) → vp_in x3 48 ∧ ((((k 16 x3.toNatClampNeg) = 0) → wM_revoke_58 x1 x3 k Q K6 (fun x1_ x3_ k_ => wM_revoke_12 n x1_ x3_ k_ Q K6)) ∧ ((¬ (k 16 x3.toNatClampNeg) = 0) → wM_descends x3 x1 k (fun a7 => (((a7 = 0) → wM_revoke_58 x1 x3 k Q K6 (fun x1_ x3_ k_ => wM_revoke_12 n x1_ x3_ k_ Q K6)) ∧ ((¬ a7 = 0) → wM_countBelow x3 k (fun a9 => (((¬ a9 = 0) → wM_revoke_58 x1 x3 k Q K6 (fun x1_ x3_ k_ => wM_revoke_12 n x1_ x3_ k_ Q K6)) ∧ ((a9 = 0) → vp_in x3 48 ∧ (∀ k11 : mj_St, k11 = mj_up k 16 x3.toNatClampNeg 0 → (vp_in x3 48 ∧ (∀ k12 : mj_St, k12 = mj_up k11 19 x3.toNatClampNeg (-1) → (wM_revoke_58 x1 x3 k12 Q K6 (fun x1_ x3_ k_ => wM_revoke_12 n x1_ x3_ k_ Q K6))))))))))))))
set_option maxRecDepth 100000 in
set_option maxHeartbeats 4000000 in
theorem uM_revoke_12 {E : mj_E} {r : mj_R} {mm : mj_St} {Q : mj_St → Prop} (hok : mj_Ok (mk_v E)) (C : mj_Cx (mk_v E) r cM_revoke 4 RM mj_all { frames := 2, cells := 0, slots := 0, locals := 46 }) (Z : mj_Cr (mk_v E) r none (mj_vM mm Q)) {K6 : Int32 → Int32 → mj_St → Prop} (hK6 : ∀ (x1 : Int32) (x2 : Int32) (k : mj_St), K6 x1 x2 k → mj_G (mk_v E) r 6 [(0, .ref 34), (1, .int x1), (2, .int x2)] [] (mm, k)) : ∀ (n : Nat) (x1 : Int32) (x3 : Int32) (k : mj_St), wM_revoke_12 n x1 x3 k Q K6 → mj_G (mk_v E) r 12 [(0, .ref 34), (1, .int x1), (3, .int x3)] [] (mm, k) := by
  intro n
  induction n with
  | zero => intro x1 x3 k h; exact False.elim h
  | succ n ih =>
    intro x1 x3 k h
    rw [wM_revoke_12] at h
    refine mj_iload_n C dM_revoke_12 rfl ?_
    refine mj_bipush (a := 48) C dM_revoke_13 (by decide) ?_
    refine mj_icmp_ge (tgt := 64) C dM_revoke_15 (by decide) (fun c3 => ?_) (fun c3 => ?_)
    · have h := h.1 c3
      refine mj_aload_n C dM_revoke_64 rfl ?_
      refine mj_iload_n C dM_revoke_65 rfl ?_
      refine mj_callV_iR C (qM_countBelow hok h) (g_M_countBelow l_M_97) rfl e_Model z_M_countBelow ⟨Nat.le_of_ble_eq_true rfl, Nat.le_of_ble_eq_true rfl, rfl, rfl⟩ rfl rfl (Nat.le_of_ble_eq_true rfl) dM_revoke_66 (fun a4 h => ?_)
      refine mj_istore_n C dM_revoke_69 (by decide) rfl ?_
      refine mj_goto (tgt := 6) C dM_revoke_70 (by decide) ?_
      exact mj_sub2 (hK6 _ _ _ h) ⟨rfl, rfl, rfl, trivial⟩
    · have h := h.2 c3
      refine mj_aload_n C dM_revoke_18 rfl ?_
      refine mj_getR C inM_all rfl e_Model 18 (by decide) l_M_56 rfl dM_revoke_19 ?_
      refine mj_iload_n C dM_revoke_22 rfl ?_
      refine mj_iald (t0 := 0) C e_m_kinds rfl h.1 dM_revoke_23 ?_
      have h := h.2
      refine mj_if_eq (tgt := 58) C dM_revoke_24 (by decide) (fun c5 => ?_) (fun c5 => ?_)
      · have h := h.1 c5
        exact mj_sub2 (uM_revoke_58 hok C Z hK6 (fun _ _ _ h => ih _ _ _ h) h) ⟨rfl, rfl, rfl, trivial⟩
      · have h := h.2 c5
        refine mj_aload_n C dM_revoke_27 rfl ?_
        refine mj_iload_n C dM_revoke_28 rfl ?_
        refine mj_iload_n C dM_revoke_29 rfl ?_
        refine mj_callV_iR C (qM_descends hok h) (g_M_descends l_M_94) rfl e_Model z_M_descends ⟨Nat.le_of_ble_eq_true rfl, Nat.le_of_ble_eq_true rfl, rfl, rfl⟩ rfl rfl (Nat.le_of_ble_eq_true rfl) dM_revoke_30 (fun a7 h => ?_)
        refine mj_if_eq (tgt := 58) C dM_revoke_33 (by decide) (fun c8 => ?_) (fun c8 => ?_)
        · have h := h.1 c8
          exact mj_sub2 (uM_revoke_58 hok C Z hK6 (fun _ _ _ h => ih _ _ _ h) h) ⟨rfl, rfl, rfl, trivial⟩
        · have h := h.2 c8
          refine mj_aload_n C dM_revoke_36 rfl ?_
          refine mj_iload_n C dM_revoke_37 rfl ?_
          refine mj_callV_iR C (qM_countBelow hok h) (g_M_countBelow l_M_97) rfl e_Model z_M_countBelow ⟨Nat.le_of_ble_eq_true rfl, Nat.le_of_ble_eq_true rfl, rfl, rfl⟩ rfl rfl (Nat.le_of_ble_eq_true rfl) dM_revoke_38 (fun a9 h => ?_)
          refine mj_if_ne (tgt := 58) C dM_revoke_41 (by decide) (fun c10 => ?_) (fun c10 => ?_)
          · have h := h.1 c10
            exact mj_sub2 (uM_revoke_58 hok C Z hK6 (fun _ _ _ h => ih _ _ _ h) h) ⟨rfl, rfl, rfl, trivial⟩
          · have h := h.2 c10
            refine mj_aload_n C dM_revoke_44 rfl ?_
            refine mj_getR C inM_all rfl e_Model 18 (by decide) l_M_56 rfl dM_revoke_45 ?_
            refine mj_iload_n C dM_revoke_48 rfl ?_
            refine mj_iconst (a := 0) C dM_revoke_49 (by decide) ?_
            refine mj_iast (t0 := 0) C e_m_kinds rfl h.1 s_m_kinds dM_revoke_50 ?_
            have h := h.2 _ rfl
            refine mj_aload_n C dM_revoke_51 rfl ?_
            refine mj_getR C inM_all rfl e_Model 21 (by decide) l_M_65 rfl dM_revoke_52 ?_
            refine mj_iload_n C dM_revoke_55 rfl ?_
            refine mj_iconst (a := (-1)) C dM_revoke_56 (by decide) ?_
            refine mj_iast (t0 := 0) C e_m_parents rfl h.1 s_m_parents dM_revoke_57 ?_
            have h := h.2 _ rfl
            exact mj_sub2 (uM_revoke_58 hok C Z hK6 (fun _ _ _ h => ih _ _ _ h) h) ⟨rfl, rfl, rfl, trivial⟩
def wM_revoke_6 (n : Nat) (x1 : Int32) (x2 : Int32)  (k : mj_St) (Q : mj_St → Prop)  : Prop := match n with
  | 0 => False
  | n + 1 => ((x2 ≤ 0) → Q k) ∧ ((¬ x2 ≤ 0) → (∃ e12, wM_revoke_12 e12 x1 0 k Q (fun x1_ x2_ k_ => wM_revoke_6 n x1_ x2_ k_ Q)))
set_option maxRecDepth 100000 in
set_option maxHeartbeats 4000000 in
theorem uM_revoke_6 {E : mj_E} {r : mj_R} {mm : mj_St} {Q : mj_St → Prop} (hok : mj_Ok (mk_v E)) (C : mj_Cx (mk_v E) r cM_revoke 4 RM mj_all { frames := 2, cells := 0, slots := 0, locals := 46 }) (Z : mj_Cr (mk_v E) r none (mj_vM mm Q))   : ∀ (n : Nat) (x1 : Int32) (x2 : Int32) (k : mj_St), wM_revoke_6 n x1 x2 k Q → mj_G (mk_v E) r 6 [(0, .ref 34), (1, .int x1), (2, .int x2)] [] (mm, k) := by
  intro n
  induction n with
  | zero => intro x1 x2 k h; exact False.elim h
  | succ n ih =>
    intro x1 x2 k h
    rw [wM_revoke_6] at h
    refine mj_iload_n C dM_revoke_6 rfl ?_
    refine mj_if_le (tgt := 73) C dM_revoke_7 (by decide) (fun c2 => ?_) (fun c2 => ?_)
    · have h := h.1 c2
      exact mj_vret C Z dM_revoke_73 ⟨_, rfl, rfl, h⟩
    · have h := h.2 c2
      refine mj_iconst (a := 0) C dM_revoke_10 (by decide) ?_
      refine mj_istore_n C dM_revoke_11 (by decide) rfl ?_
      obtain ⟨n0, h⟩ := h
      exact mj_sub2 (uM_revoke_12 hok C Z (fun _ _ _ h => ih _ _ _ h) n0 _ _ _ h) ⟨rfl, rfl, rfl, trivial⟩
def wM_revoke (p0 : Int32) (k : mj_St) (Q : mj_St → Prop) : Prop := wM_countBelow p0 k (fun a1 => ((∃ e6, wM_revoke_6 e6 p0 a1 k Q)))
set_option maxRecDepth 100000 in
set_option maxHeartbeats 4000000 in
theorem qM_revoke {E : mj_E} (hok : mj_Ok (mk_v E)) {p0 : Int32} {k mm : mj_St} {Q : mj_St → Prop} (h : wM_revoke p0 k Q) : mj_Ct (mk_v E) yM_revoke (Cond.code yM_revoke cM_revoke 4 none :: mj_all) { frames := 2, cells := 0, slots := 0, locals := 46 } [.ref 34, .int p0] (mm, k) (mj_vM mm Q) := by
  refine mj_enterA (L := [(0, .ref 34), (1, .int p0)]) hok (by decide +kernel) ⟨rfl, rfl⟩ (fun _ => Nat.le_of_ble_eq_true rfl) rfl (fun r C Z => ?_)
  unfold wM_revoke at h
  refine mj_aload_n C dM_revoke_0 rfl ?_
  refine mj_iload_n C dM_revoke_1 rfl ?_
  refine mj_callV_iR C (qM_countBelow hok h) (g_M_countBelow l_M_97) rfl e_Model z_M_countBelow ⟨Nat.le_of_ble_eq_true rfl, Nat.le_of_ble_eq_true rfl, rfl, rfl⟩ rfl rfl (Nat.le_of_ble_eq_true rfl) dM_revoke_2 (fun a1 h => ?_)
  refine mj_istore_n C dM_revoke_5 (by decide) rfl ?_
  obtain ⟨n0, h⟩ := h
  exact mj_sub2 (uM_revoke_6 hok C Z  n0 _ _ _ h) ⟨rfl, rfl, rfl, trivial⟩
/-! GrantKernelModel.act -/
def wM_act_214 (y0 : Int32) (y1 : Int32) (y2 : Int32)  (k : mj_St) (Q : mj_St → Prop)  : Prop := wM_send y2 y1 y0 k (fun k13 => (Q k13))
set_option maxRecDepth 100000 in
set_option maxHeartbeats 4000000 in
theorem uM_act_214 {E : mj_E} {r : mj_R} {mm : mj_St} {Q : mj_St → Prop} (hok : mj_Ok (mk_v E)) (C : mj_Cx (mk_v E) r cM_act 7 RM mj_all { frames := 4, cells := 0, slots := 0, locals := 95 }) (Z : mj_Cr (mk_v E) r none (mj_vM mm Q)) {y0 : Int32} {y1 : Int32} {y2 : Int32} {k : mj_St}   (h : wM_act_214 y0 y1 y2 k Q) : mj_G (mk_v E) r 214 [] [.int y0, .int y1, .int y2, .ref 34] (mm, k) := by
  unfold wM_act_214 at h
  refine mj_callV_vWM C (qM_send hok h) (g_M_send l_M_162) rfl e_Model z_M_send ⟨Nat.le_of_ble_eq_true rfl, Nat.le_of_ble_eq_true rfl, rfl, rfl⟩ rfl rfl (Nat.le_of_ble_eq_true rfl) dM_act_214 (fun k13 h => ?_)
  refine mj_goto (tgt := 346) C dM_act_217 (by decide) ?_
  exact mj_vret C Z dM_act_346 ⟨_, rfl, rfl, h⟩
def wM_act_199 (x1 : Int32) (x2 : Int32) (x6 : Int32)  (k : mj_St) (Q : mj_St → Prop)  : Prop := ((¬ x2 = 16) → wM_act_214 0 x6 x1 k Q) ∧ ((x2 = 16) → wM_act_214 1 x6 x1 k Q)
set_option maxRecDepth 100000 in
set_option maxHeartbeats 4000000 in
theorem uM_act_199 {E : mj_E} {r : mj_R} {mm : mj_St} {Q : mj_St → Prop} (hok : mj_Ok (mk_v E)) (C : mj_Cx (mk_v E) r cM_act 7 RM mj_all { frames := 4, cells := 0, slots := 0, locals := 95 }) (Z : mj_Cr (mk_v E) r none (mj_vM mm Q)) {x1 : Int32} {x2 : Int32} {x6 : Int32} {k : mj_St}   (h : wM_act_199 x1 x2 x6 k Q) : mj_G (mk_v E) r 199 [(0, .ref 34), (1, .int x1), (2, .int x2), (6, .int x6)] [] (mm, k) := by
  unfold wM_act_199 at h
  refine mj_aload_n C dM_act_199 rfl ?_
  refine mj_iload_n C dM_act_200 rfl ?_
  refine mj_iload C dM_act_201 rfl ?_
  refine mj_iload_n C dM_act_203 rfl ?_
  refine mj_bipush (a := 16) C dM_act_204 (by decide) ?_
  refine mj_icmp_ne (tgt := 213) C dM_act_206 (by decide) (fun c12 => ?_) (fun c12 => ?_)
  · have h := h.1 c12
    refine mj_iconst (a := 0) C dM_act_213 (by decide) ?_
    exact mj_sub2 (uM_act_214 hok C Z  h) trivial
  · have h := h.2 c12
    refine mj_iconst (a := 1) C dM_act_209 (by decide) ?_
    refine mj_goto (tgt := 214) C dM_act_210 (by decide) ?_
    exact mj_sub2 (uM_act_214 hok C Z  h) trivial
def wM_act (p0 : Int32) (p1 : Int32) (k : mj_St) (Q : mj_St → Prop) : Prop := ∀ a1 : Int32, a1 = (8 * p0) + (k 0 24) → (vp_in ((8 * p0) + (k 0 25)) 48 ∧ (∀ a2 : Int32, a2 = k 8 ((8 * p0) + (k 0 25)).toNatClampNeg → (vp_in ((8 * p0) + (k 0 26)) 48 ∧ (∀ a3 : Int32, a3 = k 8 ((8 * p0) + (k 0 26)).toNatClampNeg → (vp_in a1 48 ∧ (∀ a4 : Int32, a4 = k 17 a1.toNatClampNeg → (((¬ p1 = 0) → ((8 ≤ p1) → ((¬ p1 = 8) → ((¬ p1 = 9) → ((13 ≤ p1) → ((¬ p1 = 14) → ((p1 = 15) → wM_act_199 p0 p1 a4 k Q) ∧ ((¬ p1 = 15) → ((¬ p1 = 16) → ((¬ p1 = 17) → ((¬ p1 = 18) → ((¬ p1 = 19) → ((¬ p1 = 20) → ((¬ p1 = 21) → ((¬ p1 = 22) → Q k) ∧ ((p1 = 22) → vp_in ((8 * p0) + (k 0 25)) 48 ∧ ((((k 16 ((8 * p0) + (k 0 25)).toNatClampNeg) = 0) → vp_in a1 48 ∧ (∀ k22 : mj_St, k22 = mj_up k 8 a1.toNatClampNeg 0 → (Q k22))) ∧ ((¬ (k 16 ((8 * p0) + (k 0 25)).toNatClampNeg) = 0) → vp_in a1 48 ∧ (∀ k23 : mj_St, k23 = mj_up k 8 a1.toNatClampNeg 1 → (Q k23)))))) ∧ ((p1 = 21) → wM_revoke a1 k (fun k24 => (Q k24)))) ∧ ((p1 = 20) → wM_remove a1 k (fun k25 => (Q k25)))) ∧ ((p1 = 19) → vp_in a1 48 ∧ (wM_place ((8 * p0) + (k 0 25)) a1 ((k 18 a1.toNatClampNeg) &&& (k 0 27)) k (fun k26 => (Q k26))))) ∧ ((p1 = 18) → wM_answer p0 k (fun k27 => (Q k27)))) ∧ ((p1 = 17) → wM_receive p0 a4 k (fun k28 => (Q k28)))) ∧ ((p1 = 16) → wM_act_199 p0 p1 a4 k Q))) ∧ ((p1 = 14) → wM_write a2 k (fun k29 => (Q k29)))) ∧ ((¬ 13 ≤ p1) → wM_move p0 p1 k (fun k30 => (Q k30)))) ∧ ((p1 = 9) → vp_in p0 6 ∧ (vp_in a1 48 ∧ (vp_in (((k 5 p0.toNatClampNeg) + a2) + (k 0 27)) 128 ∧ (∀ k31 : mj_St, k31 = mj_up k 1 (((k 5 p0.toNatClampNeg) + a2) + (k 0 27)).toNatClampNeg (k 8 a1.toNatClampNeg) → (Q k31)))))) ∧ ((p1 = 8) → vp_in p0 6 ∧ (vp_in (((k 5 p0.toNatClampNeg) + a2) + (k 0 27)) 128 ∧ (vp_in a1 48 ∧ (∀ k32 : mj_St, k32 = mj_up k 8 a1.toNatClampNeg (k 1 (((k 5 p0.toNatClampNeg) + a2) + (k 0 27)).toNatClampNeg) → (Q k32)))))) ∧ ((¬ 8 ≤ p1) → wM_result p1 a2 a3 k (fun a33 => (vp_in a1 48 ∧ (∀ k34 : mj_St, k34 = mj_up k 8 a1.toNatClampNeg a33 → (Q k34)))))) ∧ ((p1 = 0) → vp_in p0 6 ∧ (∀ k35 : mj_St, k35 = mj_up k 2 p0.toNatClampNeg 6 → (Q k35))))))))))
set_option maxRecDepth 100000 in
set_option maxHeartbeats 4000000 in
theorem qM_act {E : mj_E} (hok : mj_Ok (mk_v E)) {p0 : Int32} {p1 : Int32} {k mm : mj_St} {Q : mj_St → Prop} (h : wM_act p0 p1 k Q) : mj_Ct (mk_v E) yM_act (Cond.code yM_act cM_act 7 none :: mj_all) { frames := 4, cells := 0, slots := 0, locals := 95 } [.ref 34, .int p0, .int p1] (mm, k) (mj_vM mm Q) := by
  refine mj_enterA (L := [(0, .ref 34), (1, .int p0), (2, .int p1)]) hok (by decide +kernel) ⟨rfl, rfl⟩ (fun _ => Nat.le_of_ble_eq_true rfl) rfl (fun r C Z => ?_)
  unfold wM_act at h
  refine mj_bipush (a := 8) C dM_act_0 (by decide) ?_
  refine mj_iload_n C dM_act_2 rfl ?_
  refine mj_imul C dM_act_3 ?_
  refine mj_aload_n C dM_act_4 rfl ?_
  refine mj_getI C inM_all rfl e_Model 24 (by decide) l_M_142 rfl dM_act_5 ?_
  refine mj_iadd C dM_act_8 ?_
  refine mj_istore_n C dM_act_9 (by decide) rfl ?_
  have h := h _ rfl
  refine mj_aload_n C dM_act_10 rfl ?_
  refine mj_getR C inM_all rfl e_Model 8 (by decide) l_M_31 rfl dM_act_11 ?_
  refine mj_bipush (a := 8) C dM_act_14 (by decide) ?_
  refine mj_iload_n C dM_act_16 rfl ?_
  refine mj_imul C dM_act_17 ?_
  refine mj_aload_n C dM_act_18 rfl ?_
  refine mj_getI C inM_all rfl e_Model 25 (by decide) l_M_113 rfl dM_act_19 ?_
  refine mj_iadd C dM_act_22 ?_
  refine mj_iald (t0 := 0) C e_m_registers rfl h.1 dM_act_23 ?_
  have h := h.2
  refine mj_istore C dM_act_24 (by decide) rfl ?_
  have h := h _ rfl
  refine mj_aload_n C dM_act_26 rfl ?_
  refine mj_getR C inM_all rfl e_Model 8 (by decide) l_M_31 rfl dM_act_27 ?_
  refine mj_bipush (a := 8) C dM_act_30 (by decide) ?_
  refine mj_iload_n C dM_act_32 rfl ?_
  refine mj_imul C dM_act_33 ?_
  refine mj_aload_n C dM_act_34 rfl ?_
  refine mj_getI C inM_all rfl e_Model 26 (by decide) l_M_116 rfl dM_act_35 ?_
  refine mj_iadd C dM_act_38 ?_
  refine mj_iald (t0 := 0) C e_m_registers rfl h.1 dM_act_39 ?_
  have h := h.2
  refine mj_istore C dM_act_40 (by decide) rfl ?_
  have h := h _ rfl
  refine mj_aload_n C dM_act_42 rfl ?_
  refine mj_getR C inM_all rfl e_Model 19 (by decide) l_M_59 rfl dM_act_43 ?_
  refine mj_iload_n C dM_act_46 rfl ?_
  refine mj_iald (t0 := 0) C e_m_objects rfl h.1 dM_act_47 ?_
  have h := h.2
  refine mj_istore C dM_act_48 (by decide) rfl ?_
  have h := h _ rfl
  refine mj_iload_n C dM_act_50 rfl ?_
  refine mj_if_ne (tgt := 65) C dM_act_51 (by decide) (fun c5 => ?_) (fun c5 => ?_)
  · have h := h.1 c5
    refine mj_iload_n C dM_act_65 rfl ?_
    refine mj_bipush (a := 8) C dM_act_66 (by decide) ?_
    refine mj_icmp_ge (tgt := 89) C dM_act_68 (by decide) (fun c6 => ?_) (fun c6 => ?_)
    · have h := h.1 c6
      refine mj_iload_n C dM_act_89 rfl ?_
      refine mj_bipush (a := 8) C dM_act_90 (by decide) ?_
      refine mj_icmp_ne (tgt := 123) C dM_act_92 (by decide) (fun c7 => ?_) (fun c7 => ?_)
      · have h := h.1 c7
        refine mj_iload_n C dM_act_123 rfl ?_
        refine mj_bipush (a := 9) C dM_act_124 (by decide) ?_
        refine mj_icmp_ne (tgt := 157) C dM_act_126 (by decide) (fun c8 => ?_) (fun c8 => ?_)
        · have h := h.1 c8
          refine mj_iload_n C dM_act_157 rfl ?_
          refine mj_bipush (a := 13) C dM_act_158 (by decide) ?_
          refine mj_icmp_ge (tgt := 172) C dM_act_160 (by decide) (fun c9 => ?_) (fun c9 => ?_)
          · have h := h.1 c9
            refine mj_iload_n C dM_act_172 rfl ?_
            refine mj_bipush (a := 14) C dM_act_173 (by decide) ?_
            refine mj_icmp_ne (tgt := 187) C dM_act_175 (by decide) (fun c10 => ?_) (fun c10 => ?_)
            · have h := h.1 c10
              refine mj_iload_n C dM_act_187 rfl ?_
              refine mj_bipush (a := 15) C dM_act_188 (by decide) ?_
              refine mj_icmp_eq (tgt := 199) C dM_act_190 (by decide) (fun c11 => ?_) (fun c11 => ?_)
              · have h := h.1 c11
                exact mj_sub2 (uM_act_199 hok C Z  h) ⟨rfl, rfl, rfl, rfl, trivial⟩
              · have h := h.2 c11
                refine mj_iload_n C dM_act_193 rfl ?_
                refine mj_bipush (a := 16) C dM_act_194 (by decide) ?_
                refine mj_icmp_ne (tgt := 220) C dM_act_196 (by decide) (fun c14 => ?_) (fun c14 => ?_)
                · have h := h.1 c14
                  refine mj_iload_n C dM_act_220 rfl ?_
                  refine mj_bipush (a := 17) C dM_act_221 (by decide) ?_
                  refine mj_icmp_ne (tgt := 236) C dM_act_223 (by decide) (fun c15 => ?_) (fun c15 => ?_)
                  · have h := h.1 c15
                    refine mj_iload_n C dM_act_236 rfl ?_
                    refine mj_bipush (a := 18) C dM_act_237 (by decide) ?_
                    refine mj_icmp_ne (tgt := 250) C dM_act_239 (by decide) (fun c16 => ?_) (fun c16 => ?_)
                    · have h := h.1 c16
                      refine mj_iload_n C dM_act_250 rfl ?_
                      refine mj_bipush (a := 19) C dM_act_251 (by decide) ?_
                      refine mj_icmp_ne (tgt := 284) C dM_act_253 (by decide) (fun c17 => ?_) (fun c17 => ?_)
                      · have h := h.1 c17
                        refine mj_iload_n C dM_act_284 rfl ?_
                        refine mj_bipush (a := 20) C dM_act_285 (by decide) ?_
                        refine mj_icmp_ne (tgt := 298) C dM_act_287 (by decide) (fun c18 => ?_) (fun c18 => ?_)
                        · have h := h.1 c18
                          refine mj_iload_n C dM_act_298 rfl ?_
                          refine mj_bipush (a := 21) C dM_act_299 (by decide) ?_
                          refine mj_icmp_ne (tgt := 312) C dM_act_301 (by decide) (fun c19 => ?_) (fun c19 => ?_)
                          · have h := h.1 c19
                            refine mj_iload_n C dM_act_312 rfl ?_
                            refine mj_bipush (a := 22) C dM_act_313 (by decide) ?_
                            refine mj_icmp_ne (tgt := 346) C dM_act_315 (by decide) (fun c20 => ?_) (fun c20 => ?_)
                            · have h := h.1 c20
                              exact mj_vret C Z dM_act_346 ⟨_, rfl, rfl, h⟩
                            · have h := h.2 c20
                              refine mj_aload_n C dM_act_318 rfl ?_
                              refine mj_getR C inM_all rfl e_Model 8 (by decide) l_M_31 rfl dM_act_319 ?_
                              refine mj_iload_n C dM_act_322 rfl ?_
                              refine mj_aload_n C dM_act_323 rfl ?_
                              refine mj_getR C inM_all rfl e_Model 18 (by decide) l_M_56 rfl dM_act_324 ?_
                              refine mj_bipush (a := 8) C dM_act_327 (by decide) ?_
                              refine mj_iload_n C dM_act_329 rfl ?_
                              refine mj_imul C dM_act_330 ?_
                              refine mj_aload_n C dM_act_331 rfl ?_
                              refine mj_getI C inM_all rfl e_Model 25 (by decide) l_M_113 rfl dM_act_332 ?_
                              refine mj_iadd C dM_act_335 ?_
                              refine mj_iald (t0 := 0) C e_m_kinds rfl h.1 dM_act_336 ?_
                              have h := h.2
                              refine mj_if_eq (tgt := 344) C dM_act_337 (by decide) (fun c21 => ?_) (fun c21 => ?_)
                              · have h := h.1 c21
                                refine mj_iconst (a := 0) C dM_act_344 (by decide) ?_
                                refine mj_iast (t0 := 0) C e_m_registers rfl h.1 s_m_registers dM_act_345 ?_
                                have h := h.2 _ rfl
                                exact mj_vret C Z dM_act_346 ⟨_, rfl, rfl, h⟩
                              · have h := h.2 c21
                                refine mj_iconst (a := 1) C dM_act_340 (by decide) ?_
                                refine mj_goto (tgt := 345) C dM_act_341 (by decide) ?_
                                refine mj_iast (t0 := 0) C e_m_registers rfl h.1 s_m_registers dM_act_345 ?_
                                have h := h.2 _ rfl
                                exact mj_vret C Z dM_act_346 ⟨_, rfl, rfl, h⟩
                          · have h := h.2 c19
                            refine mj_aload_n C dM_act_304 rfl ?_
                            refine mj_iload_n C dM_act_305 rfl ?_
                            refine mj_callV_vWM C (qM_revoke hok h) (g_M_revoke l_M_172) rfl e_Model z_M_revoke ⟨Nat.le_of_ble_eq_true rfl, Nat.le_of_ble_eq_true rfl, rfl, rfl⟩ rfl rfl (Nat.le_of_ble_eq_true rfl) dM_act_306 (fun k24 h => ?_)
                            refine mj_goto (tgt := 346) C dM_act_309 (by decide) ?_
                            exact mj_vret C Z dM_act_346 ⟨_, rfl, rfl, h⟩
                        · have h := h.2 c18
                          refine mj_aload_n C dM_act_290 rfl ?_
                          refine mj_iload_n C dM_act_291 rfl ?_
                          refine mj_callV_vWM C (qM_remove hok h) (g_M_remove l_M_110) rfl e_Model z_M_remove ⟨Nat.le_of_ble_eq_true rfl, Nat.le_of_ble_eq_true rfl, rfl, rfl⟩ rfl rfl (Nat.le_of_ble_eq_true rfl) dM_act_292 (fun k25 h => ?_)
                          refine mj_goto (tgt := 346) C dM_act_295 (by decide) ?_
                          exact mj_vret C Z dM_act_346 ⟨_, rfl, rfl, h⟩
                      · have h := h.2 c17
                        refine mj_aload_n C dM_act_256 rfl ?_
                        refine mj_bipush (a := 8) C dM_act_257 (by decide) ?_
                        refine mj_iload_n C dM_act_259 rfl ?_
                        refine mj_imul C dM_act_260 ?_
                        refine mj_aload_n C dM_act_261 rfl ?_
                        refine mj_getI C inM_all rfl e_Model 25 (by decide) l_M_113 rfl dM_act_262 ?_
                        refine mj_iadd C dM_act_265 ?_
                        refine mj_iload_n C dM_act_266 rfl ?_
                        refine mj_aload_n C dM_act_267 rfl ?_
                        refine mj_getR C inM_all rfl e_Model 20 (by decide) l_M_62 rfl dM_act_268 ?_
                        refine mj_iload_n C dM_act_271 rfl ?_
                        refine mj_iald (t0 := 0) C e_m_rights rfl h.1 dM_act_272 ?_
                        have h := h.2
                        refine mj_aload_n C dM_act_273 rfl ?_
                        refine mj_getI C inM_all rfl e_Model 27 (by decide) l_M_119 rfl dM_act_274 ?_
                        refine mj_iand C dM_act_277 ?_
                        refine mj_callV_vWM C (qM_place hok h) (g_M_place l_M_122) rfl e_Model z_M_place ⟨Nat.le_of_ble_eq_true rfl, Nat.le_of_ble_eq_true rfl, rfl, rfl⟩ rfl rfl (Nat.le_of_ble_eq_true rfl) dM_act_278 (fun k26 h => ?_)
                        refine mj_goto (tgt := 346) C dM_act_281 (by decide) ?_
                        exact mj_vret C Z dM_act_346 ⟨_, rfl, rfl, h⟩
                    · have h := h.2 c16
                      refine mj_aload_n C dM_act_242 rfl ?_
                      refine mj_iload_n C dM_act_243 rfl ?_
                      refine mj_callV_vWM C (qM_answer hok h) (g_M_answer l_M_169) rfl e_Model z_M_answer ⟨Nat.le_of_ble_eq_true rfl, Nat.le_of_ble_eq_true rfl, rfl, rfl⟩ rfl rfl (Nat.le_of_ble_eq_true rfl) dM_act_244 (fun k27 h => ?_)
                      refine mj_goto (tgt := 346) C dM_act_247 (by decide) ?_
                      exact mj_vret C Z dM_act_346 ⟨_, rfl, rfl, h⟩
                  · have h := h.2 c15
                    refine mj_aload_n C dM_act_226 rfl ?_
                    refine mj_iload_n C dM_act_227 rfl ?_
                    refine mj_iload C dM_act_228 rfl ?_
                    refine mj_callV_vWM C (qM_receive hok h) (g_M_receive l_M_166) rfl e_Model z_M_receive ⟨Nat.le_of_ble_eq_true rfl, Nat.le_of_ble_eq_true rfl, rfl, rfl⟩ rfl rfl (Nat.le_of_ble_eq_true rfl) dM_act_230 (fun k28 h => ?_)
                    refine mj_goto (tgt := 346) C dM_act_233 (by decide) ?_
                    exact mj_vret C Z dM_act_346 ⟨_, rfl, rfl, h⟩
                · have h := h.2 c14
                  exact mj_sub2 (uM_act_199 hok C Z  h) ⟨rfl, rfl, rfl, rfl, trivial⟩
            · have h := h.2 c10
              refine mj_aload_n C dM_act_178 rfl ?_
              refine mj_iload C dM_act_179 rfl ?_
              refine mj_callV_vWM C (qM_write hok h) (g_M_write l_M_159) rfl e_Model z_M_write ⟨Nat.le_of_ble_eq_true rfl, Nat.le_of_ble_eq_true rfl, rfl, rfl⟩ rfl rfl (Nat.le_of_ble_eq_true rfl) dM_act_181 (fun k29 h => ?_)
              refine mj_goto (tgt := 346) C dM_act_184 (by decide) ?_
              exact mj_vret C Z dM_act_346 ⟨_, rfl, rfl, h⟩
          · have h := h.2 c9
            refine mj_aload_n C dM_act_163 rfl ?_
            refine mj_iload_n C dM_act_164 rfl ?_
            refine mj_iload_n C dM_act_165 rfl ?_
            refine mj_callV_vWM C (qM_move hok h) (g_M_move l_M_156) rfl e_Model z_M_move ⟨Nat.le_of_ble_eq_true rfl, Nat.le_of_ble_eq_true rfl, rfl, rfl⟩ rfl rfl (Nat.le_of_ble_eq_true rfl) dM_act_166 (fun k30 h => ?_)
            refine mj_goto (tgt := 346) C dM_act_169 (by decide) ?_
            exact mj_vret C Z dM_act_346 ⟨_, rfl, rfl, h⟩
        · have h := h.2 c8
          refine mj_aload_n C dM_act_129 rfl ?_
          refine mj_getR C inM_all rfl e_Model 1 (by decide) l_M_7 rfl dM_act_130 ?_
          refine mj_aload_n C dM_act_133 rfl ?_
          refine mj_getR C inM_all rfl e_Model 5 (by decide) l_M_22 rfl dM_act_134 ?_
          refine mj_iload_n C dM_act_137 rfl ?_
          refine mj_iald (t0 := 0) C e_m_bases rfl h.1 dM_act_138 ?_
          have h := h.2
          refine mj_iload C dM_act_139 rfl ?_
          refine mj_iadd C dM_act_141 ?_
          refine mj_aload_n C dM_act_142 rfl ?_
          refine mj_getI C inM_all rfl e_Model 27 (by decide) l_M_119 rfl dM_act_143 ?_
          refine mj_iadd C dM_act_146 ?_
          refine mj_aload_n C dM_act_147 rfl ?_
          refine mj_getR C inM_all rfl e_Model 8 (by decide) l_M_31 rfl dM_act_148 ?_
          refine mj_iload_n C dM_act_151 rfl ?_
          refine mj_iald (t0 := 0) C e_m_registers rfl h.1 dM_act_152 ?_
          have h := h.2
          refine mj_iast (t0 := 0) C e_m_memory rfl h.1 s_m_memory dM_act_153 ?_
          have h := h.2 _ rfl
          refine mj_goto (tgt := 346) C dM_act_154 (by decide) ?_
          exact mj_vret C Z dM_act_346 ⟨_, rfl, rfl, h⟩
      · have h := h.2 c7
        refine mj_aload_n C dM_act_95 rfl ?_
        refine mj_getR C inM_all rfl e_Model 8 (by decide) l_M_31 rfl dM_act_96 ?_
        refine mj_iload_n C dM_act_99 rfl ?_
        refine mj_aload_n C dM_act_100 rfl ?_
        refine mj_getR C inM_all rfl e_Model 1 (by decide) l_M_7 rfl dM_act_101 ?_
        refine mj_aload_n C dM_act_104 rfl ?_
        refine mj_getR C inM_all rfl e_Model 5 (by decide) l_M_22 rfl dM_act_105 ?_
        refine mj_iload_n C dM_act_108 rfl ?_
        refine mj_iald (t0 := 0) C e_m_bases rfl h.1 dM_act_109 ?_
        have h := h.2
        refine mj_iload C dM_act_110 rfl ?_
        refine mj_iadd C dM_act_112 ?_
        refine mj_aload_n C dM_act_113 rfl ?_
        refine mj_getI C inM_all rfl e_Model 27 (by decide) l_M_119 rfl dM_act_114 ?_
        refine mj_iadd C dM_act_117 ?_
        refine mj_iald (t0 := 0) C e_m_memory rfl h.1 dM_act_118 ?_
        have h := h.2
        refine mj_iast (t0 := 0) C e_m_registers rfl h.1 s_m_registers dM_act_119 ?_
        have h := h.2 _ rfl
        refine mj_goto (tgt := 346) C dM_act_120 (by decide) ?_
        exact mj_vret C Z dM_act_346 ⟨_, rfl, rfl, h⟩
    · have h := h.2 c6
      refine mj_aload_n C dM_act_71 rfl ?_
      refine mj_getR C inM_all rfl e_Model 8 (by decide) l_M_31 rfl dM_act_72 ?_
      refine mj_iload_n C dM_act_75 rfl ?_
      refine mj_aload_n C dM_act_76 rfl ?_
      refine mj_iload_n C dM_act_77 rfl ?_
      refine mj_iload C dM_act_78 rfl ?_
      refine mj_iload C dM_act_80 rfl ?_
      refine mj_callV_iR C (qM_result hok h) (g_M_result l_M_152) rfl e_Model z_M_result ⟨Nat.le_of_ble_eq_true rfl, Nat.le_of_ble_eq_true rfl, rfl, rfl⟩ rfl rfl (Nat.le_of_ble_eq_true rfl) dM_act_82 (fun a33 h => ?_)
      refine mj_iast (t0 := 0) C e_m_registers rfl h.1 s_m_registers dM_act_85 ?_
      have h := h.2 _ rfl
      refine mj_goto (tgt := 346) C dM_act_86 (by decide) ?_
      exact mj_vret C Z dM_act_346 ⟨_, rfl, rfl, h⟩
  · have h := h.2 c5
    refine mj_aload_n C dM_act_54 rfl ?_
    refine mj_getR C inM_all rfl e_Model 2 (by decide) l_M_13 rfl dM_act_55 ?_
    refine mj_iload_n C dM_act_58 rfl ?_
    refine mj_bipush (a := 6) C dM_act_59 (by decide) ?_
    refine mj_iast (t0 := 0) C e_m_states rfl h.1 s_m_states dM_act_61 ?_
    have h := h.2 _ rfl
    refine mj_goto (tgt := 346) C dM_act_62 (by decide) ?_
    exact mj_vret C Z dM_act_346 ⟨_, rfl, rfl, h⟩
/-! GrantKernelModel.execute -/
def wM_execute_21 (x1 : Int32)  (k : mj_St) (Q : mj_St → Prop)  : Prop := wM_fail x1 1 k (fun k3 => (Q k3))
set_option maxRecDepth 100000 in
set_option maxHeartbeats 4000000 in
theorem uM_execute_21 {E : mj_E} {r : mj_R} {mm : mj_St} {Q : mj_St → Prop} (hok : mj_Ok (mk_v E)) (C : mj_Cx (mk_v E) r cM_execute 6 RM mj_all { frames := 5, cells := 0, slots := 0, locals := 121 }) (Z : mj_Cr (mk_v E) r none (mj_vM mm Q)) {x1 : Int32} {k : mj_St}   (h : wM_execute_21 x1 k Q) : mj_G (mk_v E) r 21 [(0, .ref 34), (1, .int x1)] [] (mm, k) := by
  unfold wM_execute_21 at h
  refine mj_aload_n C dM_execute_21 rfl ?_
  refine mj_iload_n C dM_execute_22 rfl ?_
  refine mj_iconst (a := 1) C dM_execute_23 (by decide) ?_
  refine mj_callV_vWM C (qM_fail hok h) (g_M_fail l_M_175) rfl e_Model z_M_fail ⟨Nat.le_of_ble_eq_true rfl, Nat.le_of_ble_eq_true rfl, rfl, rfl⟩ rfl rfl (Nat.le_of_ble_eq_true rfl) dM_execute_24 (fun k3 h => ?_)
  exact mj_vret C Z dM_execute_27 ⟨_, rfl, rfl, h⟩
def wM_execute (p0 : Int32) (k : mj_St) (Q : mj_St → Prop) : Prop := vp_in p0 6 ∧ (∀ a1 : Int32, a1 = k 4 p0.toNatClampNeg → (((a1 < 0) → wM_execute_21 p0 k Q) ∧ ((¬ a1 < 0) → vp_in p0 6 ∧ (((a1 < (k 6 p0.toNatClampNeg)) → vp_in p0 6 ∧ (vp_in ((k 5 p0.toNatClampNeg) + a1) 128 ∧ (∀ a5 : Int32, a5 = k 1 ((k 5 p0.toNatClampNeg) + a1).toNatClampNeg → (∀ a6 : Int32, a6 = a5 &&& 31 → (∀ k7 : mj_St, k7 = mj_up k 0 24 ((a5 >>> (5 &&& 31)) &&& 7) → (∀ k8 : mj_St, k8 = mj_up k7 0 25 ((a5 >>> (8 &&& 31)) &&& 7) → (∀ k9 : mj_St, k9 = mj_up k8 0 26 ((a5 >>> (11 &&& 31)) &&& 7) → (∀ k10 : mj_St, k10 = mj_up k9 0 27 (a5 >>> (14 &&& 31)) → (wM_faultOf p0 a6 k10 (fun a11 => (((a11 ≤ 0) → ∀ k13 : mj_St, k13 = mj_up k10 0 28 (a1 + 1) → (wM_act p0 a6 k13 (fun k14 => (vp_in p0 6 ∧ (∀ k15 : mj_St, k15 = mj_up k14 4 p0.toNatClampNeg (k14 0 28) → (((¬ a6 = 13) → ∀ k17 : mj_St, k17 = mj_up k15 0 12 ((k15 0 12) + 1) → (Q k17)) ∧ ((a6 = 13) → ∀ k18 : mj_St, k18 = mj_up k15 0 12 (k15 0 0) → (Q k18)))))))) ∧ ((¬ a11 ≤ 0) → wM_fail p0 a11 k10 (fun k19 => (Q k19)))))))))))))) ∧ ((¬ a1 < (k 6 p0.toNatClampNeg)) → wM_execute_21 p0 k Q)))))
set_option maxRecDepth 100000 in
set_option maxHeartbeats 4000000 in
theorem qM_execute {E : mj_E} (hok : mj_Ok (mk_v E)) {p0 : Int32} {k mm : mj_St} {Q : mj_St → Prop} (h : wM_execute p0 k Q) : mj_Ct (mk_v E) yM_execute (Cond.code yM_execute cM_execute 6 none :: mj_all) { frames := 5, cells := 0, slots := 0, locals := 121 } [.ref 34, .int p0] (mm, k) (mj_vM mm Q) := by
  refine mj_enterA (L := [(0, .ref 34), (1, .int p0)]) hok (by decide +kernel) ⟨rfl, rfl⟩ (fun _ => Nat.le_of_ble_eq_true rfl) rfl (fun r C Z => ?_)
  unfold wM_execute at h
  refine mj_aload_n C dM_execute_0 rfl ?_
  refine mj_getR C inM_all rfl e_Model 4 (by decide) l_M_19 rfl dM_execute_1 ?_
  refine mj_iload_n C dM_execute_4 rfl ?_
  refine mj_iald (t0 := 0) C e_m_counters rfl h.1 dM_execute_5 ?_
  have h := h.2
  refine mj_istore_n C dM_execute_6 (by decide) rfl ?_
  have h := h _ rfl
  refine mj_iload_n C dM_execute_7 rfl ?_
  refine mj_if_lt (tgt := 21) C dM_execute_8 (by decide) (fun c2 => ?_) (fun c2 => ?_)
  · have h := h.1 c2
    exact mj_sub2 (uM_execute_21 hok C Z  h) ⟨rfl, rfl, trivial⟩
  · have h := h.2 c2
    refine mj_iload_n C dM_execute_11 rfl ?_
    refine mj_aload_n C dM_execute_12 rfl ?_
    refine mj_getR C inM_all rfl e_Model 6 (by decide) l_M_25 rfl dM_execute_13 ?_
    refine mj_iload_n C dM_execute_16 rfl ?_
    refine mj_iald (t0 := 0) C e_m_lengths rfl h.1 dM_execute_17 ?_
    have h := h.2
    refine mj_icmp_lt (tgt := 28) C dM_execute_18 (by decide) (fun c4 => ?_) (fun c4 => ?_)
    · have h := h.1 c4
      refine mj_aload_n C dM_execute_28 rfl ?_
      refine mj_getR C inM_all rfl e_Model 1 (by decide) l_M_7 rfl dM_execute_29 ?_
      refine mj_aload_n C dM_execute_32 rfl ?_
      refine mj_getR C inM_all rfl e_Model 5 (by decide) l_M_22 rfl dM_execute_33 ?_
      refine mj_iload_n C dM_execute_36 rfl ?_
      refine mj_iald (t0 := 0) C e_m_bases rfl h.1 dM_execute_37 ?_
      have h := h.2
      refine mj_iload_n C dM_execute_38 rfl ?_
      refine mj_iadd C dM_execute_39 ?_
      refine mj_iald (t0 := 0) C e_m_memory rfl h.1 dM_execute_40 ?_
      have h := h.2
      refine mj_istore_n C dM_execute_41 (by decide) rfl ?_
      have h := h _ rfl
      refine mj_iload_n C dM_execute_42 rfl ?_
      refine mj_bipush (a := 31) C dM_execute_43 (by decide) ?_
      refine mj_iand C dM_execute_45 ?_
      refine mj_istore C dM_execute_46 (by decide) rfl ?_
      have h := h _ rfl
      refine mj_aload_n C dM_execute_48 rfl ?_
      refine mj_iload_n C dM_execute_49 rfl ?_
      refine mj_iconst (a := 5) C dM_execute_50 (by decide) ?_
      refine mj_ishr C dM_execute_51 ?_
      refine mj_bipush (a := 7) C dM_execute_52 (by decide) ?_
      refine mj_iand C dM_execute_54 ?_
      refine mj_put C inM_all rfl tyM okM nmM e_Model 24 (by decide) l_M_142 rfl (by decide +kernel) (Nat.le_of_ble_eq_true rfl) s_Model_24 dM_execute_55 ?_
      have h := h _ rfl
      refine mj_aload_n C dM_execute_58 rfl ?_
      refine mj_iload_n C dM_execute_59 rfl ?_
      refine mj_bipush (a := 8) C dM_execute_60 (by decide) ?_
      refine mj_ishr C dM_execute_62 ?_
      refine mj_bipush (a := 7) C dM_execute_63 (by decide) ?_
      refine mj_iand C dM_execute_65 ?_
      refine mj_put C inM_all rfl tyM okM nmM e_Model 25 (by decide) l_M_113 rfl (by decide +kernel) (Nat.le_of_ble_eq_true rfl) s_Model_25 dM_execute_66 ?_
      have h := h _ rfl
      refine mj_aload_n C dM_execute_69 rfl ?_
      refine mj_iload_n C dM_execute_70 rfl ?_
      refine mj_bipush (a := 11) C dM_execute_71 (by decide) ?_
      refine mj_ishr C dM_execute_73 ?_
      refine mj_bipush (a := 7) C dM_execute_74 (by decide) ?_
      refine mj_iand C dM_execute_76 ?_
      refine mj_put C inM_all rfl tyM okM nmM e_Model 26 (by decide) l_M_116 rfl (by decide +kernel) (Nat.le_of_ble_eq_true rfl) s_Model_26 dM_execute_77 ?_
      have h := h _ rfl
      refine mj_aload_n C dM_execute_80 rfl ?_
      refine mj_iload_n C dM_execute_81 rfl ?_
      refine mj_bipush (a := 14) C dM_execute_82 (by decide) ?_
      refine mj_ishr C dM_execute_84 ?_
      refine mj_put C inM_all rfl tyM okM nmM e_Model 27 (by decide) l_M_119 rfl (by decide +kernel) (Nat.le_of_ble_eq_true rfl) s_Model_27 dM_execute_85 ?_
      have h := h _ rfl
      refine mj_aload_n C dM_execute_88 rfl ?_
      refine mj_iload_n C dM_execute_89 rfl ?_
      refine mj_iload C dM_execute_90 rfl ?_
      refine mj_callV_iR C (qM_faultOf hok h) (g_M_faultOf l_M_178) rfl e_Model z_M_faultOf ⟨Nat.le_of_ble_eq_true rfl, Nat.le_of_ble_eq_true rfl, rfl, rfl⟩ rfl rfl (Nat.le_of_ble_eq_true rfl) dM_execute_92 (fun a11 h => ?_)
      refine mj_istore C dM_execute_95 (by decide) rfl ?_
      refine mj_iload C dM_execute_97 rfl ?_
      refine mj_if_le (tgt := 110) C dM_execute_99 (by decide) (fun c12 => ?_) (fun c12 => ?_)
      · have h := h.1 c12
        refine mj_aload_n C dM_execute_110 rfl ?_
        refine mj_iload_n C dM_execute_111 rfl ?_
        refine mj_iconst (a := 1) C dM_execute_112 (by decide) ?_
        refine mj_iadd C dM_execute_113 ?_
        refine mj_put C inM_all rfl tyM okM nmM e_Model 28 (by decide) l_M_149 rfl (by decide +kernel) (Nat.le_of_ble_eq_true rfl) s_Model_28 dM_execute_114 ?_
        have h := h _ rfl
        refine mj_aload_n C dM_execute_117 rfl ?_
        refine mj_iload_n C dM_execute_118 rfl ?_
        refine mj_iload C dM_execute_119 rfl ?_
        refine mj_callV_vWM C (qM_act hok h) (g_M_act l_M_181) rfl e_Model z_M_act ⟨Nat.le_of_ble_eq_true rfl, Nat.le_of_ble_eq_true rfl, rfl, rfl⟩ rfl rfl (Nat.le_of_ble_eq_true rfl) dM_execute_121 (fun k14 h => ?_)
        refine mj_aload_n C dM_execute_124 rfl ?_
        refine mj_getR C inM_all rfl e_Model 4 (by decide) l_M_19 rfl dM_execute_125 ?_
        refine mj_iload_n C dM_execute_128 rfl ?_
        refine mj_aload_n C dM_execute_129 rfl ?_
        refine mj_getI C inM_all rfl e_Model 28 (by decide) l_M_149 rfl dM_execute_130 ?_
        refine mj_iast (t0 := 0) C e_m_counters rfl h.1 s_m_counters dM_execute_133 ?_
        have h := h.2 _ rfl
        refine mj_aload_n C dM_execute_134 rfl ?_
        refine mj_iload C dM_execute_135 rfl ?_
        refine mj_bipush (a := 13) C dM_execute_137 (by decide) ?_
        refine mj_icmp_ne (tgt := 149) C dM_execute_139 (by decide) (fun c16 => ?_) (fun c16 => ?_)
        · have h := h.1 c16
          refine mj_aload_n C dM_execute_149 rfl ?_
          refine mj_getI C inM_all rfl e_Model 12 (by decide) l_M_184 rfl dM_execute_150 ?_
          refine mj_iconst (a := 1) C dM_execute_153 (by decide) ?_
          refine mj_iadd C dM_execute_154 ?_
          refine mj_put C inM_all rfl tyM okM nmM e_Model 12 (by decide) l_M_184 rfl (by decide +kernel) (Nat.le_of_ble_eq_true rfl) s_Model_12 dM_execute_155 ?_
          have h := h _ rfl
          exact mj_vret C Z dM_execute_158 ⟨_, rfl, rfl, h⟩
        · have h := h.2 c16
          refine mj_aload_n C dM_execute_142 rfl ?_
          refine mj_getI C inM_all rfl e_Model 0 (by decide) l_M_71 rfl dM_execute_143 ?_
          refine mj_goto (tgt := 155) C dM_execute_146 (by decide) ?_
          refine mj_put C inM_all rfl tyM okM nmM e_Model 12 (by decide) l_M_184 rfl (by decide +kernel) (Nat.le_of_ble_eq_true rfl) s_Model_12 dM_execute_155 ?_
          have h := h _ rfl
          exact mj_vret C Z dM_execute_158 ⟨_, rfl, rfl, h⟩
      · have h := h.2 c12
        refine mj_aload_n C dM_execute_102 rfl ?_
        refine mj_iload_n C dM_execute_103 rfl ?_
        refine mj_iload C dM_execute_104 rfl ?_
        refine mj_callV_vWM C (qM_fail hok h) (g_M_fail l_M_175) rfl e_Model z_M_fail ⟨Nat.le_of_ble_eq_true rfl, Nat.le_of_ble_eq_true rfl, rfl, rfl⟩ rfl rfl (Nat.le_of_ble_eq_true rfl) dM_execute_106 (fun k19 h => ?_)
        exact mj_vret C Z dM_execute_109 ⟨_, rfl, rfl, h⟩
    · have h := h.2 c4
      exact mj_sub2 (uM_execute_21 hok C Z  h) ⟨rfl, rfl, trivial⟩
/-! GrantKernelModel.oneStep -/
def wM_oneStep (p0 : Int32) (k : mj_St) (Q : mj_St → Prop) : Prop := wM_execute p0 k (fun k1 => (vp_in p0 6 ∧ ((((k1 2 p0.toNatClampNeg) = 1) → (((k1 0 12) < (k1 0 0)) → Q k1) ∧ ((¬ (k1 0 12) < (k1 0 0)) → wM_draw p0 k1 (fun k4 => (∀ k5 : mj_St, k5 = mj_up k4 0 12 0 → (Q k5))))) ∧ ((¬ (k1 2 p0.toNatClampNeg) = 1) → ∀ k6 : mj_St, k6 = mj_up k1 0 12 0 → (Q k6)))))
set_option maxRecDepth 100000 in
set_option maxHeartbeats 4000000 in
theorem qM_oneStep {E : mj_E} (hok : mj_Ok (mk_v E)) {p0 : Int32} {k mm : mj_St} {Q : mj_St → Prop} (h : wM_oneStep p0 k Q) : mj_Ct (mk_v E) yM_oneStep (Cond.code yM_oneStep cM_oneStep 2 none :: mj_all) { frames := 6, cells := 0, slots := 0, locals := 146 } [.ref 34, .int p0] (mm, k) (mj_vM mm Q) := by
  refine mj_enterA (L := [(0, .ref 34), (1, .int p0)]) hok (by decide +kernel) ⟨rfl, rfl⟩ (fun _ => Nat.le_of_ble_eq_true rfl) rfl (fun r C Z => ?_)
  unfold wM_oneStep at h
  refine mj_aload_n C dM_oneStep_0 rfl ?_
  refine mj_iload_n C dM_oneStep_1 rfl ?_
  refine mj_callV_vWM C (qM_execute hok h) (g_M_execute l_M_187) rfl e_Model z_M_execute ⟨Nat.le_of_ble_eq_true rfl, Nat.le_of_ble_eq_true rfl, rfl, rfl⟩ rfl rfl (Nat.le_of_ble_eq_true rfl) dM_oneStep_2 (fun k1 h => ?_)
  refine mj_aload_n C dM_oneStep_5 rfl ?_
  refine mj_getR C inM_all rfl e_Model 2 (by decide) l_M_13 rfl dM_oneStep_6 ?_
  refine mj_iload_n C dM_oneStep_9 rfl ?_
  refine mj_iald (t0 := 0) C e_m_states rfl h.1 dM_oneStep_10 ?_
  have h := h.2
  refine mj_iconst (a := 1) C dM_oneStep_11 (by decide) ?_
  refine mj_icmp_eq (tgt := 23) C dM_oneStep_12 (by decide) (fun c2 => ?_) (fun c2 => ?_)
  · have h := h.1 c2
    refine mj_aload_n C dM_oneStep_23 rfl ?_
    refine mj_getI C inM_all rfl e_Model 12 (by decide) l_M_184 rfl dM_oneStep_24 ?_
    refine mj_aload_n C dM_oneStep_27 rfl ?_
    refine mj_getI C inM_all rfl e_Model 0 (by decide) l_M_71 rfl dM_oneStep_28 ?_
    refine mj_icmp_lt (tgt := 44) C dM_oneStep_31 (by decide) (fun c3 => ?_) (fun c3 => ?_)
    · have h := h.1 c3
      exact mj_vret C Z dM_oneStep_44 ⟨_, rfl, rfl, h⟩
    · have h := h.2 c3
      refine mj_aload_n C dM_oneStep_34 rfl ?_
      refine mj_iload_n C dM_oneStep_35 rfl ?_
      refine mj_callV_vWM C (qM_draw hok h) (g_M_draw l_M_82) rfl e_Model z_M_draw ⟨Nat.le_of_ble_eq_true rfl, Nat.le_of_ble_eq_true rfl, rfl, rfl⟩ rfl rfl (Nat.le_of_ble_eq_true rfl) dM_oneStep_36 (fun k4 h => ?_)
      refine mj_aload_n C dM_oneStep_39 rfl ?_
      refine mj_iconst (a := 0) C dM_oneStep_40 (by decide) ?_
      refine mj_put C inM_all rfl tyM okM nmM e_Model 12 (by decide) l_M_184 rfl (by decide +kernel) (Nat.le_of_ble_eq_true rfl) s_Model_12 dM_oneStep_41 ?_
      have h := h _ rfl
      exact mj_vret C Z dM_oneStep_44 ⟨_, rfl, rfl, h⟩
  · have h := h.2 c2
    refine mj_aload_n C dM_oneStep_15 rfl ?_
    refine mj_iconst (a := 0) C dM_oneStep_16 (by decide) ?_
    refine mj_put C inM_all rfl tyM okM nmM e_Model 12 (by decide) l_M_184 rfl (by decide +kernel) (Nat.le_of_ble_eq_true rfl) s_Model_12 dM_oneStep_17 ?_
    have h := h _ rfl
    refine mj_goto (tgt := 44) C dM_oneStep_20 (by decide) ?_
    exact mj_vret C Z dM_oneStep_44 ⟨_, rfl, rfl, h⟩
/-! GrantKernelModel.step -/
def wM_step_22 (n : Nat) (x1 : Int32) (x2 : Int32) (x3 : Int32)  (k : mj_St) (Q : Int32 → mj_St → Prop)  : Prop := match n with
  | 0 => False
  | n + 1 => ((x1 ≤ x2) → Q x2 k) ∧ ((¬ x1 ≤ x2) → ((x3 < 0) → Q x2 k) ∧ ((¬ x3 < 0) → wM_oneStep x3 k (fun k6 => (∀ a7 : Int32, a7 = x2 + 1 → (wM_at (-1) 0 k6 (fun a8 => (wM_step_22 n x1 a7 a8 k6 Q)))))))
set_option maxRecDepth 100000 in
set_option maxHeartbeats 4000000 in
theorem uM_step_22 {E : mj_E} {r : mj_R} {mm : mj_St} {Q : Int32 → mj_St → Prop} (hok : mj_Ok (mk_v E)) (C : mj_Cx (mk_v E) r cM_step 4 RM mj_all { frames := 7, cells := 0, slots := 0, locals := 167 }) (Z : mj_Cr (mk_v E) r (some .int) (mj_iM mm Q))   : ∀ (n : Nat) (x1 : Int32) (x2 : Int32) (x3 : Int32) (k : mj_St), wM_step_22 n x1 x2 x3 k Q → mj_G (mk_v E) r 22 [(0, .ref 34), (1, .int x1), (2, .int x2), (3, .int x3)] [] (mm, k) := by
  intro n
  induction n with
  | zero => intro x1 x2 x3 k h; exact False.elim h
  | succ n ih =>
    intro x1 x2 x3 k h
    rw [wM_step_22] at h
    refine mj_iload_n C dM_step_22 rfl ?_
    refine mj_iload_n C dM_step_23 rfl ?_
    refine mj_icmp_ge (tgt := 50) C dM_step_24 (by decide) (fun c4 => ?_) (fun c4 => ?_)
    · have h := h.1 c4
      refine mj_iload_n C dM_step_50 rfl ?_
      exact mj_iret C Z dM_step_51 ⟨_, _, rfl, rfl, h⟩
    · have h := h.2 c4
      refine mj_iload_n C dM_step_27 rfl ?_
      refine mj_if_lt (tgt := 50) C dM_step_28 (by decide) (fun c5 => ?_) (fun c5 => ?_)
      · have h := h.1 c5
        refine mj_iload_n C dM_step_50 rfl ?_
        exact mj_iret C Z dM_step_51 ⟨_, _, rfl, rfl, h⟩
      · have h := h.2 c5
        refine mj_aload_n C dM_step_31 rfl ?_
        refine mj_iload_n C dM_step_32 rfl ?_
        refine mj_callV_vWM C (qM_oneStep hok h) (g_M_oneStep l_M_190) rfl e_Model z_M_oneStep ⟨Nat.le_of_ble_eq_true rfl, Nat.le_of_ble_eq_true rfl, rfl, rfl⟩ rfl rfl (Nat.le_of_ble_eq_true rfl) dM_step_33 (fun k6 h => ?_)
        refine mj_iload_n C dM_step_36 rfl ?_
        refine mj_iconst (a := 1) C dM_step_37 (by decide) ?_
        refine mj_iadd C dM_step_38 ?_
        refine mj_istore_n C dM_step_39 (by decide) rfl ?_
        have h := h _ rfl
        refine mj_aload_n C dM_step_40 rfl ?_
        refine mj_iconst (a := (-1)) C dM_step_41 (by decide) ?_
        refine mj_iconst (a := 0) C dM_step_42 (by decide) ?_
        refine mj_callV_iR C (qM_at hok h) (g_M_at l_M_90) rfl e_Model z_M_at ⟨Nat.le_of_ble_eq_true rfl, Nat.le_of_ble_eq_true rfl, rfl, rfl⟩ rfl rfl (Nat.le_of_ble_eq_true rfl) dM_step_43 (fun a8 h => ?_)
        refine mj_istore_n C dM_step_46 (by decide) rfl ?_
        refine mj_goto (tgt := 22) C dM_step_47 (by decide) ?_
        exact mj_sub2 (ih _ _ _ _ h) ⟨rfl, rfl, rfl, rfl, trivial⟩
def wM_step (p0 : Int32) (k : mj_St) (Q : Int32 → mj_St → Prop) : Prop := ((p0 < 1) → Q (-1) k) ∧ ((¬ p0 < 1) → ((p0 ≤ 50) → wM_at (-1) 0 k (fun a3 => ((∃ e22, wM_step_22 e22 p0 0 a3 k Q)))) ∧ ((¬ p0 ≤ 50) → Q (-1) k))
set_option maxRecDepth 100000 in
set_option maxHeartbeats 4000000 in
theorem qM_step {E : mj_E} (hok : mj_Ok (mk_v E)) {p0 : Int32} {k mm : mj_St} {Q : Int32 → mj_St → Prop} (h : wM_step p0 k Q) : mj_Ct (mk_v E) yM_step (Cond.code yM_step cM_step 4 (some .int) :: mj_all) { frames := 7, cells := 0, slots := 0, locals := 167 } [.ref 34, .int p0] (mm, k) (mj_iM mm Q) := by
  refine mj_enterA (L := [(0, .ref 34), (1, .int p0)]) hok (by decide +kernel) ⟨rfl, rfl⟩ (fun _ => Nat.le_of_ble_eq_true rfl) rfl (fun r C Z => ?_)
  unfold wM_step at h
  refine mj_iload_n C dM_step_0 rfl ?_
  refine mj_iconst (a := 1) C dM_step_1 (by decide) ?_
  refine mj_icmp_lt (tgt := 11) C dM_step_2 (by decide) (fun c1 => ?_) (fun c1 => ?_)
  · have h := h.1 c1
    refine mj_iconst (a := (-1)) C dM_step_11 (by decide) ?_
    exact mj_iret C Z dM_step_12 ⟨_, _, rfl, rfl, h⟩
  · have h := h.2 c1
    refine mj_iload_n C dM_step_5 rfl ?_
    refine mj_bipush (a := 50) C dM_step_6 (by decide) ?_
    refine mj_icmp_le (tgt := 13) C dM_step_8 (by decide) (fun c2 => ?_) (fun c2 => ?_)
    · have h := h.1 c2
      refine mj_iconst (a := 0) C dM_step_13 (by decide) ?_
      refine mj_istore_n C dM_step_14 (by decide) rfl ?_
      refine mj_aload_n C dM_step_15 rfl ?_
      refine mj_iconst (a := (-1)) C dM_step_16 (by decide) ?_
      refine mj_iconst (a := 0) C dM_step_17 (by decide) ?_
      refine mj_callV_iR C (qM_at hok h) (g_M_at l_M_90) rfl e_Model z_M_at ⟨Nat.le_of_ble_eq_true rfl, Nat.le_of_ble_eq_true rfl, rfl, rfl⟩ rfl rfl (Nat.le_of_ble_eq_true rfl) dM_step_18 (fun a3 h => ?_)
      refine mj_istore_n C dM_step_21 (by decide) rfl ?_
      obtain ⟨n0, h⟩ := h
      exact mj_sub2 (uM_step_22 hok C Z  n0 _ _ _ _ h) ⟨rfl, rfl, rfl, rfl, trivial⟩
    · have h := h.2 c2
      refine mj_iconst (a := (-1)) C dM_step_11 (by decide) ?_
      exact mj_iret C Z dM_step_12 ⟨_, _, rfl, rfl, h⟩
/-! GrantKernelModel.state -/
def wM_state (p0 : Int32) (k : mj_St) (Q : Int32 → Prop) : Prop := wM_isThread p0 (fun a1 => (((a1 = 0) → Q (-1)) ∧ ((¬ a1 = 0) → vp_in p0 6 ∧ (Q (k 2 p0.toNatClampNeg)))))
set_option maxRecDepth 100000 in
set_option maxHeartbeats 4000000 in
theorem qM_state {E : mj_E} (hok : mj_Ok (mk_v E)) {p0 : Int32} {k mm : mj_St} {Q : Int32 → Prop} (h : wM_state p0 k Q) : mj_Ct (mk_v E) yM_state (Cond.code yM_state cM_state 2 (some .int) :: mj_all) { frames := 1, cells := 0, slots := 0, locals := 20 } [.ref 34, .int p0] (mm, k) (mj_iR (mm, k) Q) := by
  refine mj_enterA (L := [(0, .ref 34), (1, .int p0)]) hok (by decide +kernel) ⟨rfl, rfl⟩ (fun _ => Nat.le_of_ble_eq_true rfl) rfl (fun r C Z => ?_)
  unfold wM_state at h
  refine mj_iload_n C dM_state_0 rfl ?_
  refine mj_callS_iR C (qM_isThread hok h) (g_M_isThread l_M_75) z_M_isThread ⟨Nat.le_of_ble_eq_true rfl, Nat.le_of_ble_eq_true rfl, rfl, rfl⟩ rfl rfl (Nat.le_of_ble_eq_true rfl) dM_state_1 (fun a1 h => ?_)
  refine mj_if_eq (tgt := 16) C dM_state_4 (by decide) (fun c2 => ?_) (fun c2 => ?_)
  · have h := h.1 c2
    refine mj_iconst (a := (-1)) C dM_state_16 (by decide) ?_
    exact mj_iret C Z dM_state_17 ⟨_, rfl, rfl, h⟩
  · have h := h.2 c2
    refine mj_aload_n C dM_state_7 rfl ?_
    refine mj_getR C inM_all rfl e_Model 2 (by decide) l_M_13 rfl dM_state_8 ?_
    refine mj_iload_n C dM_state_11 rfl ?_
    refine mj_iald (t0 := 0) C e_m_states rfl h.1 dM_state_12 ?_
    have h := h.2
    refine mj_goto (tgt := 17) C dM_state_13 (by decide) ?_
    exact mj_iret C Z dM_state_17 ⟨_, rfl, rfl, h⟩
/-! GrantKernelModel.fault -/
def wM_fault (p0 : Int32) (k : mj_St) (Q : Int32 → Prop) : Prop := wM_isThread p0 (fun a1 => (((a1 = 0) → Q 0) ∧ ((¬ a1 = 0) → vp_in p0 6 ∧ (((¬ (k 2 p0.toNatClampNeg) = 5) → Q 0) ∧ (((k 2 p0.toNatClampNeg) = 5) → vp_in p0 6 ∧ (Q (k 3 p0.toNatClampNeg)))))))
set_option maxRecDepth 100000 in
set_option maxHeartbeats 4000000 in
theorem qM_fault {E : mj_E} (hok : mj_Ok (mk_v E)) {p0 : Int32} {k mm : mj_St} {Q : Int32 → Prop} (h : wM_fault p0 k Q) : mj_Ct (mk_v E) yM_fault (Cond.code yM_fault cM_fault 2 (some .int) :: mj_all) { frames := 1, cells := 0, slots := 0, locals := 20 } [.ref 34, .int p0] (mm, k) (mj_iR (mm, k) Q) := by
  refine mj_enterA (L := [(0, .ref 34), (1, .int p0)]) hok (by decide +kernel) ⟨rfl, rfl⟩ (fun _ => Nat.le_of_ble_eq_true rfl) rfl (fun r C Z => ?_)
  unfold wM_fault at h
  refine mj_iload_n C dM_fault_0 rfl ?_
  refine mj_callS_iR C (qM_isThread hok h) (g_M_isThread l_M_75) z_M_isThread ⟨Nat.le_of_ble_eq_true rfl, Nat.le_of_ble_eq_true rfl, rfl, rfl⟩ rfl rfl (Nat.le_of_ble_eq_true rfl) dM_fault_1 (fun a1 h => ?_)
  refine mj_if_eq (tgt := 26) C dM_fault_4 (by decide) (fun c2 => ?_) (fun c2 => ?_)
  · have h := h.1 c2
    refine mj_iconst (a := 0) C dM_fault_26 (by decide) ?_
    exact mj_iret C Z dM_fault_27 ⟨_, rfl, rfl, h⟩
  · have h := h.2 c2
    refine mj_aload_n C dM_fault_7 rfl ?_
    refine mj_getR C inM_all rfl e_Model 2 (by decide) l_M_13 rfl dM_fault_8 ?_
    refine mj_iload_n C dM_fault_11 rfl ?_
    refine mj_iald (t0 := 0) C e_m_states rfl h.1 dM_fault_12 ?_
    have h := h.2
    refine mj_iconst (a := 5) C dM_fault_13 (by decide) ?_
    refine mj_icmp_ne (tgt := 26) C dM_fault_14 (by decide) (fun c3 => ?_) (fun c3 => ?_)
    · have h := h.1 c3
      refine mj_iconst (a := 0) C dM_fault_26 (by decide) ?_
      exact mj_iret C Z dM_fault_27 ⟨_, rfl, rfl, h⟩
    · have h := h.2 c3
      refine mj_aload_n C dM_fault_17 rfl ?_
      refine mj_getR C inM_all rfl e_Model 3 (by decide) l_M_16 rfl dM_fault_18 ?_
      refine mj_iload_n C dM_fault_21 rfl ?_
      refine mj_iald (t0 := 0) C e_m_faults rfl h.1 dM_fault_22 ?_
      have h := h.2
      refine mj_goto (tgt := 27) C dM_fault_23 (by decide) ?_
      exact mj_iret C Z dM_fault_27 ⟨_, rfl, rfl, h⟩
/-! GrantKernelModel.register -/
def wM_register (p0 : Int32) (p1 : Int32) (k : mj_St) (Q : Int32 → Prop) : Prop := wM_isThere p0 k (fun a1 => (((a1 = 0) → Q 0) ∧ ((¬ a1 = 0) → wM_isEight p1 (fun a3 => (((a3 = 0) → Q 0) ∧ ((¬ a3 = 0) → vp_in ((8 * p0) + p1) 48 ∧ (Q (k 8 ((8 * p0) + p1).toNatClampNeg))))))))
set_option maxRecDepth 100000 in
set_option maxHeartbeats 4000000 in
theorem qM_register {E : mj_E} (hok : mj_Ok (mk_v E)) {p0 : Int32} {p1 : Int32} {k mm : mj_St} {Q : Int32 → Prop} (h : wM_register p0 p1 k Q) : mj_Ct (mk_v E) yM_register (Cond.code yM_register cM_register 3 (some .int) :: mj_all) { frames := 2, cells := 0, slots := 0, locals := 41 } [.ref 34, .int p0, .int p1] (mm, k) (mj_iR (mm, k) Q) := by
  refine mj_enterA (L := [(0, .ref 34), (1, .int p0), (2, .int p1)]) hok (by decide +kernel) ⟨rfl, rfl⟩ (fun _ => Nat.le_of_ble_eq_true rfl) rfl (fun r C Z => ?_)
  unfold wM_register at h
  refine mj_aload_n C dM_register_0 rfl ?_
  refine mj_iload_n C dM_register_1 rfl ?_
  refine mj_callV_iR C (qM_isThere hok h) (g_M_isThere l_M_104) rfl e_Model z_M_isThere ⟨Nat.le_of_ble_eq_true rfl, Nat.le_of_ble_eq_true rfl, rfl, rfl⟩ rfl rfl (Nat.le_of_ble_eq_true rfl) dM_register_2 (fun a1 h => ?_)
  refine mj_if_eq (tgt := 29) C dM_register_5 (by decide) (fun c2 => ?_) (fun c2 => ?_)
  · have h := h.1 c2
    refine mj_iconst (a := 0) C dM_register_29 (by decide) ?_
    exact mj_iret C Z dM_register_30 ⟨_, rfl, rfl, h⟩
  · have h := h.2 c2
    refine mj_iload_n C dM_register_8 rfl ?_
    refine mj_callS_iR C (qM_isEight hok h) (g_M_isEight l_M_107) z_M_isEight ⟨Nat.le_of_ble_eq_true rfl, Nat.le_of_ble_eq_true rfl, rfl, rfl⟩ rfl rfl (Nat.le_of_ble_eq_true rfl) dM_register_9 (fun a3 h => ?_)
    refine mj_if_eq (tgt := 29) C dM_register_12 (by decide) (fun c4 => ?_) (fun c4 => ?_)
    · have h := h.1 c4
      refine mj_iconst (a := 0) C dM_register_29 (by decide) ?_
      exact mj_iret C Z dM_register_30 ⟨_, rfl, rfl, h⟩
    · have h := h.2 c4
      refine mj_aload_n C dM_register_15 rfl ?_
      refine mj_getR C inM_all rfl e_Model 8 (by decide) l_M_31 rfl dM_register_16 ?_
      refine mj_bipush (a := 8) C dM_register_19 (by decide) ?_
      refine mj_iload_n C dM_register_21 rfl ?_
      refine mj_imul C dM_register_22 ?_
      refine mj_iload_n C dM_register_23 rfl ?_
      refine mj_iadd C dM_register_24 ?_
      refine mj_iald (t0 := 0) C e_m_registers rfl h.1 dM_register_25 ?_
      have h := h.2
      refine mj_goto (tgt := 30) C dM_register_26 (by decide) ?_
      exact mj_iret C Z dM_register_30 ⟨_, rfl, rfl, h⟩
/-! GrantKernelModel.counter -/
def wM_counter (p0 : Int32) (k : mj_St) (Q : Int32 → Prop) : Prop := wM_isThere p0 k (fun a1 => (((a1 = 0) → Q (-1)) ∧ ((¬ a1 = 0) → vp_in p0 6 ∧ (Q (k 4 p0.toNatClampNeg)))))
set_option maxRecDepth 100000 in
set_option maxHeartbeats 4000000 in
theorem qM_counter {E : mj_E} (hok : mj_Ok (mk_v E)) {p0 : Int32} {k mm : mj_St} {Q : Int32 → Prop} (h : wM_counter p0 k Q) : mj_Ct (mk_v E) yM_counter (Cond.code yM_counter cM_counter 2 (some .int) :: mj_all) { frames := 2, cells := 0, slots := 0, locals := 41 } [.ref 34, .int p0] (mm, k) (mj_iR (mm, k) Q) := by
  refine mj_enterA (L := [(0, .ref 34), (1, .int p0)]) hok (by decide +kernel) ⟨rfl, rfl⟩ (fun _ => Nat.le_of_ble_eq_true rfl) rfl (fun r C Z => ?_)
  unfold wM_counter at h
  refine mj_aload_n C dM_counter_0 rfl ?_
  refine mj_iload_n C dM_counter_1 rfl ?_
  refine mj_callV_iR C (qM_isThere hok h) (g_M_isThere l_M_104) rfl e_Model z_M_isThere ⟨Nat.le_of_ble_eq_true rfl, Nat.le_of_ble_eq_true rfl, rfl, rfl⟩ rfl rfl (Nat.le_of_ble_eq_true rfl) dM_counter_2 (fun a1 h => ?_)
  refine mj_if_eq (tgt := 17) C dM_counter_5 (by decide) (fun c2 => ?_) (fun c2 => ?_)
  · have h := h.1 c2
    refine mj_iconst (a := (-1)) C dM_counter_17 (by decide) ?_
    exact mj_iret C Z dM_counter_18 ⟨_, rfl, rfl, h⟩
  · have h := h.2 c2
    refine mj_aload_n C dM_counter_8 rfl ?_
    refine mj_getR C inM_all rfl e_Model 4 (by decide) l_M_19 rfl dM_counter_9 ?_
    refine mj_iload_n C dM_counter_12 rfl ?_
    refine mj_iald (t0 := 0) C e_m_counters rfl h.1 dM_counter_13 ?_
    have h := h.2
    refine mj_goto (tgt := 18) C dM_counter_14 (by decide) ?_
    exact mj_iret C Z dM_counter_18 ⟨_, rfl, rfl, h⟩
/-! GrantKernelModel.caller -/
def wM_caller (p0 : Int32) (k : mj_St) (Q : Int32 → Prop) : Prop := wM_isThere p0 k (fun a1 => (((a1 = 0) → Q (-1)) ∧ ((¬ a1 = 0) → vp_in p0 6 ∧ (Q (k 7 p0.toNatClampNeg)))))
set_option maxRecDepth 100000 in
set_option maxHeartbeats 4000000 in
theorem qM_caller {E : mj_E} (hok : mj_Ok (mk_v E)) {p0 : Int32} {k mm : mj_St} {Q : Int32 → Prop} (h : wM_caller p0 k Q) : mj_Ct (mk_v E) yM_caller (Cond.code yM_caller cM_caller 2 (some .int) :: mj_all) { frames := 2, cells := 0, slots := 0, locals := 41 } [.ref 34, .int p0] (mm, k) (mj_iR (mm, k) Q) := by
  refine mj_enterA (L := [(0, .ref 34), (1, .int p0)]) hok (by decide +kernel) ⟨rfl, rfl⟩ (fun _ => Nat.le_of_ble_eq_true rfl) rfl (fun r C Z => ?_)
  unfold wM_caller at h
  refine mj_aload_n C dM_caller_0 rfl ?_
  refine mj_iload_n C dM_caller_1 rfl ?_
  refine mj_callV_iR C (qM_isThere hok h) (g_M_isThere l_M_104) rfl e_Model z_M_isThere ⟨Nat.le_of_ble_eq_true rfl, Nat.le_of_ble_eq_true rfl, rfl, rfl⟩ rfl rfl (Nat.le_of_ble_eq_true rfl) dM_caller_2 (fun a1 h => ?_)
  refine mj_if_eq (tgt := 17) C dM_caller_5 (by decide) (fun c2 => ?_) (fun c2 => ?_)
  · have h := h.1 c2
    refine mj_iconst (a := (-1)) C dM_caller_17 (by decide) ?_
    exact mj_iret C Z dM_caller_18 ⟨_, rfl, rfl, h⟩
  · have h := h.2 c2
    refine mj_aload_n C dM_caller_8 rfl ?_
    refine mj_getR C inM_all rfl e_Model 7 (by decide) l_M_28 rfl dM_caller_9 ?_
    refine mj_iload_n C dM_caller_12 rfl ?_
    refine mj_iald (t0 := 0) C e_m_callers rfl h.1 dM_caller_13 ?_
    have h := h.2
    refine mj_goto (tgt := 18) C dM_caller_14 (by decide) ?_
    exact mj_iret C Z dM_caller_18 ⟨_, rfl, rfl, h⟩
/-! GrantKernelModel.isCapability -/
def wM_isCapability (p0 : Int32) (p1 : Int32) (k : mj_St) (Q : Int32 → Prop) : Prop := wM_isThread p0 (fun a1 => (((a1 = 0) → Q 0) ∧ ((¬ a1 = 0) → wM_isEight p1 (fun a3 => (((a3 = 0) → Q 0) ∧ ((¬ a3 = 0) → vp_in p0 6 ∧ ((((k 2 p0.toNatClampNeg) = 0) → Q 0) ∧ ((¬ (k 2 p0.toNatClampNeg) = 0) → vp_in ((8 * p0) + p1) 48 ∧ ((((k 16 ((8 * p0) + p1).toNatClampNeg) = 0) → Q 0) ∧ ((¬ (k 16 ((8 * p0) + p1).toNatClampNeg) = 0) → Q 1))))))))))
set_option maxRecDepth 100000 in
set_option maxHeartbeats 4000000 in
theorem qM_isCapability {E : mj_E} (hok : mj_Ok (mk_v E)) {p0 : Int32} {p1 : Int32} {k mm : mj_St} {Q : Int32 → Prop} (h : wM_isCapability p0 p1 k Q) : mj_Ct (mk_v E) yM_isCapability (Cond.code yM_isCapability cM_isCapability 3 (some .boolean) :: mj_all) { frames := 1, cells := 0, slots := 0, locals := 20 } [.ref 34, .int p0, .int p1] (mm, k) (mj_iR (mm, k) Q) := by
  refine mj_enterA (L := [(0, .ref 34), (1, .int p0), (2, .int p1)]) hok (by decide +kernel) ⟨rfl, rfl⟩ (fun _ => Nat.le_of_ble_eq_true rfl) rfl (fun r C Z => ?_)
  unfold wM_isCapability at h
  refine mj_iload_n C dM_isCapability_0 rfl ?_
  refine mj_callS_iR C (qM_isThread hok h) (g_M_isThread l_M_75) z_M_isThread ⟨Nat.le_of_ble_eq_true rfl, Nat.le_of_ble_eq_true rfl, rfl, rfl⟩ rfl rfl (Nat.le_of_ble_eq_true rfl) dM_isCapability_1 (fun a1 h => ?_)
  refine mj_if_eq (tgt := 41) C dM_isCapability_4 (by decide) (fun c2 => ?_) (fun c2 => ?_)
  · have h := h.1 c2
    refine mj_iconst (a := 0) C dM_isCapability_41 (by decide) ?_
    exact mj_zret C Z (Or.inl rfl) dM_isCapability_42 ⟨_, rfl, rfl, h⟩
  · have h := h.2 c2
    refine mj_iload_n C dM_isCapability_7 rfl ?_
    refine mj_callS_iR C (qM_isEight hok h) (g_M_isEight l_M_107) z_M_isEight ⟨Nat.le_of_ble_eq_true rfl, Nat.le_of_ble_eq_true rfl, rfl, rfl⟩ rfl rfl (Nat.le_of_ble_eq_true rfl) dM_isCapability_8 (fun a3 h => ?_)
    refine mj_if_eq (tgt := 41) C dM_isCapability_11 (by decide) (fun c4 => ?_) (fun c4 => ?_)
    · have h := h.1 c4
      refine mj_iconst (a := 0) C dM_isCapability_41 (by decide) ?_
      exact mj_zret C Z (Or.inl rfl) dM_isCapability_42 ⟨_, rfl, rfl, h⟩
    · have h := h.2 c4
      refine mj_aload_n C dM_isCapability_14 rfl ?_
      refine mj_getR C inM_all rfl e_Model 2 (by decide) l_M_13 rfl dM_isCapability_15 ?_
      refine mj_iload_n C dM_isCapability_18 rfl ?_
      refine mj_iald (t0 := 0) C e_m_states rfl h.1 dM_isCapability_19 ?_
      have h := h.2
      refine mj_if_eq (tgt := 41) C dM_isCapability_20 (by decide) (fun c5 => ?_) (fun c5 => ?_)
      · have h := h.1 c5
        refine mj_iconst (a := 0) C dM_isCapability_41 (by decide) ?_
        exact mj_zret C Z (Or.inl rfl) dM_isCapability_42 ⟨_, rfl, rfl, h⟩
      · have h := h.2 c5
        refine mj_aload_n C dM_isCapability_23 rfl ?_
        refine mj_getR C inM_all rfl e_Model 18 (by decide) l_M_56 rfl dM_isCapability_24 ?_
        refine mj_bipush (a := 8) C dM_isCapability_27 (by decide) ?_
        refine mj_iload_n C dM_isCapability_29 rfl ?_
        refine mj_imul C dM_isCapability_30 ?_
        refine mj_iload_n C dM_isCapability_31 rfl ?_
        refine mj_iadd C dM_isCapability_32 ?_
        refine mj_iald (t0 := 0) C e_m_kinds rfl h.1 dM_isCapability_33 ?_
        have h := h.2
        refine mj_if_eq (tgt := 41) C dM_isCapability_34 (by decide) (fun c6 => ?_) (fun c6 => ?_)
        · have h := h.1 c6
          refine mj_iconst (a := 0) C dM_isCapability_41 (by decide) ?_
          exact mj_zret C Z (Or.inl rfl) dM_isCapability_42 ⟨_, rfl, rfl, h⟩
        · have h := h.2 c6
          refine mj_iconst (a := 1) C dM_isCapability_37 (by decide) ?_
          refine mj_goto (tgt := 42) C dM_isCapability_38 (by decide) ?_
          exact mj_zret C Z (Or.inr rfl) dM_isCapability_42 ⟨_, rfl, rfl, h⟩
/-! GrantKernelModel.capability -/
def wM_capability (p0 : Int32) (p1 : Int32) (p2 : Int32) (k : mj_St) (Q : Int32 → Prop) : Prop := wM_isCapability p0 p1 k (fun a1 => (((a1 = 0) → Q (-1)) ∧ ((¬ a1 = 0) → ((p2 < 0) → Q (-1)) ∧ ((¬ p2 < 0) → ((p2 ≤ 3) → ∀ a5 : Int32, a5 = (8 * p0) + p1 → (((¬ p2 = 0) → ((¬ p2 = 1) → ((¬ p2 = 2) → vp_in a5 48 ∧ (Q (k 19 a5.toNatClampNeg))) ∧ ((p2 = 2) → vp_in a5 48 ∧ (Q (k 18 a5.toNatClampNeg)))) ∧ ((p2 = 1) → vp_in a5 48 ∧ (Q (k 17 a5.toNatClampNeg)))) ∧ ((p2 = 0) → vp_in a5 48 ∧ (Q (k 16 a5.toNatClampNeg))))) ∧ ((¬ p2 ≤ 3) → Q (-1))))))
set_option maxRecDepth 100000 in
set_option maxHeartbeats 4000000 in
theorem qM_capability {E : mj_E} (hok : mj_Ok (mk_v E)) {p0 : Int32} {p1 : Int32} {p2 : Int32} {k mm : mj_St} {Q : Int32 → Prop} (h : wM_capability p0 p1 p2 k Q) : mj_Ct (mk_v E) yM_capability (Cond.code yM_capability cM_capability 5 (some .int) :: mj_all) { frames := 2, cells := 0, slots := 0, locals := 42 } [.ref 34, .int p0, .int p1, .int p2] (mm, k) (mj_iR (mm, k) Q) := by
  refine mj_enterA (L := [(0, .ref 34), (1, .int p0), (2, .int p1), (3, .int p2)]) hok (by decide +kernel) ⟨rfl, rfl⟩ (fun _ => Nat.le_of_ble_eq_true rfl) rfl (fun r C Z => ?_)
  unfold wM_capability at h
  refine mj_aload_n C dM_capability_0 rfl ?_
  refine mj_iload_n C dM_capability_1 rfl ?_
  refine mj_iload_n C dM_capability_2 rfl ?_
  refine mj_callV_iR C (qM_isCapability hok h) (g_M_isCapability l_M_193) rfl e_Model z_M_isCapability ⟨Nat.le_of_ble_eq_true rfl, Nat.le_of_ble_eq_true rfl, rfl, rfl⟩ rfl rfl (Nat.le_of_ble_eq_true rfl) dM_capability_3 (fun a1 h => ?_)
  refine mj_if_eq (tgt := 18) C dM_capability_6 (by decide) (fun c2 => ?_) (fun c2 => ?_)
  · have h := h.1 c2
    refine mj_iconst (a := (-1)) C dM_capability_18 (by decide) ?_
    exact mj_iret C Z dM_capability_19 ⟨_, rfl, rfl, h⟩
  · have h := h.2 c2
    refine mj_iload_n C dM_capability_9 rfl ?_
    refine mj_if_lt (tgt := 18) C dM_capability_10 (by decide) (fun c3 => ?_) (fun c3 => ?_)
    · have h := h.1 c3
      refine mj_iconst (a := (-1)) C dM_capability_18 (by decide) ?_
      exact mj_iret C Z dM_capability_19 ⟨_, rfl, rfl, h⟩
    · have h := h.2 c3
      refine mj_iload_n C dM_capability_13 rfl ?_
      refine mj_iconst (a := 3) C dM_capability_14 (by decide) ?_
      refine mj_icmp_le (tgt := 20) C dM_capability_15 (by decide) (fun c4 => ?_) (fun c4 => ?_)
      · have h := h.1 c4
        refine mj_bipush (a := 8) C dM_capability_20 (by decide) ?_
        refine mj_iload_n C dM_capability_22 rfl ?_
        refine mj_imul C dM_capability_23 ?_
        refine mj_iload_n C dM_capability_24 rfl ?_
        refine mj_iadd C dM_capability_25 ?_
        refine mj_istore C dM_capability_26 (by decide) rfl ?_
        have h := h _ rfl
        refine mj_iload_n C dM_capability_28 rfl ?_
        refine mj_if_ne (tgt := 42) C dM_capability_29 (by decide) (fun c6 => ?_) (fun c6 => ?_)
        · have h := h.1 c6
          refine mj_iload_n C dM_capability_42 rfl ?_
          refine mj_iconst (a := 1) C dM_capability_43 (by decide) ?_
          refine mj_icmp_ne (tgt := 57) C dM_capability_44 (by decide) (fun c7 => ?_) (fun c7 => ?_)
          · have h := h.1 c7
            refine mj_iload_n C dM_capability_57 rfl ?_
            refine mj_iconst (a := 2) C dM_capability_58 (by decide) ?_
            refine mj_icmp_ne (tgt := 72) C dM_capability_59 (by decide) (fun c8 => ?_) (fun c8 => ?_)
            · have h := h.1 c8
              refine mj_aload_n C dM_capability_72 rfl ?_
              refine mj_getR C inM_all rfl e_Model 21 (by decide) l_M_65 rfl dM_capability_73 ?_
              refine mj_iload C dM_capability_76 rfl ?_
              refine mj_iald (t0 := 0) C e_m_parents rfl h.1 dM_capability_78 ?_
              have h := h.2
              exact mj_iret C Z dM_capability_79 ⟨_, rfl, rfl, h⟩
            · have h := h.2 c8
              refine mj_aload_n C dM_capability_62 rfl ?_
              refine mj_getR C inM_all rfl e_Model 20 (by decide) l_M_62 rfl dM_capability_63 ?_
              refine mj_iload C dM_capability_66 rfl ?_
              refine mj_iald (t0 := 0) C e_m_rights rfl h.1 dM_capability_68 ?_
              have h := h.2
              refine mj_goto (tgt := 79) C dM_capability_69 (by decide) ?_
              exact mj_iret C Z dM_capability_79 ⟨_, rfl, rfl, h⟩
          · have h := h.2 c7
            refine mj_aload_n C dM_capability_47 rfl ?_
            refine mj_getR C inM_all rfl e_Model 19 (by decide) l_M_59 rfl dM_capability_48 ?_
            refine mj_iload C dM_capability_51 rfl ?_
            refine mj_iald (t0 := 0) C e_m_objects rfl h.1 dM_capability_53 ?_
            have h := h.2
            refine mj_goto (tgt := 79) C dM_capability_54 (by decide) ?_
            exact mj_iret C Z dM_capability_79 ⟨_, rfl, rfl, h⟩
        · have h := h.2 c6
          refine mj_aload_n C dM_capability_32 rfl ?_
          refine mj_getR C inM_all rfl e_Model 18 (by decide) l_M_56 rfl dM_capability_33 ?_
          refine mj_iload C dM_capability_36 rfl ?_
          refine mj_iald (t0 := 0) C e_m_kinds rfl h.1 dM_capability_38 ?_
          have h := h.2
          refine mj_goto (tgt := 79) C dM_capability_39 (by decide) ?_
          exact mj_iret C Z dM_capability_79 ⟨_, rfl, rfl, h⟩
      · have h := h.2 c4
        refine mj_iconst (a := (-1)) C dM_capability_18 (by decide) ?_
        exact mj_iret C Z dM_capability_19 ⟨_, rfl, rfl, h⟩
/-! GrantKernelModel.descendants -/
def wM_descendants (p0 : Int32) (p1 : Int32) (k : mj_St) (Q : Int32 → Prop) : Prop := wM_isCapability p0 p1 k (fun a1 => (((a1 = 0) → Q (-1)) ∧ ((¬ a1 = 0) → wM_countBelow ((8 * p0) + p1) k (fun a3 => (Q a3)))))
set_option maxRecDepth 100000 in
set_option maxHeartbeats 4000000 in
theorem qM_descendants {E : mj_E} (hok : mj_Ok (mk_v E)) {p0 : Int32} {p1 : Int32} {k mm : mj_St} {Q : Int32 → Prop} (h : wM_descendants p0 p1 k Q) : mj_Ct (mk_v E) yM_descendants (Cond.code yM_descendants cM_descendants 3 (some .int) :: mj_all) { frames := 2, cells := 0, slots := 0, locals := 46 } [.ref 34, .int p0, .int p1] (mm, k) (mj_iR (mm, k) Q) := by
  refine mj_enterA (L := [(0, .ref 34), (1, .int p0), (2, .int p1)]) hok (by decide +kernel) ⟨rfl, rfl⟩ (fun _ => Nat.le_of_ble_eq_true rfl) rfl (fun r C Z => ?_)
  unfold wM_descendants at h
  refine mj_aload_n C dM_descendants_0 rfl ?_
  refine mj_iload_n C dM_descendants_1 rfl ?_
  refine mj_iload_n C dM_descendants_2 rfl ?_
  refine mj_callV_iR C (qM_isCapability hok h) (g_M_isCapability l_M_193) rfl e_Model z_M_isCapability ⟨Nat.le_of_ble_eq_true rfl, Nat.le_of_ble_eq_true rfl, rfl, rfl⟩ rfl rfl (Nat.le_of_ble_eq_true rfl) dM_descendants_3 (fun a1 h => ?_)
  refine mj_if_eq (tgt := 22) C dM_descendants_6 (by decide) (fun c2 => ?_) (fun c2 => ?_)
  · have h := h.1 c2
    refine mj_iconst (a := (-1)) C dM_descendants_22 (by decide) ?_
    exact mj_iret C Z dM_descendants_23 ⟨_, rfl, rfl, h⟩
  · have h := h.2 c2
    refine mj_aload_n C dM_descendants_9 rfl ?_
    refine mj_bipush (a := 8) C dM_descendants_10 (by decide) ?_
    refine mj_iload_n C dM_descendants_12 rfl ?_
    refine mj_imul C dM_descendants_13 ?_
    refine mj_iload_n C dM_descendants_14 rfl ?_
    refine mj_iadd C dM_descendants_15 ?_
    refine mj_callV_iR C (qM_countBelow hok h) (g_M_countBelow l_M_97) rfl e_Model z_M_countBelow ⟨Nat.le_of_ble_eq_true rfl, Nat.le_of_ble_eq_true rfl, rfl, rfl⟩ rfl rfl (Nat.le_of_ble_eq_true rfl) dM_descendants_16 (fun a3 h => ?_)
    refine mj_goto (tgt := 23) C dM_descendants_19 (by decide) ?_
    exact mj_iret C Z dM_descendants_23 ⟨_, rfl, rfl, h⟩
/-! GrantKernelModel.inRow -/
def wM_inRow_19  (k : mj_St)  (Q : Int32 → Prop)  : Prop := Q (-1)
set_option maxRecDepth 100000 in
set_option maxHeartbeats 4000000 in
theorem uM_inRow_19 {E : mj_E} {r : mj_R} {mm : mj_St} {k : mj_St} {Q : Int32 → Prop} (hok : mj_Ok (mk_v E)) (C : mj_Cx (mk_v E) r cM_inRow 3 RM mj_all { frames := 2, cells := 0, slots := 0, locals := 48 }) (Z : mj_Cr (mk_v E) r (some .int) (mj_iR (mm, k) Q))     (h : wM_inRow_19 k Q) : mj_G (mk_v E) r 19 [] [] (mm, k) := by
  unfold wM_inRow_19 at h
  refine mj_iconst (a := (-1)) C dM_inRow_19 (by decide) ?_
  refine mj_goto (tgt := 29) C dM_inRow_20 (by decide) ?_
  exact mj_iret C Z dM_inRow_29 ⟨_, rfl, rfl, h⟩
def wM_inRow (p0 : Int32) (p1 : Int32) (k : mj_St) (Q : Int32 → Prop) : Prop := ((p0 < (-1)) → wM_inRow_19 k Q) ∧ ((¬ p0 < (-1)) → ((3 < p0) → wM_inRow_19 k Q) ∧ ((¬ 3 < p0) → ((p1 < 0) → wM_inRow_19 k Q) ∧ ((¬ p1 < 0) → ((p1 ≤ 5) → wM_at p0 p1 k (fun a5 => (Q a5))) ∧ ((¬ p1 ≤ 5) → wM_inRow_19 k Q))))
set_option maxRecDepth 100000 in
set_option maxHeartbeats 4000000 in
theorem qM_inRow {E : mj_E} (hok : mj_Ok (mk_v E)) {p0 : Int32} {p1 : Int32} {k mm : mj_St} {Q : Int32 → Prop} (h : wM_inRow p0 p1 k Q) : mj_Ct (mk_v E) yM_inRow (Cond.code yM_inRow cM_inRow 3 (some .int) :: mj_all) { frames := 2, cells := 0, slots := 0, locals := 48 } [.ref 34, .int p0, .int p1] (mm, k) (mj_iR (mm, k) Q) := by
  refine mj_enterA (L := [(0, .ref 34), (1, .int p0), (2, .int p1)]) hok (by decide +kernel) ⟨rfl, rfl⟩ (fun _ => Nat.le_of_ble_eq_true rfl) rfl (fun r C Z => ?_)
  unfold wM_inRow at h
  refine mj_iload_n C dM_inRow_0 rfl ?_
  refine mj_iconst (a := (-1)) C dM_inRow_1 (by decide) ?_
  refine mj_icmp_lt (tgt := 19) C dM_inRow_2 (by decide) (fun c1 => ?_) (fun c1 => ?_)
  · have h := h.1 c1
    exact mj_sub2 (uM_inRow_19 hok C Z  h) trivial
  · have h := h.2 c1
    refine mj_iload_n C dM_inRow_5 rfl ?_
    refine mj_iconst (a := 3) C dM_inRow_6 (by decide) ?_
    refine mj_icmp_gt (tgt := 19) C dM_inRow_7 (by decide) (fun c2 => ?_) (fun c2 => ?_)
    · have h := h.1 c2
      exact mj_sub2 (uM_inRow_19 hok C Z  h) trivial
    · have h := h.2 c2
      refine mj_iload_n C dM_inRow_10 rfl ?_
      refine mj_if_lt (tgt := 19) C dM_inRow_11 (by decide) (fun c3 => ?_) (fun c3 => ?_)
      · have h := h.1 c3
        exact mj_sub2 (uM_inRow_19 hok C Z  h) trivial
      · have h := h.2 c3
        refine mj_iload_n C dM_inRow_14 rfl ?_
        refine mj_iconst (a := 5) C dM_inRow_15 (by decide) ?_
        refine mj_icmp_le (tgt := 23) C dM_inRow_16 (by decide) (fun c4 => ?_) (fun c4 => ?_)
        · have h := h.1 c4
          refine mj_aload_n C dM_inRow_23 rfl ?_
          refine mj_iload_n C dM_inRow_24 rfl ?_
          refine mj_iload_n C dM_inRow_25 rfl ?_
          refine mj_callV_iR C (qM_at hok h) (g_M_at l_M_90) rfl e_Model z_M_at ⟨Nat.le_of_ble_eq_true rfl, Nat.le_of_ble_eq_true rfl, rfl, rfl⟩ rfl rfl (Nat.le_of_ble_eq_true rfl) dM_inRow_26 (fun a5 h => ?_)
          exact mj_iret C Z dM_inRow_29 ⟨_, rfl, rfl, h⟩
        · have h := h.2 c4
          exact mj_sub2 (uM_inRow_19 hok C Z  h) trivial
/-! GrantKernelModel.printed -/
def wM_printed  (k : mj_St) (Q : Int32 → Prop) : Prop := Q (k 0 22)
set_option maxRecDepth 100000 in
set_option maxHeartbeats 4000000 in
theorem qM_printed {E : mj_E} (hok : mj_Ok (mk_v E))  {k mm : mj_St} {Q : Int32 → Prop} (h : wM_printed  k Q) : mj_Ct (mk_v E) yM_printed (Cond.code yM_printed cM_printed 1 (some .int) :: mj_all) { frames := 0, cells := 0, slots := 0, locals := 0 } [.ref 34] (mm, k) (mj_iR (mm, k) Q) := by
  refine mj_enterA (L := [(0, .ref 34)]) hok (by decide +kernel) ⟨rfl, rfl⟩ (fun _ => Nat.le_of_ble_eq_true rfl) rfl (fun r C Z => ?_)
  unfold wM_printed at h
  refine mj_aload_n C dM_printed_0 rfl ?_
  refine mj_getI C inM_all rfl e_Model 22 (by decide) l_M_139 rfl dM_printed_1 ?_
  exact mj_iret C Z dM_printed_4 ⟨_, rfl, rfl, h⟩
/-! GrantKernelModel.print -/
def wM_print_18  (k : mj_St)  (Q : Int32 → Prop)  : Prop := Q 0
set_option maxRecDepth 100000 in
set_option maxHeartbeats 4000000 in
theorem uM_print_18 {E : mj_E} {r : mj_R} {mm : mj_St} {k : mj_St} {Q : Int32 → Prop} (hok : mj_Ok (mk_v E)) (C : mj_Cx (mk_v E) r cM_print 2 RM mj_all { frames := 0, cells := 0, slots := 0, locals := 0 }) (Z : mj_Cr (mk_v E) r (some .int) (mj_iR (mm, k) Q))     (h : wM_print_18 k Q) : mj_G (mk_v E) r 18 [] [] (mm, k) := by
  unfold wM_print_18 at h
  refine mj_iconst (a := 0) C dM_print_18 (by decide) ?_
  refine mj_goto (tgt := 38) C dM_print_19 (by decide) ?_
  exact mj_iret C Z dM_print_38 ⟨_, rfl, rfl, h⟩
def wM_print (p0 : Int32) (k : mj_St) (Q : Int32 → Prop) : Prop := ((p0 < 0) → wM_print_18 k Q) ∧ ((¬ p0 < 0) → ((15 < p0) → wM_print_18 k Q) ∧ ((¬ 15 < p0) → ((p0 < (k 0 22)) → vp_in ((((k 0 22) - 1) - p0) &&& 15) 16 ∧ (Q (k 20 ((((k 0 22) - 1) - p0) &&& 15).toNatClampNeg))) ∧ ((¬ p0 < (k 0 22)) → wM_print_18 k Q)))
set_option maxRecDepth 100000 in
set_option maxHeartbeats 4000000 in
theorem qM_print {E : mj_E} (hok : mj_Ok (mk_v E)) {p0 : Int32} {k mm : mj_St} {Q : Int32 → Prop} (h : wM_print p0 k Q) : mj_Ct (mk_v E) yM_print (Cond.code yM_print cM_print 2 (some .int) :: mj_all) { frames := 0, cells := 0, slots := 0, locals := 0 } [.ref 34, .int p0] (mm, k) (mj_iR (mm, k) Q) := by
  refine mj_enterA (L := [(0, .ref 34), (1, .int p0)]) hok (by decide +kernel) ⟨rfl, rfl⟩ (fun _ => Nat.le_of_ble_eq_true rfl) rfl (fun r C Z => ?_)
  unfold wM_print at h
  refine mj_iload_n C dM_print_0 rfl ?_
  refine mj_if_lt (tgt := 18) C dM_print_1 (by decide) (fun c1 => ?_) (fun c1 => ?_)
  · have h := h.1 c1
    exact mj_sub2 (uM_print_18 hok C Z  h) trivial
  · have h := h.2 c1
    refine mj_iload_n C dM_print_4 rfl ?_
    refine mj_bipush (a := 15) C dM_print_5 (by decide) ?_
    refine mj_icmp_gt (tgt := 18) C dM_print_7 (by decide) (fun c2 => ?_) (fun c2 => ?_)
    · have h := h.1 c2
      exact mj_sub2 (uM_print_18 hok C Z  h) trivial
    · have h := h.2 c2
      refine mj_iload_n C dM_print_10 rfl ?_
      refine mj_aload_n C dM_print_11 rfl ?_
      refine mj_getI C inM_all rfl e_Model 22 (by decide) l_M_139 rfl dM_print_12 ?_
      refine mj_icmp_lt (tgt := 22) C dM_print_15 (by decide) (fun c3 => ?_) (fun c3 => ?_)
      · have h := h.1 c3
        refine mj_aload_n C dM_print_22 rfl ?_
        refine mj_getR C inM_all rfl e_Model 23 (by decide) l_M_68 rfl dM_print_23 ?_
        refine mj_aload_n C dM_print_26 rfl ?_
        refine mj_getI C inM_all rfl e_Model 22 (by decide) l_M_139 rfl dM_print_27 ?_
        refine mj_iconst (a := 1) C dM_print_30 (by decide) ?_
        refine mj_isub C dM_print_31 ?_
        refine mj_iload_n C dM_print_32 rfl ?_
        refine mj_isub C dM_print_33 ?_
        refine mj_bipush (a := 15) C dM_print_34 (by decide) ?_
        refine mj_iand C dM_print_36 ?_
        refine mj_iald (t0 := 0) C e_m_prints rfl h.1 dM_print_37 ?_
        have h := h.2
        exact mj_iret C Z dM_print_38 ⟨_, rfl, rfl, h⟩
      · have h := h.2 c3
        exact mj_sub2 (uM_print_18 hok C Z  h) trivial
