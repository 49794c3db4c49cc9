def wL_law_645 (x3 : Int32)  (k : mj_St) (m : mj_St) (xs : Nat → Int32) (Ln : Nat) (K28 : Int32 → mj_St → mj_St → Prop) : Prop := ∀ a8 : Int32, a8 = x3 + 6 → (K28 a8 k m)
set_option maxRecDepth 100000 in
set_option maxHeartbeats 4000000 in
theorem uL_law_645 {E : mj_E} {r : mj_R} {xs : Nat → Int32} {Ln : Nat} (hok : mj_Ok (mk_v E)) (C : mj_Cx (mk_v E) r code 4 RL mj_all room_1) (X : mj_Xs (mk_v E) r Ln xs) (Z : mj_Cl (mk_v E) r) {x3 : Int32} {k : mj_St} {m : mj_St} {K28 : Int32 → mj_St → mj_St → Prop} (hK28 : ∀ (x3 : Int32) (k : mj_St) (m : mj_St), K28 x3 k m → mj_G (mk_v E) r 28 [(0, .ref 55), (1, .ref 0), (2, .ref 34), (3, .int x3)] [] (k, m)) (h : wL_law_645 x3 k m xs Ln K28) : mj_G (mk_v E) r 645 [(0, .ref 55), (1, .ref 0), (2, .ref 34), (3, .int x3)] [] (k, m) := by
  unfold wL_law_645 at h
  refine mj_iinc (b := 6) C dL_law_645 rfl (by decide) (by decide) rfl ?_
  have h := h _ rfl
  refine mj_goto (tgt := 28) C dL_law_648 (by decide) ?_
  exact mj_sub2 (hK28 _ _ _ h) ⟨rfl, rfl, rfl, rfl, trivial⟩
def wL_law_28 (n : Nat) (x3 : Int32)  (k : mj_St) (m : mj_St) (xs : Nat → Int32) (Ln : Nat)  : Prop := match n with
  | 0 => False
  | n + 1 => ((((Int32.ofNat Ln) - 6) < x3) → True) ∧ ((¬ ((Int32.ofNat Ln) - 6) < x3) → vp_in x3 Ln ∧ (((((xs x3.toNatClampNeg) &&& 31) = 0) → vp_in (x3 + 1) Ln ∧ (vp_in (x3 + 2) Ln ∧ (wK_poke (xs (x3 + 1).toNatClampNeg) (xs (x3 + 2).toNatClampNeg) k (fun a3 k4 => (vp_in (x3 + 1) Ln ∧ (vp_in (x3 + 2) Ln ∧ (wM_poke (xs (x3 + 1).toNatClampNeg) (xs (x3 + 2).toNatClampNeg) m (fun a5 k6 => (((a3 = a5) → wL_law_645 x3 k4 k6 xs Ln (fun x3_ k_ m_ => wL_law_28 n x3_ k_ m_ xs Ln)) ∧ ((¬ a3 = a5) → False)))))))))) ∧ (¬ ((xs x3.toNatClampNeg) &&& 31) = 0 → (((((xs x3.toNatClampNeg) &&& 31) = 1) → vp_in (x3 + 1) Ln ∧ (wK_peek (xs (x3 + 1).toNatClampNeg) k (fun a10 => (vp_in (x3 + 1) Ln ∧ (wM_peek (xs (x3 + 1).toNatClampNeg) m (fun a11 => (((a10 = a11) → wL_law_645 x3 k m xs Ln (fun x3_ k_ m_ => wL_law_28 n x3_ k_ m_ xs Ln)) ∧ ((¬ a10 = a11) → False)))))))) ∧ (¬ ((xs x3.toNatClampNeg) &&& 31) = 1 → (((((xs x3.toNatClampNeg) &&& 31) = 2) → vp_in (x3 + 1) Ln ∧ (vp_in (x3 + 2) Ln ∧ (vp_in (x3 + 3) Ln ∧ (wK_spawn (xs (x3 + 1).toNatClampNeg) (xs (x3 + 2).toNatClampNeg) (xs (x3 + 3).toNatClampNeg) k (fun a14 k15 => (vp_in (x3 + 1) Ln ∧ (vp_in (x3 + 2) Ln ∧ (vp_in (x3 + 3) Ln ∧ (wM_spawn (xs (x3 + 1).toNatClampNeg) (xs (x3 + 2).toNatClampNeg) (xs (x3 + 3).toNatClampNeg) m (fun a16 k17 => (((a14 = a16) → wL_law_645 x3 k15 k17 xs Ln (fun x3_ k_ m_ => wL_law_28 n x3_ k_ m_ xs Ln)) ∧ ((¬ a14 = a16) → False)))))))))))) ∧ (¬ ((xs x3.toNatClampNeg) &&& 31) = 2 → (((((xs x3.toNatClampNeg) &&& 31) = 3) → vp_in (x3 + 1) Ln ∧ (vp_in (x3 + 2) Ln ∧ (vp_in (x3 + 3) Ln ∧ (wK_put (xs (x3 + 1).toNatClampNeg) (xs (x3 + 2).toNatClampNeg) (xs (x3 + 3).toNatClampNeg) k (fun a20 k21 => (vp_in (x3 + 1) Ln ∧ (vp_in (x3 + 2) Ln ∧ (vp_in (x3 + 3) Ln ∧ (wM_put (xs (x3 + 1).toNatClampNeg) (xs (x3 + 2).toNatClampNeg) (xs (x3 + 3).toNatClampNeg) m (fun a22 k23 => (((a20 = a22) → wL_law_645 x3 k21 k23 xs Ln (fun x3_ k_ m_ => wL_law_28 n x3_ k_ m_ xs Ln)) ∧ ((¬ a20 = a22) → False)))))))))))) ∧ (¬ ((xs x3.toNatClampNeg) &&& 31) = 3 → (((((xs x3.toNatClampNeg) &&& 31) = 4) → vp_in (x3 + 1) Ln ∧ (vp_in (x3 + 2) Ln ∧ (vp_in (x3 + 3) Ln ∧ (vp_in (x3 + 4) Ln ∧ (vp_in (x3 + 5) Ln ∧ (wK_give (xs (x3 + 1).toNatClampNeg) (xs (x3 + 2).toNatClampNeg) (xs (x3 + 3).toNatClampNeg) (xs (x3 + 4).toNatClampNeg) (xs (x3 + 5).toNatClampNeg) k (fun a26 k27 => (vp_in (x3 + 1) Ln ∧ (vp_in (x3 + 2) Ln ∧ (vp_in (x3 + 3) Ln ∧ (vp_in (x3 + 4) Ln ∧ (vp_in (x3 + 5) Ln ∧ (wM_give (xs (x3 + 1).toNatClampNeg) (xs (x3 + 2).toNatClampNeg) (xs (x3 + 3).toNatClampNeg) (xs (x3 + 4).toNatClampNeg) (xs (x3 + 5).toNatClampNeg) m (fun a28 k29 => (((a26 = a28) → wL_law_645 x3 k27 k29 xs Ln (fun x3_ k_ m_ => wL_law_28 n x3_ k_ m_ xs Ln)) ∧ ((¬ a26 = a28) → False)))))))))))))))) ∧ (¬ ((xs x3.toNatClampNeg) &&& 31) = 4 → (((((xs x3.toNatClampNeg) &&& 31) = 5) → vp_in (x3 + 1) Ln ∧ (wK_reap (xs (x3 + 1).toNatClampNeg) k (fun a32 k33 => (vp_in (x3 + 1) Ln ∧ (wM_reap (xs (x3 + 1).toNatClampNeg) m (fun a34 k35 => (((a32 = a34) → wL_law_645 x3 k33 k35 xs Ln (fun x3_ k_ m_ => wL_law_28 n x3_ k_ m_ xs Ln)) ∧ ((¬ a32 = a34) → False)))))))) ∧ (¬ ((xs x3.toNatClampNeg) &&& 31) = 5 → (((((xs x3.toNatClampNeg) &&& 31) = 6) → vp_in (x3 + 1) Ln ∧ (wK_step (xs (x3 + 1).toNatClampNeg) k (fun a38 k39 => (vp_in (x3 + 1) Ln ∧ (wM_step (xs (x3 + 1).toNatClampNeg) m (fun a40 k41 => (((a38 = a40) → wL_law_645 x3 k39 k41 xs Ln (fun x3_ k_ m_ => wL_law_28 n x3_ k_ m_ xs Ln)) ∧ ((¬ a38 = a40) → False)))))))) ∧ (¬ ((xs x3.toNatClampNeg) &&& 31) = 6 → (((((xs x3.toNatClampNeg) &&& 31) = 7) → vp_in (x3 + 1) Ln ∧ (wK_state (xs (x3 + 1).toNatClampNeg) k (fun a44 => (vp_in (x3 + 1) Ln ∧ (wM_state (xs (x3 + 1).toNatClampNeg) m (fun a45 => (((a44 = a45) → wL_law_645 x3 k m xs Ln (fun x3_ k_ m_ => wL_law_28 n x3_ k_ m_ xs Ln)) ∧ ((¬ a44 = a45) → False)))))))) ∧ (¬ ((xs x3.toNatClampNeg) &&& 31) = 7 → (((((xs x3.toNatClampNeg) &&& 31) = 8) → vp_in (x3 + 1) Ln ∧ (wK_fault (xs (x3 + 1).toNatClampNeg) k (fun a48 => (vp_in (x3 + 1) Ln ∧ (wM_fault (xs (x3 + 1).toNatClampNeg) m (fun a49 => (((a48 = a49) → wL_law_645 x3 k m xs Ln (fun x3_ k_ m_ => wL_law_28 n x3_ k_ m_ xs Ln)) ∧ ((¬ a48 = a49) → False)))))))) ∧ (¬ ((xs x3.toNatClampNeg) &&& 31) = 8 → (((((xs x3.toNatClampNeg) &&& 31) = 9) → vp_in (x3 + 1) Ln ∧ (vp_in (x3 + 2) Ln ∧ (wK_register (xs (x3 + 1).toNatClampNeg) (xs (x3 + 2).toNatClampNeg) k (fun a52 => (vp_in (x3 + 1) Ln ∧ (vp_in (x3 + 2) Ln ∧ (wM_register (xs (x3 + 1).toNatClampNeg) (xs (x3 + 2).toNatClampNeg) m (fun a53 => (((a52 = a53) → wL_law_645 x3 k m xs Ln (fun x3_ k_ m_ => wL_law_28 n x3_ k_ m_ xs Ln)) ∧ ((¬ a52 = a53) → False)))))))))) ∧ (¬ ((xs x3.toNatClampNeg) &&& 31) = 9 → (((((xs x3.toNatClampNeg) &&& 31) = 10) → vp_in (x3 + 1) Ln ∧ (wK_counter (xs (x3 + 1).toNatClampNeg) k (fun a56 => (vp_in (x3 + 1) Ln ∧ (wM_counter (xs (x3 + 1).toNatClampNeg) m (fun a57 => (((a56 = a57) → wL_law_645 x3 k m xs Ln (fun x3_ k_ m_ => wL_law_28 n x3_ k_ m_ xs Ln)) ∧ ((¬ a56 = a57) → False)))))))) ∧ (¬ ((xs x3.toNatClampNeg) &&& 31) = 10 → (((((xs x3.toNatClampNeg) &&& 31) = 11) → vp_in (x3 + 1) Ln ∧ (wK_caller (xs (x3 + 1).toNatClampNeg) k (fun a60 => (vp_in (x3 + 1) Ln ∧ (wM_caller (xs (x3 + 1).toNatClampNeg) m (fun a61 => (((a60 = a61) → wL_law_645 x3 k m xs Ln (fun x3_ k_ m_ => wL_law_28 n x3_ k_ m_ xs Ln)) ∧ ((¬ a60 = a61) → False)))))))) ∧ (¬ ((xs x3.toNatClampNeg) &&& 31) = 11 → (((((xs x3.toNatClampNeg) &&& 31) = 12) → vp_in (x3 + 1) Ln ∧ (vp_in (x3 + 2) Ln ∧ (vp_in (x3 + 3) Ln ∧ (wK_capability (xs (x3 + 1).toNatClampNeg) (xs (x3 + 2).toNatClampNeg) (xs (x3 + 3).toNatClampNeg) k (fun a64 => (vp_in (x3 + 1) Ln ∧ (vp_in (x3 + 2) Ln ∧ (vp_in (x3 + 3) Ln ∧ (wM_capability (xs (x3 + 1).toNatClampNeg) (xs (x3 + 2).toNatClampNeg) (xs (x3 + 3).toNatClampNeg) m (fun a65 => (((a64 = a65) → wL_law_645 x3 k m xs Ln (fun x3_ k_ m_ => wL_law_28 n x3_ k_ m_ xs Ln)) ∧ ((¬ a64 = a65) → False)))))))))))) ∧ (¬ ((xs x3.toNatClampNeg) &&& 31) = 12 → (((((xs x3.toNatClampNeg) &&& 31) = 13) → vp_in (x3 + 1) Ln ∧ (vp_in (x3 + 2) Ln ∧ (wK_descendants (xs (x3 + 1).toNatClampNeg) (xs (x3 + 2).toNatClampNeg) k (fun a68 => (vp_in (x3 + 1) Ln ∧ (vp_in (x3 + 2) Ln ∧ (wM_descendants (xs (x3 + 1).toNatClampNeg) (xs (x3 + 2).toNatClampNeg) m (fun a69 => (((a68 = a69) → wL_law_645 x3 k m xs Ln (fun x3_ k_ m_ => wL_law_28 n x3_ k_ m_ xs Ln)) ∧ ((¬ a68 = a69) → False)))))))))) ∧ (¬ ((xs x3.toNatClampNeg) &&& 31) = 13 → (((((xs x3.toNatClampNeg) &&& 31) = 14) → vp_in (x3 + 1) Ln ∧ (vp_in (x3 + 2) Ln ∧ (wK_inRow (xs (x3 + 1).toNatClampNeg) (xs (x3 + 2).toNatClampNeg) k (fun a72 => (vp_in (x3 + 1) Ln ∧ (vp_in (x3 + 2) Ln ∧ (wM_inRow (xs (x3 + 1).toNatClampNeg) (xs (x3 + 2).toNatClampNeg) m (fun a73 => (((a72 = a73) → wL_law_645 x3 k m xs Ln (fun x3_ k_ m_ => wL_law_28 n x3_ k_ m_ xs Ln)) ∧ ((¬ a72 = a73) → False)))))))))) ∧ (¬ ((xs x3.toNatClampNeg) &&& 31) = 14 → (((((xs x3.toNatClampNeg) &&& 31) = 15) → wK_printed k (fun a76 => (wM_printed m (fun a77 => (((a76 = a77) → wL_law_645 x3 k m xs Ln (fun x3_ k_ m_ => wL_law_28 n x3_ k_ m_ xs Ln)) ∧ ((¬ a76 = a77) → False)))))) ∧ (¬ ((xs x3.toNatClampNeg) &&& 31) = 15 → (((((xs x3.toNatClampNeg) &&& 31) = 16) → vp_in (x3 + 1) Ln ∧ (wK_print (xs (x3 + 1).toNatClampNeg) k (fun a80 => (vp_in (x3 + 1) Ln ∧ (wM_print (xs (x3 + 1).toNatClampNeg) m (fun a81 => (((a80 = a81) → wL_law_645 x3 k m xs Ln (fun x3_ k_ m_ => wL_law_28 n x3_ k_ m_ xs Ln)) ∧ ((¬ a80 = a81) → False)))))))) ∧ (¬ ((xs x3.toNatClampNeg) &&& 31) = 16 → (wL_law_645 x3 k m xs Ln (fun x3_ k_ m_ => wL_law_28 n x3_ k_ m_ xs Ln)))))))))))))))))))))))))))))))))))))
set_option maxRecDepth 100000 in
set_option maxHeartbeats 4000000 in
theorem uL_law_28 {E : mj_E} {r : mj_R} {xs : Nat → Int32} {Ln : Nat} (hok : mj_Ok (mk_v E)) (C : mj_Cx (mk_v E) r code 4 RL mj_all room_1) (X : mj_Xs (mk_v E) r Ln xs) (Z : mj_Cl (mk_v E) r)   : ∀ (n : Nat) (x3 : Int32) (k : mj_St) (m : mj_St), wL_law_28 n x3 k m xs Ln → mj_G (mk_v E) r 28 [(0, .ref 55), (1, .ref 0), (2, .ref 34), (3, .int x3)] [] (k, m) := by
  intro n
  induction n with
  | zero => intro x3 k m h; exact False.elim h
  | succ n ih =>
    intro x3 k m h
    rw [wL_law_28] at h
    refine mj_iload_n C dL_law_28 rfl ?_
    refine mj_aload_n C dL_law_29 rfl ?_
    refine mj_slen C X dL_law_30 ?_
    refine mj_bipush (a := 6) C dL_law_31 (by decide) ?_
    refine mj_isub C dL_law_33 ?_
    refine mj_icmp_gt (tgt := 651) C dL_law_34 (by decide) (fun c1 => ?_) (fun c1 => ?_)
    · have h := h.1 c1
      refine mj_iconst (a := 1) C dL_law_651 (by decide) ?_
      exact mj_lret C Z dL_law_652
    · have h := h.2 c1
      refine mj_aload_n C dL_law_37 rfl ?_
      refine mj_iload_n C dL_law_38 rfl ?_
      refine mj_sld C X h.1 dL_law_39 ?_
      have h := h.2
      refine mj_bipush (a := 31) C dL_law_40 (by decide) ?_
      refine mj_iand C dL_law_42 ?_
      by_cases c2 : ((xs x3.toNatClampNeg) &&& 31) = 0
      · have h := h.1 c2
        refine mj_tableIn (off := 81) (tgt := 124) C dL_law_43 (by rw [c2]; decide) (by rw [c2]; decide) (by rw [c2]; rfl) (by decide) ?_
        refine mj_aload_n C dL_law_124 rfl ?_
        refine mj_aload_n C dL_law_125 rfl ?_
        refine mj_iload_n C dL_law_126 rfl ?_
        refine mj_iconst (a := 1) C dL_law_127 (by decide) ?_
        refine mj_iadd C dL_law_128 ?_
        refine mj_sld C X h.1 dL_law_129 ?_
        have h := h.2
        refine mj_aload_n C dL_law_130 rfl ?_
        refine mj_iload_n C dL_law_131 rfl ?_
        refine mj_iconst (a := 2) C dL_law_132 (by decide) ?_
        refine mj_iadd C dL_law_133 ?_
        refine mj_sld C X h.1 dL_law_134 ?_
        have h := h.2
        refine mj_callV_iWK C (qK_poke hok h) (g_K_poke l_L_21) rfl e_GK z_K_poke ⟨Nat.le_of_ble_eq_true rfl, Nat.le_of_ble_eq_true rfl, rfl, rfl⟩ rfl rfl (Nat.le_of_ble_eq_true rfl) dL_law_135 (fun a3 k4 h => ?_)
        refine mj_aload_n C dL_law_138 rfl ?_
        refine mj_aload_n C dL_law_139 rfl ?_
        refine mj_iload_n C dL_law_140 rfl ?_
        refine mj_iconst (a := 1) C dL_law_141 (by decide) ?_
        refine mj_iadd C dL_law_142 ?_
        refine mj_sld C X h.1 dL_law_143 ?_
        have h := h.2
        refine mj_aload_n C dL_law_144 rfl ?_
        refine mj_iload_n C dL_law_145 rfl ?_
        refine mj_iconst (a := 2) C dL_law_146 (by decide) ?_
        refine mj_iadd C dL_law_147 ?_
        refine mj_sld C X h.1 dL_law_148 ?_
        have h := h.2
        refine mj_callV_iWM C (qM_poke hok h) (g_M_poke l_L_25) rfl e_Model z_M_poke ⟨Nat.le_of_ble_eq_true rfl, Nat.le_of_ble_eq_true rfl, rfl, rfl⟩ rfl rfl (Nat.le_of_ble_eq_true rfl) dL_law_149 (fun a5 k6 h => ?_)
        refine mj_icmp_eq (tgt := 645) C dL_law_152 (by decide) (fun c7 => ?_) (fun c7 => ?_)
        · have h := h.1 c7
          exact mj_sub2 (uL_law_645 hok C X Z (fun _ _ _ h => ih _ _ _ h) h) ⟨rfl, rfl, rfl, rfl, trivial⟩
        · have h := h.2 c7
          refine mj_iconst (a := 0) C dL_law_155 (by decide) ?_
          exact False.elim h
      have h := h.2 c2
      by_cases c9 : ((xs x3.toNatClampNeg) &&& 31) = 1
      · have h := h.1 c9
        refine mj_tableIn (off := 114) (tgt := 157) C dL_law_43 (by rw [c9]; decide) (by rw [c9]; decide) (by rw [c9]; rfl) (by decide) ?_
        refine mj_aload_n C dL_law_157 rfl ?_
        refine mj_aload_n C dL_law_158 rfl ?_
        refine mj_iload_n C dL_law_159 rfl ?_
        refine mj_iconst (a := 1) C dL_law_160 (by decide) ?_
        refine mj_iadd C dL_law_161 ?_
        refine mj_sld C X h.1 dL_law_162 ?_
        have h := h.2
        refine mj_callV_iR C (qK_peek hok h) (g_K_peek l_L_26) rfl e_GK z_K_peek ⟨Nat.le_of_ble_eq_true rfl, Nat.le_of_ble_eq_true rfl, rfl, rfl⟩ rfl rfl (Nat.le_of_ble_eq_true rfl) dL_law_163 (fun a10 h => ?_)
        refine mj_aload_n C dL_law_166 rfl ?_
        refine mj_aload_n C dL_law_167 rfl ?_
        refine mj_iload_n C dL_law_168 rfl ?_
        refine mj_iconst (a := 1) C dL_law_169 (by decide) ?_
        refine mj_iadd C dL_law_170 ?_
        refine mj_sld C X h.1 dL_law_171 ?_
        have h := h.2
        refine mj_callV_iR C (qM_peek hok h) (g_M_peek l_L_30) rfl e_Model z_M_peek ⟨Nat.le_of_ble_eq_true rfl, Nat.le_of_ble_eq_true rfl, rfl, rfl⟩ rfl rfl (Nat.le_of_ble_eq_true rfl) dL_law_172 (fun a11 h => ?_)
        refine mj_icmp_eq (tgt := 645) C dL_law_175 (by decide) (fun c12 => ?_) (fun c12 => ?_)
        · have h := h.1 c12
          exact mj_sub2 (uL_law_645 hok C X Z (fun _ _ _ h => ih _ _ _ h) h) ⟨rfl, rfl, rfl, rfl, trivial⟩
        · have h := h.2 c12
          refine mj_iconst (a := 0) C dL_law_178 (by decide) ?_
          exact False.elim h
      have h := h.2 c9
      by_cases c13 : ((xs x3.toNatClampNeg) &&& 31) = 2
      · have h := h.1 c13
        refine mj_tableIn (off := 137) (tgt := 180) C dL_law_43 (by rw [c13]; decide) (by rw [c13]; decide) (by rw [c13]; rfl) (by decide) ?_
        refine mj_aload_n C dL_law_180 rfl ?_
        refine mj_aload_n C dL_law_181 rfl ?_
        refine mj_iload_n C dL_law_182 rfl ?_
        refine mj_iconst (a := 1) C dL_law_183 (by decide) ?_
        refine mj_iadd C dL_law_184 ?_
        refine mj_sld C X h.1 dL_law_185 ?_
        have h := h.2
        refine mj_aload_n C dL_law_186 rfl ?_
        refine mj_iload_n C dL_law_187 rfl ?_
        refine mj_iconst (a := 2) C dL_law_188 (by decide) ?_
        refine mj_iadd C dL_law_189 ?_
        refine mj_sld C X h.1 dL_law_190 ?_
        have h := h.2
        refine mj_aload_n C dL_law_191 rfl ?_
        refine mj_iload_n C dL_law_192 rfl ?_
        refine mj_iconst (a := 3) C dL_law_193 (by decide) ?_
        refine mj_iadd C dL_law_194 ?_
        refine mj_sld C X h.1 dL_law_195 ?_
        have h := h.2
        refine mj_callV_iWK C (qK_spawn hok h) (g_K_spawn l_L_31) rfl e_GK z_K_spawn ⟨Nat.le_of_ble_eq_true rfl, Nat.le_of_ble_eq_true rfl, rfl, rfl⟩ rfl rfl (Nat.le_of_ble_eq_true rfl) dL_law_196 (fun a14 k15 h => ?_)
        refine mj_aload_n C dL_law_199 rfl ?_
        refine mj_aload_n C dL_law_200 rfl ?_
        refine mj_iload_n C dL_law_201 rfl ?_
        refine mj_iconst (a := 1) C dL_law_202 (by decide) ?_
        refine mj_iadd C dL_law_203 ?_
        refine mj_sld C X h.1 dL_law_204 ?_
        have h := h.2
        refine mj_aload_n C dL_law_205 rfl ?_
        refine mj_iload_n C dL_law_206 rfl ?_
        refine mj_iconst (a := 2) C dL_law_207 (by decide) ?_
        refine mj_iadd C dL_law_208 ?_
        refine mj_sld C X h.1 dL_law_209 ?_
        have h := h.2
        refine mj_aload_n C dL_law_210 rfl ?_
        refine mj_iload_n C dL_law_211 rfl ?_
        refine mj_iconst (a := 3) C dL_law_212 (by decide) ?_
        refine mj_iadd C dL_law_213 ?_
        refine mj_sld C X h.1 dL_law_214 ?_
        have h := h.2
        refine mj_callV_iWM C (qM_spawn hok h) (g_M_spawn l_L_35) rfl e_Model z_M_spawn ⟨Nat.le_of_ble_eq_true rfl, Nat.le_of_ble_eq_true rfl, rfl, rfl⟩ rfl rfl (Nat.le_of_ble_eq_true rfl) dL_law_215 (fun a16 k17 h => ?_)
        refine mj_icmp_eq (tgt := 645) C dL_law_218 (by decide) (fun c18 => ?_) (fun c18 => ?_)
        · have h := h.1 c18
          exact mj_sub2 (uL_law_645 hok C X Z (fun _ _ _ h => ih _ _ _ h) h) ⟨rfl, rfl, rfl, rfl, trivial⟩
        · have h := h.2 c18
          refine mj_iconst (a := 0) C dL_law_221 (by decide) ?_
          exact False.elim h
      have h := h.2 c13
      by_cases c19 : ((xs x3.toNatClampNeg) &&& 31) = 3
      · have h := h.1 c19
        refine mj_tableIn (off := 180) (tgt := 223) C dL_law_43 (by rw [c19]; decide) (by rw [c19]; decide) (by rw [c19]; rfl) (by decide) ?_
        refine mj_aload_n C dL_law_223 rfl ?_
        refine mj_aload_n C dL_law_224 rfl ?_
        refine mj_iload_n C dL_law_225 rfl ?_
        refine mj_iconst (a := 1) C dL_law_226 (by decide) ?_
        refine mj_iadd C dL_law_227 ?_
        refine mj_sld C X h.1 dL_law_228 ?_
        have h := h.2
        refine mj_aload_n C dL_law_229 rfl ?_
        refine mj_iload_n C dL_law_230 rfl ?_
        refine mj_iconst (a := 2) C dL_law_231 (by decide) ?_
        refine mj_iadd C dL_law_232 ?_
        refine mj_sld C X h.1 dL_law_233 ?_
        have h := h.2
        refine mj_aload_n C dL_law_234 rfl ?_
        refine mj_iload_n C dL_law_235 rfl ?_
        refine mj_iconst (a := 3) C dL_law_236 (by decide) ?_
        refine mj_iadd C dL_law_237 ?_
        refine mj_sld C X h.1 dL_law_238 ?_
        have h := h.2
        refine mj_callV_iWK C (qK_put hok h) (g_K_put l_L_36) rfl e_GK z_K_put ⟨Nat.le_of_ble_eq_true rfl, Nat.le_of_ble_eq_true rfl, rfl, rfl⟩ rfl rfl (Nat.le_of_ble_eq_true rfl) dL_law_239 (fun a20 k21 h => ?_)
        refine mj_aload_n C dL_law_242 rfl ?_
        refine mj_aload_n C dL_law_243 rfl ?_
        refine mj_iload_n C dL_law_244 rfl ?_
        refine mj_iconst (a := 1) C dL_law_245 (by decide) ?_
        refine mj_iadd C dL_law_246 ?_
        refine mj_sld C X h.1 dL_law_247 ?_
        have h := h.2
        refine mj_aload_n C dL_law_248 rfl ?_
        refine mj_iload_n C dL_law_249 rfl ?_
        refine mj_iconst (a := 2) C dL_law_250 (by decide) ?_
        refine mj_iadd C dL_law_251 ?_
        refine mj_sld C X h.1 dL_law_252 ?_
        have h := h.2
        refine mj_aload_n C dL_law_253 rfl ?_
        refine mj_iload_n C dL_law_254 rfl ?_
        refine mj_iconst (a := 3) C dL_law_255 (by decide) ?_
        refine mj_iadd C dL_law_256 ?_
        refine mj_sld C X h.1 dL_law_257 ?_
        have h := h.2
        refine mj_callV_iWM C (qM_put hok h) (g_M_put l_L_40) rfl e_Model z_M_put ⟨Nat.le_of_ble_eq_true rfl, Nat.le_of_ble_eq_true rfl, rfl, rfl⟩ rfl rfl (Nat.le_of_ble_eq_true rfl) dL_law_258 (fun a22 k23 h => ?_)
        refine mj_icmp_eq (tgt := 645) C dL_law_261 (by decide) (fun c24 => ?_) (fun c24 => ?_)
        · have h := h.1 c24
          exact mj_sub2 (uL_law_645 hok C X Z (fun _ _ _ h => ih _ _ _ h) h) ⟨rfl, rfl, rfl, rfl, trivial⟩
        · have h := h.2 c24
          refine mj_iconst (a := 0) C dL_law_264 (by decide) ?_
          exact False.elim h
      have h := h.2 c19
      by_cases c25 : ((xs x3.toNatClampNeg) &&& 31) = 4
      · have h := h.1 c25
        refine mj_tableIn (off := 223) (tgt := 266) C dL_law_43 (by rw [c25]; decide) (by rw [c25]; decide) (by rw [c25]; rfl) (by decide) ?_
        refine mj_aload_n C dL_law_266 rfl ?_
        refine mj_aload_n C dL_law_267 rfl ?_
        refine mj_iload_n C dL_law_268 rfl ?_
        refine mj_iconst (a := 1) C dL_law_269 (by decide) ?_
        refine mj_iadd C dL_law_270 ?_
        refine mj_sld C X h.1 dL_law_271 ?_
        have h := h.2
        refine mj_aload_n C dL_law_272 rfl ?_
        refine mj_iload_n C dL_law_273 rfl ?_
        refine mj_iconst (a := 2) C dL_law_274 (by decide) ?_
        refine mj_iadd C dL_law_275 ?_
        refine mj_sld C X h.1 dL_law_276 ?_
        have h := h.2
        refine mj_aload_n C dL_law_277 rfl ?_
        refine mj_iload_n C dL_law_278 rfl ?_
        refine mj_iconst (a := 3) C dL_law_279 (by decide) ?_
        refine mj_iadd C dL_law_280 ?_
        refine mj_sld C X h.1 dL_law_281 ?_
        have h := h.2
        refine mj_aload_n C dL_law_282 rfl ?_
        refine mj_iload_n C dL_law_283 rfl ?_
        refine mj_iconst (a := 4) C dL_law_284 (by decide) ?_
        refine mj_iadd C dL_law_285 ?_
        refine mj_sld C X h.1 dL_law_286 ?_
        have h := h.2
        refine mj_aload_n C dL_law_287 rfl ?_
        refine mj_iload_n C dL_law_288 rfl ?_
        refine mj_iconst (a := 5) C dL_law_289 (by decide) ?_
        refine mj_iadd C dL_law_290 ?_
        refine mj_sld C X h.1 dL_law_291 ?_
        have h := h.2
        refine mj_callV_iWK C (qK_give hok h) (g_K_give l_L_41) rfl e_GK z_K_give ⟨Nat.le_of_ble_eq_true rfl, Nat.le_of_ble_eq_true rfl, rfl, rfl⟩ rfl rfl (Nat.le_of_ble_eq_true rfl) dL_law_292 (fun a26 k27 h => ?_)
        refine mj_aload_n C dL_law_295 rfl ?_
        refine mj_aload_n C dL_law_296 rfl ?_
        refine mj_iload_n C dL_law_297 rfl ?_
        refine mj_iconst (a := 1) C dL_law_298 (by decide) ?_
        refine mj_iadd C dL_law_299 ?_
        refine mj_sld C X h.1 dL_law_300 ?_
        have h := h.2
        refine mj_aload_n C dL_law_301 rfl ?_
        refine mj_iload_n C dL_law_302 rfl ?_
        refine mj_iconst (a := 2) C dL_law_303 (by decide) ?_
        refine mj_iadd C dL_law_304 ?_
        refine mj_sld C X h.1 dL_law_305 ?_
        have h := h.2
        refine mj_aload_n C dL_law_306 rfl ?_
        refine mj_iload_n C dL_law_307 rfl ?_
        refine mj_iconst (a := 3) C dL_law_308 (by decide) ?_
        refine mj_iadd C dL_law_309 ?_
        refine mj_sld C X h.1 dL_law_310 ?_
        have h := h.2
        refine mj_aload_n C dL_law_311 rfl ?_
        refine mj_iload_n C dL_law_312 rfl ?_
        refine mj_iconst (a := 4) C dL_law_313 (by decide) ?_
        refine mj_iadd C dL_law_314 ?_
        refine mj_sld C X h.1 dL_law_315 ?_
        have h := h.2
        refine mj_aload_n C dL_law_316 rfl ?_
        refine mj_iload_n C dL_law_317 rfl ?_
        refine mj_iconst (a := 5) C dL_law_318 (by decide) ?_
        refine mj_iadd C dL_law_319 ?_
        refine mj_sld C X h.1 dL_law_320 ?_
        have h := h.2
        refine mj_callV_iWM C (qM_give hok h) (g_M_give l_L_45) rfl e_Model z_M_give ⟨Nat.le_of_ble_eq_true rfl, Nat.le_of_ble_eq_true rfl, rfl, rfl⟩ rfl rfl (Nat.le_of_ble_eq_true rfl) dL_law_321 (fun a28 k29 h => ?_)
        refine mj_icmp_eq (tgt := 645) C dL_law_324 (by decide) (fun c30 => ?_) (fun c30 => ?_)
        · have h := h.1 c30
          exact mj_sub2 (uL_law_645 hok C X Z (fun _ _ _ h => ih _ _ _ h) h) ⟨rfl, rfl, rfl, rfl, trivial⟩
        · have h := h.2 c30
          refine mj_iconst (a := 0) C dL_law_327 (by decide) ?_
          exact False.elim h
      have h := h.2 c25
      by_cases c31 : ((xs x3.toNatClampNeg) &&& 31) = 5
      · have h := h.1 c31
        refine mj_tableIn (off := 286) (tgt := 329) C dL_law_43 (by rw [c31]; decide) (by rw [c31]; decide) (by rw [c31]; rfl) (by decide) ?_
        refine mj_aload_n C dL_law_329 rfl ?_
        refine mj_aload_n C dL_law_330 rfl ?_
        refine mj_iload_n C dL_law_331 rfl ?_
        refine mj_iconst (a := 1) C dL_law_332 (by decide) ?_
        refine mj_iadd C dL_law_333 ?_
        refine mj_sld C X h.1 dL_law_334 ?_
        have h := h.2
        refine mj_callV_iWK C (qK_reap hok h) (g_K_reap l_L_46) rfl e_GK z_K_reap ⟨Nat.le_of_ble_eq_true rfl, Nat.le_of_ble_eq_true rfl, rfl, rfl⟩ rfl rfl (Nat.le_of_ble_eq_true rfl) dL_law_335 (fun a32 k33 h => ?_)
        refine mj_aload_n C dL_law_338 rfl ?_
        refine mj_aload_n C dL_law_339 rfl ?_
        refine mj_iload_n C dL_law_340 rfl ?_
        refine mj_iconst (a := 1) C dL_law_341 (by decide) ?_
        refine mj_iadd C dL_law_342 ?_
        refine mj_sld C X h.1 dL_law_343 ?_
        have h := h.2
        refine mj_callV_iWM C (qM_reap hok h) (g_M_reap l_L_50) rfl e_Model z_M_reap ⟨Nat.le_of_ble_eq_true rfl, Nat.le_of_ble_eq_true rfl, rfl, rfl⟩ rfl rfl (Nat.le_of_ble_eq_true rfl) dL_law_344 (fun a34 k35 h => ?_)
        refine mj_icmp_eq (tgt := 645) C dL_law_347 (by decide) (fun c36 => ?_) (fun c36 => ?_)
        · have h := h.1 c36
          exact mj_sub2 (uL_law_645 hok C X Z (fun _ _ _ h => ih _ _ _ h) h) ⟨rfl, rfl, rfl, rfl, trivial⟩
        · have h := h.2 c36
          refine mj_iconst (a := 0) C dL_law_350 (by decide) ?_
          exact False.elim h
      have h := h.2 c31
      by_cases c37 : ((xs x3.toNatClampNeg) &&& 31) = 6
      · have h := h.1 c37
        refine mj_tableIn (off := 309) (tgt := 352) C dL_law_43 (by rw [c37]; decide) (by rw [c37]; decide) (by rw [c37]; rfl) (by decide) ?_
        refine mj_aload_n C dL_law_352 rfl ?_
        refine mj_aload_n C dL_law_353 rfl ?_
        refine mj_iload_n C dL_law_354 rfl ?_
        refine mj_iconst (a := 1) C dL_law_355 (by decide) ?_
        refine mj_iadd C dL_law_356 ?_
        refine mj_sld C X h.1 dL_law_357 ?_
        have h := h.2
        refine mj_callV_iWK C (qK_step hok h) (g_K_step l_L_51) rfl e_GK z_K_step ⟨Nat.le_of_ble_eq_true rfl, Nat.le_of_ble_eq_true rfl, rfl, rfl⟩ rfl rfl (Nat.le_of_ble_eq_true rfl) dL_law_358 (fun a38 k39 h => ?_)
        refine mj_aload_n C dL_law_361 rfl ?_
        refine mj_aload_n C dL_law_362 rfl ?_
        refine mj_iload_n C dL_law_363 rfl ?_
        refine mj_iconst (a := 1) C dL_law_364 (by decide) ?_
        refine mj_iadd C dL_law_365 ?_
        refine mj_sld C X h.1 dL_law_366 ?_
        have h := h.2
        refine mj_callV_iWM C (qM_step hok h) (g_M_step l_L_54) rfl e_Model z_M_step ⟨Nat.le_of_ble_eq_true rfl, Nat.le_of_ble_eq_true rfl, rfl, rfl⟩ rfl rfl (Nat.le_of_ble_eq_true rfl) dL_law_367 (fun a40 k41 h => ?_)
        refine mj_icmp_eq (tgt := 645) C dL_law_370 (by decide) (fun c42 => ?_) (fun c42 => ?_)
        · have h := h.1 c42
          exact mj_sub2 (uL_law_645 hok C X Z (fun _ _ _ h => ih _ _ _ h) h) ⟨rfl, rfl, rfl, rfl, trivial⟩
        · have h := h.2 c42
          refine mj_iconst (a := 0) C dL_law_373 (by decide) ?_
          exact False.elim h
      have h := h.2 c37
      by_cases c43 : ((xs x3.toNatClampNeg) &&& 31) = 7
      · have h := h.1 c43
        refine mj_tableIn (off := 332) (tgt := 375) C dL_law_43 (by rw [c43]; decide) (by rw [c43]; decide) (by rw [c43]; rfl) (by decide) ?_
        refine mj_aload_n C dL_law_375 rfl ?_
        refine mj_aload_n C dL_law_376 rfl ?_
        refine mj_iload_n C dL_law_377 rfl ?_
        refine mj_iconst (a := 1) C dL_law_378 (by decide) ?_
        refine mj_iadd C dL_law_379 ?_
        refine mj_sld C X h.1 dL_law_380 ?_
        have h := h.2
        refine mj_callV_iR C (qK_state hok h) (g_K_state l_L_55) rfl e_GK z_K_state ⟨Nat.le_of_ble_eq_true rfl, Nat.le_of_ble_eq_true rfl, rfl, rfl⟩ rfl rfl (Nat.le_of_ble_eq_true rfl) dL_law_381 (fun a44 h => ?_)
        refine mj_aload_n C dL_law_384 rfl ?_
        refine mj_aload_n C dL_law_385 rfl ?_
        refine mj_iload_n C dL_law_386 rfl ?_
        refine mj_iconst (a := 1) C dL_law_387 (by decide) ?_
        refine mj_iadd C dL_law_388 ?_
        refine mj_sld C X h.1 dL_law_389 ?_
        have h := h.2
        refine mj_callV_iR C (qM_state hok h) (g_M_state l_L_58) rfl e_Model z_M_state ⟨Nat.le_of_ble_eq_true rfl, Nat.le_of_ble_eq_true rfl, rfl, rfl⟩ rfl rfl (Nat.le_of_ble_eq_true rfl) dL_law_390 (fun a45 h => ?_)
        refine mj_icmp_eq (tgt := 645) C dL_law_393 (by decide) (fun c46 => ?_) (fun c46 => ?_)
        · have h := h.1 c46
          exact mj_sub2 (uL_law_645 hok C X Z (fun _ _ _ h => ih _ _ _ h) h) ⟨rfl, rfl, rfl, rfl, trivial⟩
        · have h := h.2 c46
          refine mj_iconst (a := 0) C dL_law_396 (by decide) ?_
          exact False.elim h
      have h := h.2 c43
      by_cases c47 : ((xs x3.toNatClampNeg) &&& 31) = 8
      · have h := h.1 c47
        refine mj_tableIn (off := 355) (tgt := 398) C dL_law_43 (by rw [c47]; decide) (by rw [c47]; decide) (by rw [c47]; rfl) (by decide) ?_
        refine mj_aload_n C dL_law_398 rfl ?_
        refine mj_aload_n C dL_law_399 rfl ?_
        refine mj_iload_n C dL_law_400 rfl ?_
        refine mj_iconst (a := 1) C dL_law_401 (by decide) ?_
        refine mj_iadd C dL_law_402 ?_
        refine mj_sld C X h.1 dL_law_403 ?_
        have h := h.2
        refine mj_callV_iR C (qK_fault hok h) (g_K_fault l_L_59) rfl e_GK z_K_fault ⟨Nat.le_of_ble_eq_true rfl, Nat.le_of_ble_eq_true rfl, rfl, rfl⟩ rfl rfl (Nat.le_of_ble_eq_true rfl) dL_law_404 (fun a48 h => ?_)
        refine mj_aload_n C dL_law_407 rfl ?_
        refine mj_aload_n C dL_law_408 rfl ?_
        refine mj_iload_n C dL_law_409 rfl ?_
        refine mj_iconst (a := 1) C dL_law_410 (by decide) ?_
        refine mj_iadd C dL_law_411 ?_
        refine mj_sld C X h.1 dL_law_412 ?_
        have h := h.2
        refine mj_callV_iR C (qM_fault hok h) (g_M_fault l_L_62) rfl e_Model z_M_fault ⟨Nat.le_of_ble_eq_true rfl, Nat.le_of_ble_eq_true rfl, rfl, rfl⟩ rfl rfl (Nat.le_of_ble_eq_true rfl) dL_law_413 (fun a49 h => ?_)
        refine mj_icmp_eq (tgt := 645) C dL_law_416 (by decide) (fun c50 => ?_) (fun c50 => ?_)
        · have h := h.1 c50
          exact mj_sub2 (uL_law_645 hok C X Z (fun _ _ _ h => ih _ _ _ h) h) ⟨rfl, rfl, rfl, rfl, trivial⟩
        · have h := h.2 c50
          refine mj_iconst (a := 0) C dL_law_419 (by decide) ?_
          exact False.elim h
      have h := h.2 c47
      by_cases c51 : ((xs x3.toNatClampNeg) &&& 31) = 9
      · have h := h.1 c51
        refine mj_tableIn (off := 378) (tgt := 421) C dL_law_43 (by rw [c51]; decide) (by rw [c51]; decide) (by rw [c51]; rfl) (by decide) ?_
        refine mj_aload_n C dL_law_421 rfl ?_
        refine mj_aload_n C dL_law_422 rfl ?_
        refine mj_iload_n C dL_law_423 rfl ?_
        refine mj_iconst (a := 1) C dL_law_424 (by decide) ?_
        refine mj_iadd C dL_law_425 ?_
        refine mj_sld C X h.1 dL_law_426 ?_
        have h := h.2
        refine mj_aload_n C dL_law_427 rfl ?_
        refine mj_iload_n C dL_law_428 rfl ?_
        refine mj_iconst (a := 2) C dL_law_429 (by decide) ?_
        refine mj_iadd C dL_law_430 ?_
        refine mj_sld C X h.1 dL_law_431 ?_
        have h := h.2
        refine mj_callV_iR C (qK_register hok h) (g_K_register l_L_63) rfl e_GK z_K_register ⟨Nat.le_of_ble_eq_true rfl, Nat.le_of_ble_eq_true rfl, rfl, rfl⟩ rfl rfl (Nat.le_of_ble_eq_true rfl) dL_law_432 (fun a52 h => ?_)
        refine mj_aload_n C dL_law_435 rfl ?_
        refine mj_aload_n C dL_law_436 rfl ?_
        refine mj_iload_n C dL_law_437 rfl ?_
        refine mj_iconst (a := 1) C dL_law_438 (by decide) ?_
        refine mj_iadd C dL_law_439 ?_
        refine mj_sld C X h.1 dL_law_440 ?_
        have h := h.2
        refine mj_aload_n C dL_law_441 rfl ?_
        refine mj_iload_n C dL_law_442 rfl ?_
        refine mj_iconst (a := 2) C dL_law_443 (by decide) ?_
        refine mj_iadd C dL_law_444 ?_
        refine mj_sld C X h.1 dL_law_445 ?_
        have h := h.2
        refine mj_callV_iR C (qM_register hok h) (g_M_register l_L_67) rfl e_Model z_M_register ⟨Nat.le_of_ble_eq_true rfl, Nat.le_of_ble_eq_true rfl, rfl, rfl⟩ rfl rfl (Nat.le_of_ble_eq_true rfl) dL_law_446 (fun a53 h => ?_)
        refine mj_icmp_eq (tgt := 645) C dL_law_449 (by decide) (fun c54 => ?_) (fun c54 => ?_)
        · have h := h.1 c54
          exact mj_sub2 (uL_law_645 hok C X Z (fun _ _ _ h => ih _ _ _ h) h) ⟨rfl, rfl, rfl, rfl, trivial⟩
        · have h := h.2 c54
          refine mj_iconst (a := 0) C dL_law_452 (by decide) ?_
          exact False.elim h
      have h := h.2 c51
      by_cases c55 : ((xs x3.toNatClampNeg) &&& 31) = 10
      · have h := h.1 c55
        refine mj_tableIn (off := 411) (tgt := 454) C dL_law_43 (by rw [c55]; decide) (by rw [c55]; decide) (by rw [c55]; rfl) (by decide) ?_
        refine mj_aload_n C dL_law_454 rfl ?_
        refine mj_aload_n C dL_law_455 rfl ?_
        refine mj_iload_n C dL_law_456 rfl ?_
        refine mj_iconst (a := 1) C dL_law_457 (by decide) ?_
        refine mj_iadd C dL_law_458 ?_
        refine mj_sld C X h.1 dL_law_459 ?_
        have h := h.2
        refine mj_callV_iR C (qK_counter hok h) (g_K_counter l_L_68) rfl e_GK z_K_counter ⟨Nat.le_of_ble_eq_true rfl, Nat.le_of_ble_eq_true rfl, rfl, rfl⟩ rfl rfl (Nat.le_of_ble_eq_true rfl) dL_law_460 (fun a56 h => ?_)
        refine mj_aload_n C dL_law_463 rfl ?_
        refine mj_aload_n C dL_law_464 rfl ?_
        refine mj_iload_n C dL_law_465 rfl ?_
        refine mj_iconst (a := 1) C dL_law_466 (by decide) ?_
        refine mj_iadd C dL_law_467 ?_
        refine mj_sld C X h.1 dL_law_468 ?_
        have h := h.2
        refine mj_callV_iR C (qM_counter hok h) (g_M_counter l_L_71) rfl e_Model z_M_counter ⟨Nat.le_of_ble_eq_true rfl, Nat.le_of_ble_eq_true rfl, rfl, rfl⟩ rfl rfl (Nat.le_of_ble_eq_true rfl) dL_law_469 (fun a57 h => ?_)
        refine mj_icmp_eq (tgt := 645) C dL_law_472 (by decide) (fun c58 => ?_) (fun c58 => ?_)
        · have h := h.1 c58
          exact mj_sub2 (uL_law_645 hok C X Z (fun _ _ _ h => ih _ _ _ h) h) ⟨rfl, rfl, rfl, rfl, trivial⟩
        · have h := h.2 c58
          refine mj_iconst (a := 0) C dL_law_475 (by decide) ?_
          exact False.elim h
      have h := h.2 c55
      by_cases c59 : ((xs x3.toNatClampNeg) &&& 31) = 11
      · have h := h.1 c59
        refine mj_tableIn (off := 434) (tgt := 477) C dL_law_43 (by rw [c59]; decide) (by rw [c59]; decide) (by rw [c59]; rfl) (by decide) ?_
        refine mj_aload_n C dL_law_477 rfl ?_
        refine mj_aload_n C dL_law_478 rfl ?_
        refine mj_iload_n C dL_law_479 rfl ?_
        refine mj_iconst (a := 1) C dL_law_480 (by decide) ?_
        refine mj_iadd C dL_law_481 ?_
        refine mj_sld C X h.1 dL_law_482 ?_
        have h := h.2
        refine mj_callV_iR C (qK_caller hok h) (g_K_caller l_L_72) rfl e_GK z_K_caller ⟨Nat.le_of_ble_eq_true rfl, Nat.le_of_ble_eq_true rfl, rfl, rfl⟩ rfl rfl (Nat.le_of_ble_eq_true rfl) dL_law_483 (fun a60 h => ?_)
        refine mj_aload_n C dL_law_486 rfl ?_
        refine mj_aload_n C dL_law_487 rfl ?_
        refine mj_iload_n C dL_law_488 rfl ?_
        refine mj_iconst (a := 1) C dL_law_489 (by decide) ?_
        refine mj_iadd C dL_law_490 ?_
        refine mj_sld C X h.1 dL_law_491 ?_
        have h := h.2
        refine mj_callV_iR C (qM_caller hok h) (g_M_caller l_L_75) rfl e_Model z_M_caller ⟨Nat.le_of_ble_eq_true rfl, Nat.le_of_ble_eq_true rfl, rfl, rfl⟩ rfl rfl (Nat.le_of_ble_eq_true rfl) dL_law_492 (fun a61 h => ?_)
        refine mj_icmp_eq (tgt := 645) C dL_law_495 (by decide) (fun c62 => ?_) (fun c62 => ?_)
        · have h := h.1 c62
          exact mj_sub2 (uL_law_645 hok C X Z (fun _ _ _ h => ih _ _ _ h) h) ⟨rfl, rfl, rfl, rfl, trivial⟩
        · have h := h.2 c62
          refine mj_iconst (a := 0) C dL_law_498 (by decide) ?_
          exact False.elim h
      have h := h.2 c59
      by_cases c63 : ((xs x3.toNatClampNeg) &&& 31) = 12
      · have h := h.1 c63
        refine mj_tableIn (off := 457) (tgt := 500) C dL_law_43 (by rw [c63]; decide) (by rw [c63]; decide) (by rw [c63]; rfl) (by decide) ?_
        refine mj_aload_n C dL_law_500 rfl ?_
        refine mj_aload_n C dL_law_501 rfl ?_
        refine mj_iload_n C dL_law_502 rfl ?_
        refine mj_iconst (a := 1) C dL_law_503 (by decide) ?_
        refine mj_iadd C dL_law_504 ?_
        refine mj_sld C X h.1 dL_law_505 ?_
        have h := h.2
        refine mj_aload_n C dL_law_506 rfl ?_
        refine mj_iload_n C dL_law_507 rfl ?_
        refine mj_iconst (a := 2) C dL_law_508 (by decide) ?_
        refine mj_iadd C dL_law_509 ?_
        refine mj_sld C X h.1 dL_law_510 ?_
        have h := h.2
        refine mj_aload_n C dL_law_511 rfl ?_
        refine mj_iload_n C dL_law_512 rfl ?_
        refine mj_iconst (a := 3) C dL_law_513 (by decide) ?_
        refine mj_iadd C dL_law_514 ?_
        refine mj_sld C X h.1 dL_law_515 ?_
        have h := h.2
        refine mj_callV_iR C (qK_capability hok h) (g_K_capability l_L_76) rfl e_GK z_K_capability ⟨Nat.le_of_ble_eq_true rfl, Nat.le_of_ble_eq_true rfl, rfl, rfl⟩ rfl rfl (Nat.le_of_ble_eq_true rfl) dL_law_516 (fun a64 h => ?_)
        refine mj_aload_n C dL_law_519 rfl ?_
        refine mj_aload_n C dL_law_520 rfl ?_
        refine mj_iload_n C dL_law_521 rfl ?_
        refine mj_iconst (a := 1) C dL_law_522 (by decide) ?_
        refine mj_iadd C dL_law_523 ?_
        refine mj_sld C X h.1 dL_law_524 ?_
        have h := h.2
        refine mj_aload_n C dL_law_525 rfl ?_
        refine mj_iload_n C dL_law_526 rfl ?_
        refine mj_iconst (a := 2) C dL_law_527 (by decide) ?_
        refine mj_iadd C dL_law_528 ?_
        refine mj_sld C X h.1 dL_law_529 ?_
        have h := h.2
        refine mj_aload_n C dL_law_530 rfl ?_
        refine mj_iload_n C dL_law_531 rfl ?_
        refine mj_iconst (a := 3) C dL_law_532 (by decide) ?_
        refine mj_iadd C dL_law_533 ?_
        refine mj_sld C X h.1 dL_law_534 ?_
        have h := h.2
        refine mj_callV_iR C (qM_capability hok h) (g_M_capability l_L_79) rfl e_Model z_M_capability ⟨Nat.le_of_ble_eq_true rfl, Nat.le_of_ble_eq_true rfl, rfl, rfl⟩ rfl rfl (Nat.le_of_ble_eq_true rfl) dL_law_535 (fun a65 h => ?_)
        refine mj_icmp_eq (tgt := 645) C dL_law_538 (by decide) (fun c66 => ?_) (fun c66 => ?_)
        · have h := h.1 c66
          exact mj_sub2 (uL_law_645 hok C X Z (fun _ _ _ h => ih _ _ _ h) h) ⟨rfl, rfl, rfl, rfl, trivial⟩
        · have h := h.2 c66
          refine mj_iconst (a := 0) C dL_law_541 (by decide) ?_
          exact False.elim h
      have h := h.2 c63
      by_cases c67 : ((xs x3.toNatClampNeg) &&& 31) = 13
      · have h := h.1 c67
        refine mj_tableIn (off := 500) (tgt := 543) C dL_law_43 (by rw [c67]; decide) (by rw [c67]; decide) (by rw [c67]; rfl) (by decide) ?_
        refine mj_aload_n C dL_law_543 rfl ?_
        refine mj_aload_n C dL_law_544 rfl ?_
        refine mj_iload_n C dL_law_545 rfl ?_
        refine mj_iconst (a := 1) C dL_law_546 (by decide) ?_
        refine mj_iadd C dL_law_547 ?_
        refine mj_sld C X h.1 dL_law_548 ?_
        have h := h.2
        refine mj_aload_n C dL_law_549 rfl ?_
        refine mj_iload_n C dL_law_550 rfl ?_
        refine mj_iconst (a := 2) C dL_law_551 (by decide) ?_
        refine mj_iadd C dL_law_552 ?_
        refine mj_sld C X h.1 dL_law_553 ?_
        have h := h.2
        refine mj_callV_iR C (qK_descendants hok h) (g_K_descendants l_L_80) rfl e_GK z_K_descendants ⟨Nat.le_of_ble_eq_true rfl, Nat.le_of_ble_eq_true rfl, rfl, rfl⟩ rfl rfl (Nat.le_of_ble_eq_true rfl) dL_law_554 (fun a68 h => ?_)
        refine mj_aload_n C dL_law_557 rfl ?_
        refine mj_aload_n C dL_law_558 rfl ?_
        refine mj_iload_n C dL_law_559 rfl ?_
        refine mj_iconst (a := 1) C dL_law_560 (by decide) ?_
        refine mj_iadd C dL_law_561 ?_
        refine mj_sld C X h.1 dL_law_562 ?_
        have h := h.2
        refine mj_aload_n C dL_law_563 rfl ?_
        refine mj_iload_n C dL_law_564 rfl ?_
        refine mj_iconst (a := 2) C dL_law_565 (by decide) ?_
        refine mj_iadd C dL_law_566 ?_
        refine mj_sld C X h.1 dL_law_567 ?_
        have h := h.2
        refine mj_callV_iR C (qM_descendants hok h) (g_M_descendants l_L_83) rfl e_Model z_M_descendants ⟨Nat.le_of_ble_eq_true rfl, Nat.le_of_ble_eq_true rfl, rfl, rfl⟩ rfl rfl (Nat.le_of_ble_eq_true rfl) dL_law_568 (fun a69 h => ?_)
        refine mj_icmp_eq (tgt := 645) C dL_law_571 (by decide) (fun c70 => ?_) (fun c70 => ?_)
        · have h := h.1 c70
          exact mj_sub2 (uL_law_645 hok C X Z (fun _ _ _ h => ih _ _ _ h) h) ⟨rfl, rfl, rfl, rfl, trivial⟩
        · have h := h.2 c70
          refine mj_iconst (a := 0) C dL_law_574 (by decide) ?_
          exact False.elim h
      have h := h.2 c67
      by_cases c71 : ((xs x3.toNatClampNeg) &&& 31) = 14
      · have h := h.1 c71
        refine mj_tableIn (off := 533) (tgt := 576) C dL_law_43 (by rw [c71]; decide) (by rw [c71]; decide) (by rw [c71]; rfl) (by decide) ?_
        refine mj_aload_n C dL_law_576 rfl ?_
        refine mj_aload_n C dL_law_577 rfl ?_
        refine mj_iload_n C dL_law_578 rfl ?_
        refine mj_iconst (a := 1) C dL_law_579 (by decide) ?_
        refine mj_iadd C dL_law_580 ?_
        refine mj_sld C X h.1 dL_law_581 ?_
        have h := h.2
        refine mj_aload_n C dL_law_582 rfl ?_
        refine mj_iload_n C dL_law_583 rfl ?_
        refine mj_iconst (a := 2) C dL_law_584 (by decide) ?_
        refine mj_iadd C dL_law_585 ?_
        refine mj_sld C X h.1 dL_law_586 ?_
        have h := h.2
        refine mj_callV_iR C (qK_inRow hok h) (g_K_inRow l_L_84) rfl e_GK z_K_inRow ⟨Nat.le_of_ble_eq_true rfl, Nat.le_of_ble_eq_true rfl, rfl, rfl⟩ rfl rfl (Nat.le_of_ble_eq_true rfl) dL_law_587 (fun a72 h => ?_)
        refine mj_aload_n C dL_law_590 rfl ?_
        refine mj_aload_n C dL_law_591 rfl ?_
        refine mj_iload_n C dL_law_592 rfl ?_
        refine mj_iconst (a := 1) C dL_law_593 (by decide) ?_
        refine mj_iadd C dL_law_594 ?_
        refine mj_sld C X h.1 dL_law_595 ?_
        have h := h.2
        refine mj_aload_n C dL_law_596 rfl ?_
        refine mj_iload_n C dL_law_597 rfl ?_
        refine mj_iconst (a := 2) C dL_law_598 (by decide) ?_
        refine mj_iadd C dL_law_599 ?_
        refine mj_sld C X h.1 dL_law_600 ?_
        have h := h.2
        refine mj_callV_iR C (qM_inRow hok h) (g_M_inRow l_L_87) rfl e_Model z_M_inRow ⟨Nat.le_of_ble_eq_true rfl, Nat.le_of_ble_eq_true rfl, rfl, rfl⟩ rfl rfl (Nat.le_of_ble_eq_true rfl) dL_law_601 (fun a73 h => ?_)
        refine mj_icmp_eq (tgt := 645) C dL_law_604 (by decide) (fun c74 => ?_) (fun c74 => ?_)
        · have h := h.1 c74
          exact mj_sub2 (uL_law_645 hok C X Z (fun _ _ _ h => ih _ _ _ h) h) ⟨rfl, rfl, rfl, rfl, trivial⟩
        · have h := h.2 c74
          refine mj_iconst (a := 0) C dL_law_607 (by decide) ?_
          exact False.elim h
      have h := h.2 c71
      by_cases c75 : ((xs x3.toNatClampNeg) &&& 31) = 15
      · have h := h.1 c75
        refine mj_tableIn (off := 566) (tgt := 609) C dL_law_43 (by rw [c75]; decide) (by rw [c75]; decide) (by rw [c75]; rfl) (by decide) ?_
        refine mj_aload_n C dL_law_609 rfl ?_
        refine mj_callV_iR C (qK_printed hok h) (g_K_printed l_L_88) rfl e_GK z_K_printed ⟨Nat.le_of_ble_eq_true rfl, Nat.le_of_ble_eq_true rfl, rfl, rfl⟩ rfl rfl (Nat.le_of_ble_eq_true rfl) dL_law_610 (fun a76 h => ?_)
        refine mj_aload_n C dL_law_613 rfl ?_
        refine mj_callV_iR C (qM_printed hok h) (g_M_printed l_L_92) rfl e_Model z_M_printed ⟨Nat.le_of_ble_eq_true rfl, Nat.le_of_ble_eq_true rfl, rfl, rfl⟩ rfl rfl (Nat.le_of_ble_eq_true rfl) dL_law_614 (fun a77 h => ?_)
        refine mj_icmp_eq (tgt := 645) C dL_law_617 (by decide) (fun c78 => ?_) (fun c78 => ?_)
        · have h := h.1 c78
          exact mj_sub2 (uL_law_645 hok C X Z (fun _ _ _ h => ih _ _ _ h) h) ⟨rfl, rfl, rfl, rfl, trivial⟩
        · have h := h.2 c78
          refine mj_iconst (a := 0) C dL_law_620 (by decide) ?_
          exact False.elim h
      have h := h.2 c75
      by_cases c79 : ((xs x3.toNatClampNeg) &&& 31) = 16
      · have h := h.1 c79
        refine mj_tableIn (off := 579) (tgt := 622) C dL_law_43 (by rw [c79]; decide) (by rw [c79]; decide) (by rw [c79]; rfl) (by decide) ?_
        refine mj_aload_n C dL_law_622 rfl ?_
        refine mj_aload_n C dL_law_623 rfl ?_
        refine mj_iload_n C dL_law_624 rfl ?_
        refine mj_iconst (a := 1) C dL_law_625 (by decide) ?_
        refine mj_iadd C dL_law_626 ?_
        refine mj_sld C X h.1 dL_law_627 ?_
        have h := h.2
        refine mj_callV_iR C (qK_print hok h) (g_K_print l_L_93) rfl e_GK z_K_print ⟨Nat.le_of_ble_eq_true rfl, Nat.le_of_ble_eq_true rfl, rfl, rfl⟩ rfl rfl (Nat.le_of_ble_eq_true rfl) dL_law_628 (fun a80 h => ?_)
        refine mj_aload_n C dL_law_631 rfl ?_
        refine mj_aload_n C dL_law_632 rfl ?_
        refine mj_iload_n C dL_law_633 rfl ?_
        refine mj_iconst (a := 1) C dL_law_634 (by decide) ?_
        refine mj_iadd C dL_law_635 ?_
        refine mj_sld C X h.1 dL_law_636 ?_
        have h := h.2
        refine mj_callV_iR C (qM_print hok h) (g_M_print l_L_96) rfl e_Model z_M_print ⟨Nat.le_of_ble_eq_true rfl, Nat.le_of_ble_eq_true rfl, rfl, rfl⟩ rfl rfl (Nat.le_of_ble_eq_true rfl) dL_law_637 (fun a81 h => ?_)
        refine mj_icmp_eq (tgt := 645) C dL_law_640 (by decide) (fun c82 => ?_) (fun c82 => ?_)
        · have h := h.1 c82
          exact mj_sub2 (uL_law_645 hok C X Z (fun _ _ _ h => ih _ _ _ h) h) ⟨rfl, rfl, rfl, rfl, trivial⟩
        · have h := h.2 c82
          refine mj_iconst (a := 0) C dL_law_643 (by decide) ?_
          exact False.elim h
      have h := h.2 c79
      have nc2 := lv_neT (k := 0) (a := 0) c2 (by decide)
      have nc9 := lv_neT (k := 1) (a := 1) c9 (by decide)
      have nc13 := lv_neT (k := 2) (a := 2) c13 (by decide)
      have nc19 := lv_neT (k := 3) (a := 3) c19 (by decide)
      have nc25 := lv_neT (k := 4) (a := 4) c25 (by decide)
      have nc31 := lv_neT (k := 5) (a := 5) c31 (by decide)
      have nc37 := lv_neT (k := 6) (a := 6) c37 (by decide)
      have nc43 := lv_neT (k := 7) (a := 7) c43 (by decide)
      have nc47 := lv_neT (k := 8) (a := 8) c47 (by decide)
      have nc51 := lv_neT (k := 9) (a := 9) c51 (by decide)
      have nc55 := lv_neT (k := 10) (a := 10) c55 (by decide)
      have nc59 := lv_neT (k := 11) (a := 11) c59 (by decide)
      have nc63 := lv_neT (k := 12) (a := 12) c63 (by decide)
      have nc67 := lv_neT (k := 13) (a := 13) c67 (by decide)
      have nc71 := lv_neT (k := 14) (a := 14) c71 (by decide)
      have nc75 := lv_neT (k := 15) (a := 15) c75 (by decide)
      have nc79 := lv_neT (k := 16) (a := 16) c79 (by decide)
      refine mj_tableOut (tgt := 645) C dL_law_43 (by omega) (by decide) ?_
      exact mj_sub2 (uL_law_645 hok C X Z (fun _ _ _ h => ih _ _ _ h) h) ⟨rfl, rfl, rfl, rfl, trivial⟩
